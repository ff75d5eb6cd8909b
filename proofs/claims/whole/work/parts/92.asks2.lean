/-! PURE: queries of OPERANDS, of what is read; FUEL, what the latest RUN did -/
section AO
variable {P : zx_S} {nb : Nat} {sz : Nat → Nat} {t : zc_Tb}
/-- an OPERAND, for both -/
theorem zI_op_cases {σ τ : zx_S} (h : zI_P P nb sz t σ τ) (p q : Int32) : ∃ σ1 τ1, zX_ValueBench_refresh σ = some σ1 ∧ zI_P P nb sz t σ1 τ1 ∧ ((zX_Values_hasOperand p q σ1 = some 0 ∧ zM_ValueBenchModel_isOperand p q τ = some (0, τ1)) ∨ ∃ v j, p = nI v ∧ q = nI j ∧ 0 < nb ∧ v < zt_T t ∧ j < zt_c t v ∧ zX_Ca P nb sz t σ1 ∧ zm_Ca P nb sz t τ1 ∧ zX_Values_hasOperand p q σ1 = some 1 ∧ zM_ValueBenchModel_isOperand p q τ = some (1, τ1)) := by
  have hW := h.1
  obtain ⟨σ1, x1, x2, x3⟩ := h.X
  obtain ⟨τ1, y1, y2, y3⟩ := x3.M
  refine ⟨σ1, τ1, x1, y3, ?_⟩
  unfold zX_Values_hasOperand zM_ValueBenchModel_isOperand
  rcases zI_val_cases hW h.2.1 x2 y2 p with ⟨a1, a2⟩ | ⟨v, rfl, hn, hv, a1, a2, a3⟩
  · left
    rw [a1, zc_b1, if_pos rfl, zM_isValue_no y1 a2, zc_b2, if_pos rfl]; exact ⟨rfl, rfl⟩
  · have ht := h.2.1 hn
    have hH := ht.H hW hn
    have hT := hH.2.2.2.2
    have hc := hH.2.2.2.1 v hv
    obtain ⟨r0, r1, r2, r3, r4, r5, r6, r7⟩ := zI_row hW hn ht x2 y2 hv
    rw [a1, zc_b1, if_neg z10, zM_isValue_yes y1 a2 a3, zc_b2, if_neg z10]
    simp only [zc_ck (show v < 270 by omega) (by decide), zc_cl (show v < 2 ^ 31 by omega), r6, r7, zc_b1]
    rcases zI_int q with hq | ⟨j, hj, rfl⟩
    · left; rw [if_pos hq, if_pos hq]; exact ⟨rfl, rfl⟩
    · rw [if_neg (nI_pos hj), if_neg (nI_pos hj)]
      by_cases c : zt_c t v ≤ j
      · left
        have : nI (zt_c t v) ≤ nI j := by rw [nI_leI (by omega) hj]; exact c
        rw [if_pos this, if_pos this]; exact ⟨rfl, rfl⟩
      · right
        have : ¬ nI (zt_c t v) ≤ nI j := by rw [nI_leI (by omega) hj]; exact c
        rw [if_neg this, if_neg this]
        exact ⟨v, j, rfl, rfl, hn, hv, by omega, x2, y2.1 hn, rfl, rfl⟩
theorem zI_operand : zp_S9 zI := by
  rintro σ τ p q ⟨P, nb, sz, t, h⟩
  have hW := h.1
  obtain ⟨σ1, τ1, x1, x3, hc⟩ := zI_op_cases h p q
  unfold zX_ValueBench_operand zM_ValueBenchModel_operand
  rw [x1, zc_b1]
  rcases hc with ⟨a1, a2⟩ | ⟨v, j, rfl, rfl, hn, hv, hj, x2, y2, a1, a2⟩
  · rw [a1, zc_b1, if_pos rfl, a2, zc_b2, if_pos rfl]; exact ⟨_, _, _, rfl, rfl, P, nb, sz, t, x3⟩
  · have ht := h.2.1 hn
    have hH := ht.Ht hW hn
    have hT := hH.1.2.2.2.2
    have hcv := hH.1.2.2.2.1 v hv
    have fj := hH.foj hv hj
    have xl := (x2.2.2.1 hn).1
    rw [a1, zc_b1, if_neg z10, a2, zc_b2, if_neg z10, zc_ck (show v < 262 by omega) (by decide), zc_cl (by omega), xl.2.1.2.2.1 v (by omega), nI_add, zc_ck fj (by decide), zc_cl (show zt (zt_c t) v + j < 2 ^ 31 by omega), xl.2.1.2.2.2 v hv j hj, nI_20, zc_ck (show 20 * v + j < 5400 by omega) (by decide), zc_cl (show 20 * v + j < 2 ^ 31 by omega), (y2.2.2.2.2.1.2 v hv).2.2.2.2 j hj]
    exact ⟨_, _, _, rfl, rfl, P, nb, sz, t, x3⟩
theorem zI_led : zp_S10 zI := by
  rintro σ τ p q ⟨P, nb, sz, t, h⟩
  have hW := h.1
  obtain ⟨σ1, τ1, x1, x3, hc⟩ := zI_op_cases h p q
  unfold zX_ValueBench_led zM_ValueBenchModel_led
  rw [x1, zc_b1]
  rcases hc with ⟨a1, a2⟩ | ⟨v, j, rfl, rfl, hn, hv, hj, x2, y2, a1, a2⟩
  · rw [a1, zc_b1, if_pos rfl, a2, zc_b2, if_pos rfl]; exact ⟨_, _, _, rfl, rfl, P, nb, sz, t, x3⟩
  · have ht := h.2.1 hn
    have hH := ht.Ht hW hn
    have hT := hH.1.2.2.2.2
    have hcv := hH.1.2.2.2.1 v hv
    have fj := hH.foj hv hj
    obtain ⟨xl, xe, -⟩ := x2.2.2.1 hn
    rw [a1, zc_b1, if_neg z10, a2, zc_b2, if_neg z10]
    simp only [zc_ck (show v < 261 by omega) (by decide), zc_ck (show v < 262 by omega) (by decide), zc_ck (show v < 270 by omega) (by decide), zc_cl (show v < 2 ^ 31 by omega), xe.1 v hv, y2.2.2.2.2.2.2 v hv, xl.2.1.2.2.1 v (by omega), nI_add, zc_ck fj (by decide), zc_cl (show zt (zt_c t) v + j < 2 ^ 31 by omega), zM_ledOperand_eq hW hn ht x3.2.2.1.1 y2 hv hj, zc_b1, zi_0]
    by_cases c : zp (zq_rd P nb t v) = false
    · rw [if_pos c, if_pos c, xe.2.2.1 v j hv (zp_f.mp c) hj]
      exact ⟨_, _, _, rfl, rfl, P, nb, sz, t, x3⟩
    · rw [if_neg c, if_neg c]
      exact ⟨_, _, _, rfl, rfl, P, nb, sz, t, x3⟩
/-- a BLOCK that is reached, for both -/
theorem zI_one {σ τ : zx_S} (h : zI_P P nb sz t σ τ) (p : Int32) : ∃ σ1, zX_ValueBench_refresh σ = some σ1 ∧ zX_Ca P nb sz t σ1 ∧ zI_P P nb sz t σ1 τ ∧ ((zM_ValueBenchModel_isBlock p τ = some 0 ∧ zX_Graph_reaches p σ1 = some 0) ∨ ∃ b τ1, p = nI b ∧ b < nb ∧ zM_ValueBenchModel_isBlock p τ = some 1 ∧ zM_ValueBenchModel_make τ = some τ1 ∧ zm_Ca P nb sz t τ1 ∧ zI_P P nb sz t σ1 τ1 ∧ τ1 10 b = zi (zp (zq_rc P nb b)) ∧ zX_Graph_reaches p σ1 = some (zi (zp (zq_rc P nb b)))) := by
  have hW := h.1
  have hnb := hW.2.1
  obtain ⟨σ1, x1, x2, x3⟩ := h.X
  refine ⟨σ1, x1, x2, x3, ?_⟩
  rcases zM_block_cases hW h.2.2.1.1 p with ⟨m1, m2⟩ | ⟨b, rfl, hb, m1⟩
  · left
    refine ⟨m1, ?_⟩
    rcases zX_reach_cases hW x2 p with ⟨r1, -⟩ | ⟨b, e, hr, -⟩
    · exact r1
    · exact absurd ⟨b, e, hr.1⟩ m2
  · right
    obtain ⟨τ1, y1, y2, y3⟩ := x3.M
    exact ⟨b, τ1, rfl, hb, m1, y1, y2.1 (by omega), y3, y2.r10 hb, zX_reaches_eq hnb x2.2.1.1 (by omega)⟩
theorem zI_read : zp_S12 zI := by
  rintro σ τ p q ⟨P, nb, sz, t, h⟩ hq
  have hW := h.1
  have hnb := hW.2.1
  obtain ⟨σ1, x1, x2, x3, hc⟩ := zI_one h p
  unfold zX_ValueBench_read zM_ValueBenchModel_read
  rw [x1, zc_b1]
  rcases hc with ⟨m1, r1⟩ | ⟨b, τ1, rfl, hb, m1, y1, y2, y3, e10, r1⟩
  · rw [m1, zc_b1, if_pos rfl, r1, zc_b1, if_pos rfl]; exact ⟨_, _, _, rfl, rfl, P, nb, sz, t, x3⟩
  · have hn : 0 < nb := by omega
    have ht := h.2.1 hn
    rw [m1, zc_b1, if_neg z10, y1, zc_b1, r1, zc_b1]
    simp only [zc_ck (show b < 16 by omega) (by decide), zc_cl (show b < 2 ^ 31 by omega), e10, zi_0]
    by_cases c : zp (zq_rc P nb b) = false
    · rw [if_pos c, if_pos c]; exact ⟨_, _, _, rfl, rfl, P, nb, sz, t, y3⟩
    · rw [if_neg c, if_neg c]
      have hr : zq_rc P nb b := zp_t.mp (by simpa using c)
      obtain ⟨xl, xe, -⟩ := x2.2.2.1 hn
      rw [(xl.1.2.1 b hr).2.2.2, (xe.2.2.2 b hr).2, zM_howOf_eq y3.2.2.1.1 (show b < 16 by omega), zc_b1]
      by_cases d : zq_how P b = 1
      · simp only [if_pos d]
        by_cases e : q = 0
        · rw [if_pos e]; exact ⟨_, _, _, rfl, rfl, P, nb, sz, t, y3⟩
        · rw [if_neg e]; exact ⟨_, _, _, rfl, rfl, P, nb, sz, t, y3⟩
      · simp only [if_neg d]
        rw [zM_reads_eq hW hn ht y3.2.2.1.1 y2 hr d q, zc_b1]
        by_cases e : q = 0
        · rw [if_pos e, if_pos e]; exact ⟨_, _, _, rfl, rfl, P, nb, sz, t, y3⟩
        · rw [if_neg e, if_neg e]; exact ⟨_, _, _, rfl, rfl, P, nb, sz, t, y3⟩
theorem zI_ran : zp_S16 zI := by
  rintro σ τ p ⟨P, nb, sz, t, h⟩
  have hR := h.2.2.2.2
  unfold zX_ValueBench_ran zM_ValueBenchModel_ran
  rw [hR.2.2.1, hR.2.2.2.1, hR.2.2.2.2.1, hR.2.2.2.2.2.1]
  have some_of : ∀ x : Int32, ∃ v, some x = some v ∧ some x = some v ∧ zI σ τ := fun x => ⟨x, rfl, rfl, P, nb, sz, t, h⟩
  by_cases c0 : p = 0
  · rw [if_pos c0]; exact some_of _
  · rw [if_neg c0]
    by_cases c1 : p = 1
    · rw [if_pos c1]; exact some_of _
    · rw [if_neg c1]
      by_cases c2 : p = 2
      · rw [if_pos c2]; exact some_of _
      · rw [if_neg c2]
        by_cases c3 : p = 3
        · rw [if_pos c3]; exact some_of _
        · rw [if_neg c3]; exact some_of _
theorem zI_emitted : zp_S17 zI := by
  rintro σ τ p ⟨P, nb, sz, t, h⟩
  have hR := h.2.2.2.2
  unfold zX_ValueBench_emitted zM_ValueBenchModel_emitted
  have e37 : σ 50 6 = τ 0 37 := hR.2.2.2.2.1
  rcases zI_int p with q | ⟨n, hn, rfl⟩
  · rw [if_pos q, if_pos q]; exact ⟨_, rfl, rfl, P, nb, sz, t, h⟩
  · rw [if_neg (nI_pos hn), if_neg (nI_pos hn), e37]
    by_cases c1 : (60 : Int32) ≤ nI n
    · rw [if_pos c1]
      by_cases c2 : τ 0 37 ≤ nI n
      · rw [if_pos c2]; exact ⟨_, rfl, rfl, P, nb, sz, t, h⟩
      · rw [if_neg c2, if_pos c1]; exact ⟨_, rfl, rfl, P, nb, sz, t, h⟩
    · rw [if_neg c1]
      have h60 : n < 60 := by rw [show (60 : Int32) = nI 60 by decide, nI_leI (by omega) hn] at c1; omega
      by_cases c2 : τ 0 37 ≤ nI n
      · rw [if_pos c2, if_pos c2]; exact ⟨_, rfl, rfl, P, nb, sz, t, h⟩
      · rw [if_neg c2, if_neg c2, if_neg c1, zc_ck h60 (by decide), zc_ck h60 (by decide), zc_cl hn, hR.2.2.2.2.2.2.1 n h60 (by rw [Int32.lt_iff_toInt_lt]; rw [Int32.le_iff_toInt_le] at c2; omega)]
        exact ⟨_, rfl, rfl, P, nb, sz, t, h⟩
theorem zI_fuel : zp_S15 zI := by
  rintro σ τ p ⟨P, nb, sz, t, h⟩
  obtain ⟨hW, ht, ⟨m1, m2, m3⟩, ⟨x1, x2, x3⟩, hR⟩ := id h
  unfold zX_ValueBench_fuel zM_ValueBenchModel_fuel
  by_cases c1 : p < 1
  · rw [if_pos c1, if_pos c1]; exact ⟨_, _, _, rfl, rfl, P, nb, sz, t, h⟩
  · rw [if_neg c1, if_neg c1]
    by_cases c2 : p ≤ 5000
    · rw [if_pos c2, if_pos c2, zc_lt, zc_ls, zc_lt, zc_ls, hR.1]
      refine ⟨_, _, _, rfl, rfl, P, nb, sz, t, hW, ht, ⟨m1.su (Or.inr ⟨rfl, by decide⟩), fun q => ?_, by rw [zs_ne (Or.inr (by decide))]; exact m3⟩, ⟨x1.keep (fun c i h1 h2 => zs_ne (Or.inl (by omega))), by rw [zs_ne (Or.inl (by decide))]; exact x2, fun q => ?_⟩, ?_⟩
      · rw [zs_ne (Or.inr (by decide))] at q
        exact (m2 q).keep (fun c i hc => zs_ne (by omega))
      · rw [zs_ne (Or.inl (by decide))] at q
        obtain ⟨a1, a2, a3, a4⟩ := x3 q
        have hk : ∀ c i, c ≤ 41 → zx_su σ 50 3 p c i = σ c i := fun c i hc => zs_ne (Or.inl (by omega))
        refine ⟨a1.keep (fun c i h1 h2 => hk c i (by omega)), a2.keep (fun c i h1 h2 => hk c i (by omega)), fun hn => ?_, fun h0 => ?_⟩
        · obtain ⟨b1, ⟨d1, d2, d3, d4⟩, b3⟩ := a3 hn
          exact ⟨b1.keep (fun c i h1 h2 => hk c i (by omega)), ⟨fun v hv => by rw [hk 37 v (by decide)]; exact d1 v hv, by rw [hk 36 2 (by decide)]; exact d2, fun v j h1 h2 h3 => by rw [hk 39 _ (by decide)]; exact d3 v j h1 h2 h3, fun b hb => ⟨fun k h1 h2 => by rw [hk 40 _ (by decide)]; exact (d4 b hb).1 k h1 h2, by rw [hk 41 _ (by decide)]; exact (d4 b hb).2⟩⟩, by rw [hk 33 2 (by decide)]; exact b3⟩
        · obtain ⟨b1, b2, b3, b4⟩ := a4 h0
          exact ⟨by rw [hk 18 11 (by decide)]; exact b1, fun b hb => by rw [hk 30 b (by decide)]; exact b2 b hb, by rw [hk 33 2 (by decide)]; exact b3, by rw [hk 36 2 (by decide)]; exact b4⟩
      · obtain ⟨r1, r2, r3, r4, r5, r6, r7, r8, r9⟩ := hR
        have f34 : ∀ i, i ≠ 34 → zx_su τ 0 34 p 0 i = τ 0 i := fun i hi => zs_ne (Or.inr hi)
        have f50 : ∀ i, i ≠ 3 → zx_su σ 50 3 p 50 i = σ 50 i := fun i hi => zs_ne (Or.inr hi)
        have hp0 : ¬ p < 0 := fun z => c1 (by rw [Int32.lt_iff_toInt_lt] at z ⊢; have e0 : (0 : Int32).toInt = 0 := (by decide); have e1 : (1 : Int32).toInt = 1 := (by decide); omega)
        obtain ⟨f, hf, e⟩ := nI_of hp0
        refine ⟨by rw [zs_eq, zs_eq], ⟨f, ?_, ?_, by rw [zs_eq]; exact e⟩, by rw [f50 4 (by decide), f34 35 (by decide)]; exact r3, by rw [f50 5 (by decide), f34 36 (by decide)]; exact r4, by rw [f50 6 (by decide), f34 37 (by decide)]; exact r5, by rw [f50 7 (by decide), f34 38 (by decide)]; exact r6, fun i hi => by rw [f34 37 (by decide), zs_ne (Or.inl (by decide)), zs_ne (Or.inl (by decide))]; exact r7 i hi, by rw [zs_ne (Or.inl (by decide))]; exact r8, by rw [zs_ne (Or.inl (by decide))]; exact r9⟩
        · rw [e, show (5000 : Int32) = nI 5000 by decide, nI_leI hf (by omega)] at c2; exact c2
        · rw [e, show (1 : Int32) = nI 1 by decide, nI_ltI hf (by omega)] at c1; omega
    · rw [if_neg c2, if_neg c2]; exact ⟨_, _, _, rfl, rfl, P, nb, sz, t, h⟩
end AO
