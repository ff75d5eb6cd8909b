/-! PURE: queries of BLOCKS by two, of VALUES -/
theorem z10 : ¬ (1 : Int32) = 0 := by decide
section AS
variable {P : zx_S} {nb : Nat} {sz : Nat → Nat} {t : zc_Tb}
/-- both worlds know as many VALUES -/
theorem zX_Ca.size {s : zx_S} (hW : zq_WF P nb sz) (h : zX_Ca P nb sz t s) : s 18 11 = nI (if nb = 0 then 0 else zt_T t) := by
  by_cases c : nb = 0
  · rw [if_pos c, (h.2.2.2 c).1]; exact nI_0.symm
  · rw [if_neg c]; exact (h.2.2.1 (by omega)).1.2.1.1
theorem zm_Cb.size {s : zx_S} (h : zm_Cb P nb sz t s) : s 0 18 = nI (if nb = 0 then 0 else zt_T t) := by
  by_cases c : nb = 0
  · rw [if_pos c, h.2 c]; exact nI_0.symm
  · rw [if_neg c]; exact (h.1 (by omega)).2.2.2.2.1.1
theorem zI_T (hW : zq_WF P nb sz) (ht : 0 < nb → zq_Tab P nb sz t) : (if nb = 0 then 0 else zt_T t) ≤ 261 := by
  by_cases c : nb = 0
  · rw [if_pos c]; omega
  · rw [if_neg c]; exact ((ht (by omega)).H hW (by omega)).2.2.2.2
theorem zI_val_cases {σ τ : zx_S} (hW : zq_WF P nb sz) (ht : 0 < nb → zq_Tab P nb sz t) (hx : zX_Ca P nb sz t σ) (hm : zm_Cb P nb sz t τ) (p : Int32) : (zX_Values_has p σ = some 0 ∧ (p < 0 ∨ τ 0 18 ≤ p)) ∨ ∃ v, p = nI v ∧ 0 < nb ∧ v < zt_T t ∧ zX_Values_has p σ = some 1 ∧ ¬ p < 0 ∧ ¬ τ 0 18 ≤ p := by
  have hT := zI_T hW ht
  unfold zX_Values_has
  rw [hx.size hW, hm.size]
  rcases zI_int p with q | ⟨v, hv, rfl⟩
  · left; rw [if_pos q]; exact ⟨rfl, Or.inl q⟩
  · rw [if_neg (nI_pos hv)]
    by_cases c : (if nb = 0 then 0 else zt_T t) ≤ v
    · left
      have : nI (if nb = 0 then 0 else zt_T t) ≤ nI v := by rw [nI_leI (by omega) hv]; exact c
      rw [if_pos this]; exact ⟨rfl, Or.inr this⟩
    · right
      have : ¬ nI (if nb = 0 then 0 else zt_T t) ≤ nI v := by rw [nI_leI (by omega) hv]; exact c
      have hn : ¬ nb = 0 := fun z => c (by rw [if_pos z]; omega)
      rw [if_neg hn] at c
      rw [if_neg this]
      exact ⟨v, rfl, by omega, by omega, rfl, nI_pos hv, this⟩
theorem zM_isValue_no {τ τ1 : zx_S} {p : Int32} (h : zM_ValueBenchModel_make τ = some τ1) (q : p < 0 ∨ τ1 0 18 ≤ p) : zM_ValueBenchModel_isValue p τ = some (0, τ1) := by
  unfold zM_ValueBenchModel_isValue
  rw [h, zc_b1]
  by_cases c : p < 0
  · rw [if_pos c]
  · rw [if_neg c, if_pos (q.resolve_left c)]
theorem zM_isValue_yes {τ τ1 : zx_S} {p : Int32} (h : zM_ValueBenchModel_make τ = some τ1) (q1 : ¬ p < 0) (q2 : ¬ τ1 0 18 ≤ p) : zM_ValueBenchModel_isValue p τ = some (1, τ1) := by
  unfold zM_ValueBenchModel_isValue
  rw [h, zc_b1, if_neg q1, if_neg q2]
/-- two BLOCKS -/
theorem zI_two {σ τ : zx_S} (h : zI_P P nb sz t σ τ) (p q : Int32) : ∃ σ1 τ1, zX_ValueBench_refresh σ = some σ1 ∧ zX_Ca P nb sz t σ1 ∧ zI_P P nb sz t σ1 τ1 ∧ ((zM_ValueBenchModel_areReached p q τ = some (0, τ1) ∧ (zX_Graph_reaches p σ1 = some 0 ∨ (zX_Graph_reaches p σ1 = some 1 ∧ zX_Graph_reaches q σ1 = some 0))) ∨ ∃ a b, p = nI a ∧ q = nI b ∧ zq_rc P nb a ∧ zq_rc P nb b ∧ zM_ValueBenchModel_areReached p q τ = some (1, τ1) ∧ zm_Cb P nb sz t τ1 ∧ zX_Graph_reaches p σ1 = some 1 ∧ zX_Graph_reaches q σ1 = some 1) := by
  have hW := h.1
  have hnb := hW.2.1
  obtain ⟨σ1, x1, x2, x3⟩ := h.X
  obtain ⟨τ1, y1, y2, y3⟩ := x3.M
  unfold zM_ValueBenchModel_areReached
  have rp := zX_reach_cases hW x2 p
  have rq := zX_reach_cases hW x2 q
  rcases zM_block_cases hW h.2.2.1.1 p with ⟨m1, m2⟩ | ⟨a, rfl, ha, m1⟩
  · refine ⟨σ1, τ, x1, x2, x3, Or.inl ⟨by rw [m1, zc_b1, if_pos rfl], Or.inl ?_⟩⟩
    rcases rp with ⟨r1, -⟩ | ⟨b, e, hr, -⟩
    · exact r1
    · exact absurd ⟨b, e, hr.1⟩ m2
  · rcases zM_block_cases hW h.2.2.1.1 q with ⟨m3, m4⟩ | ⟨b, rfl, hb, m3⟩
    · refine ⟨σ1, τ, x1, x2, x3, Or.inl ⟨by rw [m1, zc_b1, if_neg z10, m3, zc_b1, if_pos rfl], ?_⟩⟩
      have q0 : zX_Graph_reaches q σ1 = some 0 := by
        rcases rq with ⟨r1, -⟩ | ⟨b, e, hr, -⟩
        · exact r1
        · exact absurd ⟨b, e, hr.1⟩ m4
      rcases rp with ⟨r1, -⟩ | ⟨b, e, hr, r1⟩
      · exact Or.inl r1
      · exact Or.inr ⟨r1, q0⟩
    · refine ⟨σ1, τ1, x1, x2, y3, ?_⟩
      rw [m1, zc_b1, if_neg z10, m3, zc_b1, if_neg z10, y1, zc_b1]
      simp only [zc_ck (show a < 16 by omega) (by decide), zc_cl (show a < 2 ^ 31 by omega), zc_ck (show b < 16 by omega) (by decide), zc_cl (show b < 2 ^ 31 by omega), y2.r10 ha, y2.r10 hb, zi_0]
      rcases rp with ⟨r1, r2⟩ | ⟨a', e, hr, r1⟩
      · left
        exact ⟨by rw [if_pos (zp_f.mpr (fun z => r2 ⟨a, rfl, z⟩))], Or.inl r1⟩
      · have hl := hr.1
        have e' := nI_inj (by omega) (by omega) e
        subst e'
        rcases rq with ⟨s1, s2⟩ | ⟨b', f, hr', s1⟩
        · left
          exact ⟨by rw [if_neg (by rw [zp_t.mpr hr]; decide), if_pos (zp_f.mpr (fun z => s2 ⟨b, rfl, z⟩))], Or.inr ⟨r1, s1⟩⟩
        · have hl' := hr'.1
          have f' := nI_inj (by omega) (by omega) f
          subst f'
          right
          exact ⟨a, b, rfl, rfl, hr, hr', by rw [if_neg (by rw [zp_t.mpr hr]; decide), if_neg (by rw [zp_t.mpr hr']; decide)], y2, r1, s1⟩
theorem zI_dom : zp_S6 zI := by
  rintro σ τ p q ⟨P, nb, sz, t, h⟩
  have hW := h.1
  have hnb := hW.2.1
  obtain ⟨σ1, τ1, x1, x2, x3, hc⟩ := zI_two h p q
  unfold zX_ValueBench_dominates zM_ValueBenchModel_dominates
  rw [x1, zc_b1]
  rcases hc with ⟨m1, r1 | ⟨r1, r2⟩⟩ | ⟨a, b, rfl, rfl, ha, hb, m1, m2, r1, r2⟩
  · rw [m1, zc_b2, if_pos rfl, r1, zc_b1, if_pos rfl]
    exact ⟨_, _, _, rfl, rfl, P, nb, sz, t, x3⟩
  · rw [m1, zc_b2, if_pos rfl, r1, zc_b1, if_neg z10, r2, zc_b1, if_pos rfl]
    exact ⟨_, _, _, rfl, rfl, P, nb, sz, t, x3⟩
  · have hal := ha.1
    have hbl := hb.1
    rw [m1, zc_b2, if_neg z10, r1, zc_b1, if_neg z10, r2, zc_b1, if_neg z10, zc_ck (show a < 16 by omega) (by decide), zc_cl (by omega), zX_isIn_eq _ (show b < 32 by omega), zc_b1, zM_dom1_eq (m2.1 (by omega)).1.2.1 hnb hal hbl, zc_b1, zi_isin]
    have e : zb (σ1 14 a) b = zp (zq_D P nb a b) := by
      by_cases c : zq_D P nb a b
      · rw [zp_t.mpr c, ((x2.2.1.2.2.1 a (by omega)).2 b).mpr c]
      · rw [zp_f.mpr c, zb_t.mpr (fun z => c (((x2.2.1.2.2.1 a (by omega)).2 b).mp z))]
    rw [e]
    by_cases c : zi (zp (zq_D P nb a b)) = 0
    · rw [if_pos c, if_pos c]; exact ⟨_, _, _, rfl, rfl, P, nb, sz, t, x3⟩
    · rw [if_neg c, if_neg c]; exact ⟨_, _, _, rfl, rfl, P, nb, sz, t, x3⟩
theorem zI_meets : zp_S7 zI := by
  rintro σ τ p q ⟨P, nb, sz, t, h⟩
  have hW := h.1
  have hnb := hW.2.1
  obtain ⟨σ1, τ1, x1, x2, x3, hc⟩ := zI_two h p q
  unfold zX_ValueBench_meets zM_ValueBenchModel_meets
  rw [x1, zc_b1]
  rcases hc with ⟨m1, r1 | ⟨r1, r2⟩⟩ | ⟨a, b, rfl, rfl, ha, hb, m1, m2, r1, r2⟩
  · rw [m1, zc_b2, if_pos rfl, r1, zc_b1, if_pos rfl]
    exact ⟨_, _, _, rfl, rfl, P, nb, sz, t, x3⟩
  · rw [m1, zc_b2, if_pos rfl, r1, zc_b1, if_neg z10, r2, zc_b1, if_pos rfl]
    exact ⟨_, _, _, rfl, rfl, P, nb, sz, t, x3⟩
  · have hal := ha.1
    have hbl := hb.1
    rw [m1, zc_b2, if_neg z10, r1, zc_b1, if_neg z10, r2, zc_b1, if_neg z10, zc_ck (show a < 16 by omega) (by decide), zc_cl (by omega), zX_isIn_eq _ (show b < 32 by omega), zc_b1, nI_16, zc_ck (show 16 * a + b < 256 by omega) (by decide), zc_cl (show 16 * a + b < 2 ^ 31 by omega), (m2.1 (by omega)).1.2.2.2 a b hal hbl, zi_isin]
    have e : zb (σ1 17 a) b = zp (zq_Fr P nb a b) := by
      by_cases c : zq_Fr P nb a b
      · rw [zp_t.mpr c, ((x2.2.1.2.2.2.2.2 a (by omega)).2 b).mpr c]
      · rw [zp_f.mpr c, zb_t.mpr (fun z => c (((x2.2.1.2.2.2.2.2 a (by omega)).2 b).mp z))]
    rw [e]
    by_cases c : zi (zp (zq_Fr P nb a b)) = 0
    · rw [if_pos c, if_pos c]; exact ⟨_, _, _, rfl, rfl, P, nb, sz, t, x3⟩
    · rw [if_neg c, if_neg c]; exact ⟨_, _, _, rfl, rfl, P, nb, sz, t, x3⟩
/-- the rows of a VALUE agree -/
theorem zI_row {σ τ : zx_S} (hW : zq_WF P nb sz) (hn : 0 < nb) (h : zq_Tab P nb sz t) (hx : zX_Ca P nb sz t σ) (hm : zm_Cb P nb sz t τ) {v : Nat} (hv : v < zt_T t) : σ 19 v = τ 16 v ∧ σ 20 v = τ 17 v ∧ σ 21 v = τ 18 v ∧ σ 34 v = τ 28 v ∧ σ 37 v = τ 30 v ∧ σ 22 v = τ 19 v ∧ τ 22 v = nI (zt_c t v) ∧ zX_Values_operandsOf (nI v) σ = some (nI (zt_c t v)) := by
  have hnb := hW.2.1
  obtain ⟨xl, xe, -⟩ := hx.2.2.1 hn
  have m := hm.1 hn
  have hT := (h.H hW hn).2.2.2.2
  obtain ⟨a1, a2, a3⟩ := xl.2.1.2.1 v hv
  obtain ⟨b1, b2, b3, b4, -⟩ := m.2.2.2.2.1.2 v hv
  refine ⟨a1.trans b1.symm, a2.trans b2.symm, ?_, (xl.2.2 v hv).trans (m.2.2.2.2.2.1 v hv).symm, (xe.1 v hv).trans (m.2.2.2.2.2.2 v hv).symm, a3.trans b3.symm, b4, ?_⟩
  · have hN := xl.1.1.2.2.1.2.1
    rw [zq_st_16 hnb] at hN
    have hV := m.2.2.1.2.1
    have hv' := hv
    rw [h.1] at hv'
    rcases zq_cases hv' with q | ⟨b, x, q⟩ | ⟨b, k, q⟩
    · subst q; rw [(hN.1 hv').2.2.1, (hV.1 hv').2.2.1]
    · rw [(hN.2.1 v b x hv' q).2.2.1, (hV.2.1 v b x hv' q).2.2.1]
    · rw [(hN.2.2 v b k hv' q).2.2.1, (hV.2.2 v b k hv' q).2.2.1]
  · unfold zX_Values_operandsOf
    rw [nI_1, zc_ck (show v + 1 < 262 by omega) (by decide), zc_ck (show v < 262 by omega) (by decide), zc_cl (show v + 1 < 2 ^ 31 by omega), zc_cl (show v < 2 ^ 31 by omega), xl.2.1.2.2.1 (v + 1) (by omega), xl.2.1.2.2.1 v (by omega), zt_step, show nI (zt (zt_c t) v + zt_c t v) - nI (zt (zt_c t) v) = nI (zt_c t v) by rw [← nI_add, Int32.add_comm, Int32.add_sub_cancel]]
theorem zI_classOf : zp_S11 zI := by
  rintro σ τ p ⟨P, nb, sz, t, h⟩
  have hW := h.1
  obtain ⟨σ1, x1, x2, x3⟩ := h.X
  obtain ⟨τ1, y1, y2, y3⟩ := x3.M
  unfold zX_ValueBench_classOf zM_ValueBenchModel_classOf
  rw [x1, zc_b1]
  rcases zI_val_cases hW h.2.1 x2 y2 p with ⟨a1, a2⟩ | ⟨v, rfl, hn, hv, a1, a2, a3⟩
  · rw [a1, zc_b1, if_pos rfl, zM_isValue_no y1 a2, zc_b2, if_pos rfl]
    exact ⟨_, _, _, rfl, rfl, P, nb, sz, t, y3⟩
  · have ht := h.2.1 hn
    have hT := (ht.H hW hn).2.2.2.2
    have r := zI_row hW hn ht x2 y2 hv
    rw [a1, zc_b1, if_neg z10, zM_isValue_yes y1 a2 a3, zc_b2, if_neg z10, zc_ck (show v < 261 by omega) (by decide), zc_ck (show v < 270 by omega) (by decide), zc_cl (by omega), r.2.2.2.1]
    exact ⟨_, _, _, rfl, rfl, P, nb, sz, t, y3⟩
theorem zI_value : zp_S8 zI := by
  rintro σ τ p w ⟨P, nb, sz, t, h⟩
  have hW := h.1
  obtain ⟨σ1, x1, x2, x3⟩ := h.X
  obtain ⟨τ1, y1, y2, y3⟩ := x3.M
  unfold zX_ValueBench_value zM_ValueBenchModel_value
  rw [x1, zc_b1]
  rcases zI_val_cases hW h.2.1 x2 y2 p with ⟨a1, a2⟩ | ⟨v, rfl, hn, hv, a1, a2, a3⟩
  · rw [a1, zc_b1, if_pos rfl, zM_isValue_no y1 a2, zc_b2, if_pos rfl]
    exact ⟨_, _, _, rfl, rfl, P, nb, sz, t, y3⟩
  · have ht := h.2.1 hn
    have hT := (ht.H hW hn).2.2.2.2
    obtain ⟨r0, r1, r2, r3, r4, r5, r6, r7⟩ := zI_row hW hn ht x2 y2 hv
    rw [a1, zc_b1, if_neg z10, zM_isValue_yes y1 a2 a3, zc_b2, if_neg z10]
    simp only [zc_ck (show v < 261 by omega) (by decide), zc_ck (show v < 270 by omega) (by decide), zc_cl (show v < 2 ^ 31 by omega), r0, r1, r2, r3, r4, r5, r6, r7, zc_b1]
    by_cases c0 : w = 0
    · rw [if_pos c0, if_pos c0]; exact ⟨_, _, _, rfl, rfl, P, nb, sz, t, y3⟩
    · rw [if_neg c0, if_neg c0]
      by_cases c1 : w = 1
      · rw [if_pos c1, if_pos c1]; exact ⟨_, _, _, rfl, rfl, P, nb, sz, t, y3⟩
      · rw [if_neg c1, if_neg c1]
        by_cases c2 : w = 2
        · rw [if_pos c2, if_pos c2]; exact ⟨_, _, _, rfl, rfl, P, nb, sz, t, y3⟩
        · rw [if_neg c2, if_neg c2]
          by_cases c3 : w = 3
          · rw [if_pos c3, if_pos c3]; exact ⟨_, _, _, rfl, rfl, P, nb, sz, t, y3⟩
          · rw [if_neg c3, if_neg c3]
            by_cases c4 : w = 4
            · rw [if_pos c4, if_pos c4]
              by_cases d : τ1 30 v = 0
              · rw [if_pos d, if_pos d]; exact ⟨_, _, _, rfl, rfl, P, nb, sz, t, y3⟩
              · rw [if_neg d, if_neg d]; exact ⟨_, _, _, rfl, rfl, P, nb, sz, t, y3⟩
            · rw [if_neg c4, if_neg c4]
              by_cases c5 : w = 5
              · rw [if_pos c5, if_pos c5]; exact ⟨_, _, _, rfl, rfl, P, nb, sz, t, y3⟩
              · rw [if_neg c5, if_neg c5]
                by_cases c6 : w = 6
                · rw [if_pos c6, if_pos c6]; exact ⟨_, _, _, rfl, rfl, P, nb, sz, t, y3⟩
                · rw [if_neg c6, if_neg c6]; exact ⟨_, _, _, rfl, rfl, P, nb, sz, t, y3⟩
end AS
