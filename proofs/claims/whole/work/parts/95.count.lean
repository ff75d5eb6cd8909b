/-! PURE: count -/
section CO
variable {P : zx_S} {nb : Nat} {sz : Nat → Nat} {t : zc_Tb}
theorem zt_16 (hnb : nb ≤ 16) (h0 : ∀ b, nb ≤ b → sz b = 0) : zt sz 16 = zt sz nb := by
  have e : ∀ d, zt sz (nb + d) = zt sz nb := by
    intro d
    induction d with
    | zero => rfl
    | succ d ih => rw [← Nat.add_assoc, zt_step, ih, h0 (nb + d) (by omega)]; rfl
  have := e (16 - nb)
  rwa [show nb + (16 - nb) = 16 by omega] at this
theorem zn_add_all {f : Nat → Bool} {a : Nat} : ∀ m, (∀ i, a ≤ i → i < a + m → f i = true) → zn f (a + m) = zn f a + m := by
  intro m
  induction m with
  | zero => intro _; rfl
  | succ m ih =>
    intro h
    rw [← Nat.add_assoc, zn_step, ih (fun i h1 h2 => h i h1 (by omega)), h (a + m) (by omega) (by omega)]; rfl
theorem zn_add_no {f : Nat → Bool} {a : Nat} : ∀ m, (∀ i, a ≤ i → i < a + m → f i = false) → zn f (a + m) = zn f a := by
  intro m
  induction m with
  | zero => intro _; rfl
  | succ m ih =>
    intro h
    rw [← Nat.add_assoc, zn_step, ih (fun i h1 h2 => h i h1 (by omega)), h (a + m) (by omega) (by omega)]; rfl
/-- CHOICES, by VALUES and by BLOCKS -/
theorem zq_Tab.cnt (hW : zq_WF P nb sz) (h : zq_Tab P nb sz t) : ∀ n, n ≤ 16 → zn (fun i => decide (zt_k t i = 15)) (zq_st P nb sz n) = zt (fun b => if zp (zq_rc P nb b) then zq_cb P nb sz b else 0) n := by
  intro n
  induction n with
  | zero =>
    intro _
    show zn (fun i => decide (zt_k t i = 15)) (0 + 1) = 0
    rw [zn_step, h.2.1.1]; rfl
  | succ n ih =>
    intro hn
    have ih := ih (by omega)
    rw [zt_step, ← ih]
    by_cases hr : zq_rc P nb n
    · rw [zq_bz_rc hr, ← Nat.add_assoc, if_pos (zp_t.mpr hr), zn_add_no (zq_ib P sz n) (fun i h1 h2 => by
        obtain ⟨k, hk⟩ := zq_inN hr h1 h2
        exact decide_eq_false (zq_k15 hW h hk)), zn_add_all (zq_cb P nb sz n) (fun i h1 h2 => by
        obtain ⟨v, hv⟩ := zq_inC hr h1 h2
        exact decide_eq_true (h.2.2.1 i n v hv).1)]
    · rw [zq_bz_no hr, if_neg (by rw [zp_t]; exact hr)]; rfl
theorem zX_allChoices_eq {s : zx_S} {f : Nat → Nat} (h : ∀ b, b < 16 → s 30 b = nI (f b)) : zX_Values_allChoices s = some (nI (zt f 16)) := by
  unfold zX_Values_allChoices
  have := zf_for (A := Int32) (L := fun n i c => zX_Values_allChoices_L4 s (fun v1_3 => some v1_3) n c i) (k := fun c => some c) 16 (fun i c => c = nI (zt f i)) (fun n c _ => by
    show zX_Values_allChoices_L4 s (fun v1_3 => some v1_3) (n + 1) c (nI 16) = _
    rw [zX_Values_allChoices_L4, if_pos (by decide)]) (fun n b c hb hc => ⟨nI (zt f (b + 1)), rfl, by
    show zX_Values_allChoices_L4 s (fun v1_3 => some v1_3) (n + 1) c (nI b) = zX_Values_allChoices_L4 s (fun v1_3 => some v1_3) n (nI (zt f (b + 1))) (nI (b + 1))
    rw [zX_Values_allChoices_L4, if_neg (by rw [show (16 : Int32) = nI 16 by decide, nI_leI (by omega) (by omega)]; omega), zc_ck hb (by decide), zc_cl (by omega), zc_lt, zc_lt, nI_1, hc, h b hb, nI_add, zt_step]⟩) (i := 0) (n := 10000) (Nat.zero_le _) (a := (0 : Int32)) nI_0.symm (by decide)
  rw [nI_0] at this
  obtain ⟨c, rfl, e⟩ := this
  exact e
theorem zI_count : zp_S18 zI := by
  rintro σ τ w ⟨P, nb, sz, t, h⟩
  have hW := h.1
  have hnb := hW.2.1
  obtain ⟨σ1, x1, x2, x3⟩ := h.X
  obtain ⟨τ1, y1, y2, y3⟩ := x3.M
  have hP1 := y3.2.2.1.1
  have hT := zI_T hW h.2.1
  have e18 := y2.size
  have e18x := x2.size hW
  unfold zX_ValueBench_count zM_ValueBenchModel_count
  rw [x1, zc_b1, y1, zc_b1]
  by_cases c0 : w = 0
  · rw [if_pos c0, if_pos c0, x2.1.1.1, hP1.1, hW.1]; exact ⟨_, _, _, rfl, rfl, P, nb, sz, t, y3⟩
  rw [if_neg c0, if_neg c0]
  by_cases c1 : w = 1
  · have ei : zX_Program_instructions σ1 = some (nI (zt sz nb)) := by
      unfold zX_Program_instructions
      rw [show (16 : Int32) = nI 16 by decide, zc_ck (show 16 < 17 by decide) (by decide), zc_cl (by decide), x2.1.2.2.1 16 (Nat.le_refl _), zt_16 hnb x2.1.2.1]
    rw [if_pos c1, if_pos c1, ei, zc_b1, y3.2.2.1.2.2]; exact ⟨_, _, _, rfl, rfl, P, nb, sz, t, y3⟩
  rw [if_neg c1, if_neg c1]
  by_cases c2 : w = 2
  · rw [if_pos c2, if_pos c2, zX_bitCount_eq x2.2.1.1.1, zc_b1, zb_cnt hnb x2.2.1.1.2 (fun p hp => hp.1)]
    have := zf_cnt (L := fun n c i => zM_ValueBenchModel_count_L60 τ1 (fun v2_21 => some (v2_21, τ1)) n c i) (K := fun c => some (c, τ1)) nb (fun b => zp (zq_rc P nb b)) (fun n c => by
      show zM_ValueBenchModel_count_L60 τ1 (fun v2_21 => some (v2_21, τ1)) (n + 1) c (nI nb) = _
      rw [zM_ValueBenchModel_count_L60, hP1.1, hW.1, if_pos (Int32.le_refl _)]) (fun n c b hb => by
      show zM_ValueBenchModel_count_L60 τ1 (fun v2_21 => some (v2_21, τ1)) (n + 1) (nI c) (nI b) = zM_ValueBenchModel_count_L60 τ1 (fun v2_21 => some (v2_21, τ1)) n _ (nI (b + 1))
      rw [zM_ValueBenchModel_count_L60, hP1.1, hW.1, if_neg (by rw [nI_leI (by omega) (by omega)]; omega), zc_ck (show b < 16 by omega) (by decide), zc_cl (by omega), y2.r10 hb]
      simp only [zi_0, zc_lt, nI_1, Int32.add_zero]
      cases zp (zq_rc P nb b) <;> rfl) (n := 10000) (by omega)
    exact ⟨_, _, _, rfl, this, P, nb, sz, t, y3⟩
  rw [if_neg c2, if_neg c2]
  by_cases c3 : w = 3
  · rw [if_pos c3, if_pos c3, e18, e18x]; exact ⟨_, _, _, rfl, rfl, P, nb, sz, t, y3⟩
  rw [if_neg c3, if_neg c3]
  by_cases c4 : w = 4
  · rw [if_pos c4, if_pos c4]
    by_cases q : nb = 0
    · rw [zM_ValueBenchModel_count_L100, e18, if_pos q, if_pos (by rw [nI_0]; exact Int32.le_refl _), (x2.2.2.2 q).2.2.1]
      exact ⟨_, _, _, rfl, rfl, P, nb, sz, t, y3⟩
    · have hn : 0 < nb := by omega
      rw [if_neg q] at e18 hT
      have ca := y2.1 hn
      have := zf_cnt (L := fun n c i => zM_ValueBenchModel_count_L100 τ1 (fun v2_16 => some (v2_16, τ1)) n c i) (K := fun c => some (c, τ1)) (zt_T t) (fun v => zp (zc_K t v = v)) (fun n c => by
        show zM_ValueBenchModel_count_L100 τ1 (fun v2_16 => some (v2_16, τ1)) (n + 1) c (nI (zt_T t)) = _
        rw [zM_ValueBenchModel_count_L100, e18, if_pos (Int32.le_refl _)]) (fun n c v hv => by
        show zM_ValueBenchModel_count_L100 τ1 (fun v2_16 => some (v2_16, τ1)) (n + 1) (nI c) (nI v) = zM_ValueBenchModel_count_L100 τ1 (fun v2_16 => some (v2_16, τ1)) n _ (nI (v + 1))
        have lk : zc_K t v ≤ v := zc_rp_le _ _
        rw [zM_ValueBenchModel_count_L100, e18, if_neg (by rw [nI_leI (by omega) (by omega)]; omega), zc_ck (show v < 270 by omega) (by decide), zc_cl (by omega), ca.2.2.2.2.2.1 v hv]
        simp only [zc_lt, nI_1, Int32.add_zero]
        by_cases e : zc_K t v = v
        · rw [if_pos (by rw [e]), zp_t.mpr e]; rfl
        · rw [if_neg (fun z => e (nI_inj (by omega) (by omega) z)), zp_f.mpr e]; rfl) (n := 10000) (by omega)
      rw [(x2.2.2.1 hn).2.2]
      exact ⟨_, _, _, rfl, this, P, nb, sz, t, y3⟩
  rw [if_neg c4, if_neg c4]
  by_cases c5 : w = 5
  · rw [if_pos c5, if_pos c5]
    by_cases q : nb = 0
    · rw [zM_ValueBenchModel_count_L136, e18, if_pos q, if_pos (by rw [nI_0]; exact Int32.le_refl _), (x2.2.2.2 q).2.2.2]
      exact ⟨_, _, _, rfl, rfl, P, nb, sz, t, y3⟩
    · have hn : 0 < nb := by omega
      rw [if_neg q] at e18 hT
      have ca := y2.1 hn
      have := zf_cnt (L := fun n c i => zM_ValueBenchModel_count_L136 τ1 (fun v2_11 => some (v2_11, τ1)) n c i) (K := fun c => some (c, τ1)) (zt_T t) (fun v => zp (zq_rd P nb t v)) (fun n c => by
        show zM_ValueBenchModel_count_L136 τ1 (fun v2_11 => some (v2_11, τ1)) (n + 1) c (nI (zt_T t)) = _
        rw [zM_ValueBenchModel_count_L136, e18, if_pos (Int32.le_refl _)]) (fun n c v hv => by
        show zM_ValueBenchModel_count_L136 τ1 (fun v2_11 => some (v2_11, τ1)) (n + 1) (nI c) (nI v) = zM_ValueBenchModel_count_L136 τ1 (fun v2_11 => some (v2_11, τ1)) n _ (nI (v + 1))
        rw [zM_ValueBenchModel_count_L136, e18, if_neg (by rw [nI_leI (by omega) (by omega)]; omega), zc_ck (show v < 270 by omega) (by decide), zc_cl (by omega), ca.2.2.2.2.2.2 v hv]
        simp only [zi_0, zc_lt, nI_1, Int32.add_zero]
        cases zp (zq_rd P nb t v) <;> rfl) (n := 10000) (by omega)
      rw [(x2.2.2.1 hn).2.1.2.1]
      exact ⟨_, _, _, rfl, this, P, nb, sz, t, y3⟩
  rw [if_neg c5, if_neg c5]
  by_cases c6 : w = 6
  · rw [if_pos c6, if_pos c6]
    by_cases q : nb = 0
    · rw [zM_ValueBenchModel_count_L171, e18, if_pos q, if_pos (by rw [nI_0]; exact Int32.le_refl _), zX_allChoices_eq (f := fun _ => 0) (fun b hb => by rw [(x2.2.2.2 q).2.1 b hb]; exact nI_0.symm), zc_b1]
      exact ⟨_, _, _, rfl, by show some ((0 : Int32), τ1) = some (nI 0, τ1); rw [nI_0], P, nb, sz, t, y3⟩
    · have hn : 0 < nb := by omega
      rw [if_neg q] at e18 hT
      have ht := h.2.1 hn
      have ca := y2.1 hn
      have hN := (x2.2.2.1 hn).1.1.1.2.2
      have := zf_cnt (L := fun n c i => zM_ValueBenchModel_count_L171 τ1 (fun v2_6 => some (v2_6, τ1)) n c i) (K := fun c => some (c, τ1)) (zt_T t) (fun v => decide (zt_k t v = 15)) (fun n c => by
        show zM_ValueBenchModel_count_L171 τ1 (fun v2_6 => some (v2_6, τ1)) (n + 1) c (nI (zt_T t)) = _
        rw [zM_ValueBenchModel_count_L171, e18, if_pos (Int32.le_refl _)]) (fun n c v hv => by
        show zM_ValueBenchModel_count_L171 τ1 (fun v2_6 => some (v2_6, τ1)) (n + 1) (nI c) (nI v) = zM_ValueBenchModel_count_L171 τ1 (fun v2_6 => some (v2_6, τ1)) n _ (nI (v + 1))
        rw [zM_ValueBenchModel_count_L171, e18, if_neg (by rw [nI_leI (by omega) (by omega)]; omega), zc_ck (show v < 270 by omega) (by decide), zc_cl (by omega), (ca.2.2.2.2.1.2 v hv).1]
        simp only [zc_lt, nI_1, Int32.add_zero]
        by_cases e : zt_k t v = 15
        · rw [if_pos e, decide_eq_true e]; rfl
        · rw [if_neg e, decide_eq_false e]; rfl) (n := 10000) (by omega)
      rw [zX_allChoices_eq (f := fun b => if zp (zq_rc P nb b) then zq_cb P nb sz b else 0) (fun b hb => by
        by_cases hr : zq_rc P nb b
        · rw [if_pos (zp_t.mpr hr)]; exact (hN.2.1 b hb hr).2
        · rw [if_neg (by rw [zp_t]; exact hr), nI_0]; exact hN.2.2.1 b hb (Or.inr hr)), zc_b1, ← ht.cnt hW 16 (Nat.le_refl _), zq_st_16 hnb, ← ht.1]
      exact ⟨_, _, _, rfl, this, P, nb, sz, t, y3⟩
  rw [if_neg c6, if_neg c6]
  exact ⟨_, _, _, rfl, rfl, P, nb, sz, t, y3⟩
end CO
