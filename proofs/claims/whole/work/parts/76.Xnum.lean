/-! PURE: the class numbers VALUES -/
section XN
variable {P : zx_S} {nb : Nat} {sz : Nat → Nat} {t : zc_Tb}
theorem zX_add_eq {s : zx_S} {i f c : Nat} (hi : i < 261) (h : s 18 11 = nI i) (h0 : i = 0 → f = 0) (hf : 0 < i → s 23 i = nI f) (p1 p2 p3 p4 : Int32) : ∃ s', zX_Values_add p1 p2 p3 p4 (nI c) s = some s' ∧ (s' 18 11 = nI (i + 1) ∧ s' 19 i = p1 ∧ s' 20 i = p2 ∧ s' 21 i = p3 ∧ s' 22 i = p4 ∧ s' 23 (i + 1) = nI (f + c)) ∧ (∀ c j, c < 18 ∨ 23 < c → s' c j = s c j) ∧ (∀ c j, 19 ≤ c → c ≤ 22 → j ≠ i → s' c j = s c j) ∧ ∀ j, j ≠ i + 1 → s' 23 j = s 23 j := by
  unfold zX_Values_add
  have e : ∀ (k : Nat) (j : Nat) (x : Int32) (u : zx_S), k ≠ 18 → zx_su u k j x 18 11 = u 18 11 := fun k j x u hk => zs_ne (Or.inl (fun q => hk q.symm))
  simp only [h, zc_ck hi (by decide), zc_ck (show i < 262 by omega) (by decide), zc_cl (show i < 2 ^ 31 by omega), zc_ls, e 19 _ _ _ (by decide), e 20 _ _ _ (by decide), e 21 _ _ _ (by decide), e 22 _ _ _ (by decide), nI_1]
  have fin : ∀ x : Int32, x = nI f → ∃ s', zX_Values_add_J71 (nI c) (nI (i + 1)) x (zx_su (zx_su (zx_su (zx_su s 19 i p1) 20 i p2) 21 i p3) 22 i p4) = some s' ∧ (s' 18 11 = nI (i + 1) ∧ s' 19 i = p1 ∧ s' 20 i = p2 ∧ s' 21 i = p3 ∧ s' 22 i = p4 ∧ s' 23 (i + 1) = nI (f + c)) ∧ (∀ c j, c < 18 ∨ 23 < c → s' c j = s c j) ∧ (∀ c j, 19 ≤ c → c ≤ 22 → j ≠ i → s' c j = s c j) ∧ ∀ j, j ≠ i + 1 → s' 23 j = s 23 j := by
    intro x hx
    subst hx
    unfold zX_Values_add_J71
    simp only [zc_lt, zc_ls, zc_ck (show i + 1 < 262 by omega) (by decide), zc_cl (show i + 1 < 2 ^ 31 by omega), e 23 _ _ _ (by decide), e 22 _ _ _ (by decide), e 21 _ _ _ (by decide), e 20 _ _ _ (by decide), e 19 _ _ _ (by decide), h, nI_1]
    refine ⟨_, rfl, ⟨zs_eq _ _ _ _, ?_, ?_, ?_, ?_, ?_⟩, fun c j hc => ?_, fun c j h1 h2 hj => ?_, fun j hj => ?_⟩
    · rw [zs_ne (Or.inl (by decide)), zs_ne (Or.inl (by decide)), zs_ne (Or.inl (by decide)), zs_ne (Or.inl (by decide)), zs_ne (Or.inl (by decide)), zs_eq]
    · rw [zs_ne (Or.inl (by decide)), zs_ne (Or.inl (by decide)), zs_ne (Or.inl (by decide)), zs_ne (Or.inl (by decide)), zs_eq]
    · rw [zs_ne (Or.inl (by decide)), zs_ne (Or.inl (by decide)), zs_ne (Or.inl (by decide)), zs_eq]
    · rw [zs_ne (Or.inl (by decide)), zs_ne (Or.inl (by decide)), zs_eq]
    · rw [zs_ne (Or.inl (by decide)), zs_eq, nI_add]
    · rw [zs_ne (Or.inl (by omega)), zs_ne (Or.inl (by omega)), zs_ne (Or.inl (by omega)), zs_ne (Or.inl (by omega)), zs_ne (Or.inl (by omega)), zs_ne (Or.inl (by omega))]
    · rw [zs_ne (Or.inl (by omega)), zs_ne (Or.inl (by omega)), zs_ne (Or.inr hj), zs_ne (Or.inr hj), zs_ne (Or.inr hj), zs_ne (Or.inr hj)]
    · rw [zs_ne (Or.inl (by omega)), zs_ne (Or.inr hj), zs_ne (Or.inl (by omega)), zs_ne (Or.inl (by omega)), zs_ne (Or.inl (by omega)), zs_ne (Or.inl (by omega))]
  by_cases q : i = 0
  · rw [if_pos (by rw [q]; exact nI_0)]
    exact fin 0 (by rw [h0 q]; exact nI_0.symm)
  · rw [if_neg (fun z => q (nI_inj (by omega) (by omega) (z.trans nI_0.symm)))]
    refine fin _ ?_
    rw [zs_ne (Or.inl (by decide)), zs_ne (Or.inl (by decide)), zs_ne (Or.inl (by decide)), zs_ne (Or.inl (by decide))]
    exact hf (by omega)
/-- i VALUES are numbered -/
def zX_Nb (P : zx_S) (nb : Nat) (sz : Nat → Nat) (t : zc_Tb) (i : Nat) (s : zx_S) : Prop := s 18 11 = nI i ∧ zv_T P nb sz i s 19 20 21 22 ∧ (∀ j, j ≤ i → s 23 j = nI (zt (zt_c t) j))
theorem zX_Nb.keep {i : Nat} {s s' : zx_S} (h : zX_Nb P nb sz t i s) (hk : ∀ c j, 18 ≤ c → c ≤ 23 → s' c j = s c j) : zX_Nb P nb sz t i s' :=
  ⟨by rw [hk 18 11 (by decide) (by decide)]; exact h.1, h.2.1.keep (fun c j hc _ => hk c j (by omega) (by omega)), fun j hj => by rw [hk 23 j (by decide) (by decide)]; exact h.2.2 j hj⟩
theorem zX_Nb.add {i b v : Nat} (h : zq_Tab P nb sz t) {s : zx_S} (hN : zX_Nb P nb sz t i s) (hi : 0 < i) (hi2 : i < 261) (hC : zq_isC P nb sz i b v) : ∃ s', zX_Values_add 15 (nI b) (nI v) (-1) (nI (zq_no P nb b)) s = some s' ∧ zX_Nb P nb sz t (i + 1) s' ∧ ∀ c j, c < 18 ∨ 23 < c → s' c j = s c j := by
  obtain ⟨s', a1, ⟨a2, a3, a4, a5, a6, a7⟩, a8, a9, a10⟩ := zX_add_eq (c := zq_no P nb b) hi2 hN.1 (fun q => by omega) (fun _ => hN.2.2 i (Nat.le_refl _)) 15 (nI b) (nI v) (-1)
  refine ⟨s', a1, ⟨a2, (hN.2.1.keep (fun c j hc hj => a9 c j (by omega) (by omega) (by omega))).addC hi hC ⟨a3, a4, a5, a6⟩, fun j hj => ?_⟩, a8⟩
  by_cases e : j = i + 1
  · rw [e, a7, zt_step, (h.2.2.1 i b v hC).2.2.2.1]
  · rw [a10 j e]; exact hN.2.2 j (by omega)
theorem zX_Nb.addN {i b k : Nat} (h : zq_Tab P nb sz t) {s : zx_S} (hN : zX_Nb P nb sz t i s) (hi : 0 < i) (hi2 : i < 261) (hC : zq_isN P nb sz i b k) {c : Nat} (hc : c = if 3 ≤ P 1 (100 * b + k) then 2 else 0) {p4 : Int32} (h4 : p4 = if 2 ≤ P 1 (100 * b + k) then -1 else P 3 (100 * b + k)) : ∃ s', zX_Values_add (P 1 (100 * b + k)) (nI b) (P 2 (100 * b + k)) p4 (nI c) s = some s' ∧ zX_Nb P nb sz t (i + 1) s' ∧ ∀ c j, c < 18 ∨ 23 < c → s' c j = s c j := by
  obtain ⟨s', a1, ⟨a2, a3, a4, a5, a6, a7⟩, a8, a9, a10⟩ := zX_add_eq (c := c) hi2 hN.1 (fun q => by omega) (fun _ => hN.2.2 i (Nat.le_refl _)) (P 1 (100 * b + k)) (nI b) (P 2 (100 * b + k)) p4
  refine ⟨s', a1, ⟨a2, (hN.2.1.keep (fun c j hc hj => a9 c j (by omega) (by omega) (by omega))).addN hi hC ⟨a3, a4, a5, a6.trans h4⟩, fun j hj => ?_⟩, a8⟩
  by_cases e : j = i + 1
  · rw [e, a7, zt_step, (h.2.2.2 i b k hC).2.2.2.1, hc]
  · rw [a10 j e]; exact hN.2.2 j (by omega)
theorem zX_nC_L33_spec (hW : zq_WF P nb sz) (h : zq_Tab P nb sz t) (kk : zx_S → Option zx_S) {b : Nat} (hr : zq_rc P nb b) {s : zx_S} (hN : zX_Nb P nb sz t (zq_st P nb sz b) s) (h30 : s 30 b = 0) (hC : zX_Ch P nb sz s) : ∃ s', (zX_Nb P nb sz t (zq_st P nb sz b + zq_cb P nb sz b) s' ∧ s' 30 b = nI (zq_cb P nb sz b) ∧ ∀ c j, (c < 18 ∨ 23 < c) → (c ≠ 30 ∨ j ≠ b) → s' c j = s c j) ∧ zX_Values_numberChoices_L33 (nI b) (nI (zq_no P nb b)) kk 10000 (0 : Int32) s = kk s' := by
  have hnb := hW.2.1
  have hb := hr.1
  have := zf_for (L := fun n i t => zX_Values_numberChoices_L33 (nI b) (nI (zq_no P nb b)) kk n i t) (k := kk) 10 (fun v u => zX_Nb P nb sz t (zq_ic P nb sz b v) u ∧ u 30 b = nI (zn (zq_hc P nb sz b) v) ∧ ∀ c j, (c < 18 ∨ 23 < c) → (c ≠ 30 ∨ j ≠ b) → u c j = s c j) (fun n u _ => by
    show zX_Values_numberChoices_L33 (nI b) (nI (zq_no P nb b)) kk (n + 1) (nI 10) u = kk u
    rw [zX_Values_numberChoices_L33, if_pos (by decide)]) (fun n v u hv q => by
    obtain ⟨g1, g2, g3⟩ := q
    show ∃ a', _ ∧ zX_Values_numberChoices_L33 (nI b) (nI (zq_no P nb b)) kk (n + 1) (nI v) u = zX_Values_numberChoices_L33 (nI b) (nI (zq_no P nb b)) kk n (nI (v + 1)) a'
    rw [zX_Values_numberChoices_L33, if_neg (by rw [show (10 : Int32) = nI 10 by decide, nI_leI (by omega) (by omega)]; omega), zc_ck hv (by decide), zc_cl (by omega), g3 31 v (Or.inr (by decide)) (Or.inl (by decide)), zX_isIn_eq _ (show b < 32 by omega), zc_b1, zi_isin]
    simp only [zi_0, zc_lt, nI_1]
    by_cases c1 : zb (s 31 v) b = false
    · rw [if_pos c1]
      have hno : zq_hc P nb sz b v = false := zp_f.mpr (fun z => by rw [((hC v hv).2 b).mpr z] at c1; cases c1)
      refine ⟨u, ⟨?_, ?_, g3⟩, rfl⟩
      · rw [show zq_ic P nb sz b (v + 1) = zq_ic P nb sz b v by unfold zq_ic; rw [zn_step, hno]; rfl]; exact g1
      · rw [zn_step, hno]; exact g2
    · rw [if_neg c1]
      have hH : zq_HC P nb sz v b := ((hC v hv).2 b).mp (by simpa using c1)
      have hyes : zq_hc P nb sz b v = true := zp_t.mpr hH
      have isC : zq_isC P nb sz (zq_ic P nb sz b v) b v := ⟨hr, hv, hH, rfl⟩
      have hlt := isC.lt'
      have h261 := zq_st_261 hW (show b + 1 ≤ nb from hb)
      have hp := isC.lt.1
      have hp1 := zq_st_pos (P := P) (nb := nb) (sz := sz) b
      obtain ⟨u', w1, w2, w3⟩ := g1.add h (by omega) (by omega) isC
      have stp : zq_ic P nb sz b (v + 1) = zq_ic P nb sz b v + 1 := by unfold zq_ic; rw [zn_step, hyes]; rfl
      rw [w1, zc_b1]
      simp only [zc_ck (show b < 16 by omega) (by decide), zc_cl (show b < 2 ^ 31 by omega), zc_ls, w3 30 b (Or.inr (by decide)), g2, nI_1]
      refine ⟨_, ⟨?_, ?_, fun c j h1 h2 => ?_⟩, rfl⟩
      · rw [stp]; exact w2.keep (fun c j h1 h2 => zs_ne (Or.inl (by omega)))
      · rw [zs_eq, zn_step, hyes]; rfl
      · rw [zs_ne h2, w3 c j h1]; exact g3 c j h1 h2) (i := 0) (n := 10000) (Nat.zero_le _) (a := s) ⟨hN, by rw [h30]; exact nI_0.symm, fun _ _ _ _ => rfl⟩ (by decide)
  rw [nI_0] at this
  exact this
theorem zX_nC_spec (hW : zq_WF P nb sz) (h : zq_Tab P nb sz t) {b : Nat} (hr : zq_rc P nb b) {s : zx_S} (hG : ∀ b, b < 16 → zx_sm (s 13 b) ∧ ∀ p, zb (s 13 b) p = true ↔ zq_pr P nb b p) (hN : zX_Nb P nb sz t (zq_st P nb sz b) s) (h30 : s 30 b = 0) (hC : zX_Ch P nb sz s) : ∃ s', (zX_Nb P nb sz t (zq_st P nb sz b + zq_cb P nb sz b) s' ∧ s' 29 b = nI (zq_st P nb sz b) ∧ s' 30 b = nI (zq_cb P nb sz b) ∧ ∀ c j, (c < 18 ∨ 23 < c) → ((c ≠ 29 ∧ c ≠ 30) ∨ j ≠ b) → s' c j = s c j) ∧ zX_Values_numberChoices (nI b) s = some s' := by
  have hnb := hW.2.1
  have hb := hr.1
  have hb16 : b < 16 := by omega
  unfold zX_Values_numberChoices
  rw [zc_ck hb16 (by decide), zc_cl (by omega), zX_bitCount_eq (hG b hb16).1, zc_b1]
  have cnt : zn (zb (s 13 b)) 16 = zq_np P nb b nb := by
    unfold zq_np
    have e : ∀ d, nb + d ≤ 16 → zn (zb (s 13 b)) (nb + d) = zn (fun p => zp (zq_pr P nb b p)) nb := by
      intro d
      induction d with
      | zero =>
        intro _
        apply zn_congr
        intro p hp
        by_cases q : zq_pr P nb b p
        · rw [zp_t.mpr q, ((hG b hb16).2 p).mpr q]
        · rw [zp_f.mpr q, zb_t.mpr (fun z => q (((hG b hb16).2 p).mp z))]
      | succ d ih =>
        intro hd
        rw [show nb + (d + 1) = nb + d + 1 by omega, zn_step, ih (by omega), zb_t.mpr (fun z => by have := (((hG b hb16).2 _).mp z).1.1; omega)]
        rfl
    have := e (16 - nb) (by omega)
    rwa [show nb + (16 - nb) = 16 by omega] at this
  rw [cnt]
  have fin : ∀ x : Int32, nI (zq_np P nb b nb) + x = nI (zq_no P nb b) → ∃ s', (zX_Nb P nb sz t (zq_st P nb sz b + zq_cb P nb sz b) s' ∧ s' 29 b = nI (zq_st P nb sz b) ∧ s' 30 b = nI (zq_cb P nb sz b) ∧ ∀ c j, (c < 18 ∨ 23 < c) → ((c ≠ 29 ∧ c ≠ 30) ∨ j ≠ b) → s' c j = s c j) ∧ zX_Values_numberChoices_J18 (nI b) (nI (zq_np P nb b nb)) x s = some s' := by
    intro x hx
    unfold zX_Values_numberChoices_J18
    simp only [hx, zc_lt, zc_ls, zc_ck hb16 (by decide), zc_cl (show b < 2 ^ 31 by omega)]
    obtain ⟨s', ⟨w1, w2, w3⟩, w4⟩ := zX_nC_L33_spec hW h (fun s11 => some s11) hr (s := zx_su s 29 b (s 18 11)) (hN.keep (fun c j h1 h2 => zs_ne (Or.inl (by omega)))) (by rw [zs_ne (Or.inl (by decide))]; exact h30) (fun v hv => by rw [zs_ne (Or.inl (by decide))]; exact hC v hv)
    refine ⟨s', ⟨w1, ?_, w2, fun c j h1 h2 => ?_⟩, w4⟩
    · rw [w3 29 b (Or.inr (by decide)) (Or.inl (by decide)), zs_eq, hN.1]
    · rw [w3 c j h1 (h2.imp (fun q => q.2) id), zs_ne (h2.imp (fun q => q.1) id)]
  by_cases q : b = 0
  · rw [if_pos (by rw [q]; exact nI_0)]
    refine fin 1 ?_
    unfold zq_no
    rw [if_pos q, nI_1]
  · rw [if_neg (fun z => q (nI_inj (by omega) (by omega) (z.trans nI_0.symm)))]
    refine fin 0 ?_
    unfold zq_no
    rw [if_neg q]; simp
theorem zX_nI_spec (hW : zq_WF P nb sz) (h : zq_Tab P nb sz t) {b : Nat} (hr : zq_rc P nb b) {s : zx_S} (hP : zX_Pi P nb sz s) (hN : zX_Nb P nb sz t (zq_st P nb sz b + zq_cb P nb sz b) s) : ∃ s', (zX_Nb P nb sz t (zq_st P nb sz (b + 1)) s' ∧ (∀ k, k < sz b → zq_iv P b k = true → s' 28 (zt sz b + k) = nI (zq_ii P nb sz b k)) ∧ (∀ c j, (c < 18 ∨ 23 < c) → (c ≠ 28 ∨ ∀ k, k < sz b → zq_iv P b k = true → j ≠ zt sz b + k) → s' c j = s c j)) ∧ zX_Values_numberInstructions (nI b) s = some s' := by
  have hnb := hW.2.1
  have hb := hr.1
  have ht := hP.tot hW (b := b + 1)
  have e1 : zt sz (b + 1) = zt sz b + sz b := rfl
  have h2 := hP.2.1
  unfold zX_Values_numberInstructions
  rw [zc_ck (show b < 17 by omega) (by decide), zc_cl (by omega), zc_lt, h2 b (by omega)]
  have := zf_off (L := fun n i u => zX_Values_numberInstructions_L7 (nI b) (fun s13 => some s13) n i u) (k := fun s13 => some s13) (zt sz b) (sz b) (fun k u => zX_Nb P nb sz t (zq_ii P nb sz b k) u ∧ (∀ k', k' < k → zq_iv P b k' = true → u 28 (zt sz b + k') = nI (zq_ii P nb sz b k')) ∧ (∀ c j, (c < 18 ∨ 23 < c) → (c ≠ 28 ∨ ∀ k', k' < k → zq_iv P b k' = true → j ≠ zt sz b + k') → u c j = s c j)) (fun n u q => by
    show zX_Values_numberInstructions_L7 (nI b) (fun s13 => some s13) (n + 1) (nI (zt sz b + sz b)) u = some u
    rw [zX_Values_numberInstructions_L7, nI_1, zc_ck (show b + 1 < 17 by omega) (by decide), zc_cl (by omega), q.2.2 2 _ (Or.inl (by decide)) (Or.inl (by decide)), h2 (b + 1) (by omega), e1, if_pos (Int32.le_refl _)]) (fun n k u hk q => by
    obtain ⟨g1, g2, g3⟩ := q
    show ∃ a', _ ∧ zX_Values_numberInstructions_L7 (nI b) (fun s13 => some s13) (n + 1) (nI (zt sz b + k)) u = zX_Values_numberInstructions_L7 (nI b) (fun s13 => some s13) n (nI (zt sz b + k + 1)) a'
    have hbd := hP.bnd hW hk
    obtain ⟨p3, p4, p5, p6⟩ := hP.2.2 b k hb hk
    obtain ⟨⟨kd, kd1, kd2⟩, -, -⟩ := hW.ins hb hk
    rw [zX_Values_numberInstructions_L7]
    simp only [nI_1, zc_ck (show b + 1 < 17 by omega) (by decide), zc_cl (show b + 1 < 2 ^ 31 by omega), g3 2 _ (Or.inl (by decide)) (Or.inl (by decide)), h2 (b + 1) (by omega), e1]
    rw [if_neg (by rw [nI_leI (by omega) (by omega)]; omega)]
    simp only [zc_ck hbd.2 (by decide), zc_cl (show zt sz b + k < 2 ^ 31 by omega), zc_lt, zc_ls, g3 3 _ (Or.inl (by decide)) (Or.inl (by decide)), p3]
    have skip : zq_iv P b k = false → ∃ a', (zX_Nb P nb sz t (zq_ii P nb sz b (k + 1)) a' ∧ (∀ k', k' < k + 1 → zq_iv P b k' = true → a' 28 (zt sz b + k') = nI (zq_ii P nb sz b k')) ∧ (∀ c j, (c < 18 ∨ 23 < c) → (c ≠ 28 ∨ ∀ k', k' < k + 1 → zq_iv P b k' = true → j ≠ zt sz b + k') → a' c j = s c j)) ∧ zX_Values_numberInstructions_L7 (nI b) (fun s13 => some s13) n (nI (zt sz b + k + 1)) u = zX_Values_numberInstructions_L7 (nI b) (fun s13 => some s13) n (nI (zt sz b + k + 1)) a' := by
      intro hno
      refine ⟨u, ⟨?_, fun k' hk' hv => ?_, fun c j h1 h2 => g3 c j h1 (h2.imp_right (fun q k' hk' => q k' (by omega)))⟩, rfl⟩
      · rw [show zq_ii P nb sz b (k + 1) = zq_ii P nb sz b k by unfold zq_ii; rw [zn_step, hno]; rfl]; exact g1
      · by_cases e : k' = k
        · rw [e, hno] at hv; cases hv
        · exact g2 k' (by omega) hv
    by_cases c1 : P 1 (100 * b + k) = 2
    · rw [if_pos c1]
      exact skip (by cases hv : zq_iv P b k; rfl; exact absurd c1 ((zm_iv P b k).mp hv).1)
    · rw [if_neg c1]
      by_cases c2 : P 1 (100 * b + k) = 14
      · rw [if_pos c2]
        exact skip (by cases hv : zq_iv P b k; rfl; exact absurd c2 ((zm_iv P b k).mp hv).2)
      · rw [if_neg c2]
        have hv : zq_iv P b k = true := (zm_iv P b k).mpr ⟨c1, c2⟩
        have isN : zq_isN P nb sz (zq_ii P nb sz b k) b k := ⟨hr, hk, hv, rfl⟩
        have hlt := isN.lt
        have h261 := zq_st_261 hW (show b + 1 ≤ nb from hb)
        have hp1 := zq_st_pos (P := P) (nb := nb) (sz := sz) b
        have stp : zq_ii P nb sz b (k + 1) = zq_ii P nb sz b k + 1 := by unfold zq_ii; rw [zn_step, hv]; rfl
        have hx : zx_su u 28 (zt sz b + k) (u 18 11) 4 (zt sz b + k) = P 2 (100 * b + k) := by rw [zs_ne (Or.inl (by decide)), g3 4 _ (Or.inl (by decide)) (Or.inl (by decide)), p4, if_neg c2]
        have hy : zx_su u 28 (zt sz b + k) (u 18 11) 5 (zt sz b + k) = P 3 (100 * b + k) := by rw [zs_ne (Or.inl (by decide)), g3 5 _ (Or.inl (by decide)) (Or.inl (by decide)), p5, if_neg c2]
        rw [hx, hy]
        have gN : zX_Nb P nb sz t (zq_ii P nb sz b k) (zx_su u 28 (zt sz b + k) (u 18 11)) := g1.keep (fun c j h1 h2 => zs_ne (Or.inl (by omega)))
        have fin : ∀ (c : Nat) (p4 : Int32), (c = if 3 ≤ P 1 (100 * b + k) then 2 else 0) → (p4 = if 2 ≤ P 1 (100 * b + k) then -1 else P 3 (100 * b + k)) → ∃ a', (zX_Nb P nb sz t (zq_ii P nb sz b (k + 1)) a' ∧ (∀ k', k' < k + 1 → zq_iv P b k' = true → a' 28 (zt sz b + k') = nI (zq_ii P nb sz b k')) ∧ (∀ c j, (c < 18 ∨ 23 < c) → (c ≠ 28 ∨ ∀ k', k' < k + 1 → zq_iv P b k' = true → j ≠ zt sz b + k') → a' c j = s c j)) ∧ (zx_b1 (zX_Values_add (P 1 (100 * b + k)) (nI b) (P 2 (100 * b + k)) p4 (nI c) (zx_su u 28 (zt sz b + k) (u 18 11))) fun s8 => zX_Values_numberInstructions_L7 (nI b) (fun s13 => some s13) n (nI (zt sz b + k + 1)) s8) = zX_Values_numberInstructions_L7 (nI b) (fun s13 => some s13) n (nI (zt sz b + k + 1)) a' := by
          intro c p4 hc hp4
          obtain ⟨u', w1, w2, w3⟩ := gN.addN h (by omega) (by omega) isN hc hp4
          rw [w1, zc_b1]
          refine ⟨u', ⟨by rw [stp]; exact w2, fun k' hk' hv' => ?_, fun c j h1 h2 => ?_⟩, rfl⟩
          · rw [w3 28 _ (Or.inr (by decide))]
            by_cases e : k' = k
            · rw [e, zs_eq, g1.1]
            · rw [zs_ne (Or.inr (by omega))]; exact g2 k' (by omega) hv'
          · rw [w3 c j h1, zs_ne (h2.imp_right (fun q => q k (by omega) hv))]
            exact g3 c j h1 (h2.imp_right (fun q k' hk' => q k' (by omega)))
        have kk3 := zq_kd3 kd1 kd2
        by_cases c3 : P 1 (100 * b + k) = 0
        · rw [if_pos c3]
          have := fin 0 (P 3 (100 * b + k)) (by rw [if_neg (by rw [c3]; decide)]) (by rw [if_neg (by rw [c3]; decide)])
          rw [nI_0] at this
          exact this
        · rw [if_neg c3]
          by_cases c4 : P 1 (100 * b + k) = 1
          · rw [if_pos c4]
            have := fin 0 (P 3 (100 * b + k)) (by rw [if_neg (by rw [c4]; decide)]) (by rw [if_neg (by rw [c4]; decide)])
            rw [nI_0] at this
            exact this
          · rw [if_neg c4]
            have h3 : 3 ≤ kd := by
              rcases (show kd = 0 ∨ kd = 1 ∨ kd = 2 ∨ 3 ≤ kd by omega) with q | q | q | q
              · exact absurd (by rw [kd2, q]; decide) c3
              · exact absurd (by rw [kd2, q]; decide) c4
              · exact absurd (by rw [kd2, q]; decide) c1
              · exact q
            have := fin 2 (-1) (by rw [if_pos (kk3.1.mpr h3)]) (by rw [if_pos (kk3.2.1.mpr (by omega))])
            rw [show nI 2 = (2 : Int32) by decide] at this
            exact this) (n := 10000) (a := s) ⟨hN, fun k hk => by omega, fun _ _ _ _ => rfl⟩ (by omega)
  obtain ⟨s', ⟨w1, w2, w3⟩, w4⟩ := this
  refine ⟨s', ⟨?_, w2, w3⟩, w4⟩
  rw [zq_bz_rc hr, ← Nat.add_assoc]; exact w1
end XN
