/-! PURE: the class's numberAll -/
section XA
variable {P : zx_S} {nb : Nat} {sz : Nat → Nat} {t : zc_Tb}
theorem zX_reaches_eq (hnb : nb ≤ 16) {s : zx_S} (h : zx_sm (s 11 6) ∧ ∀ b, zb (s 11 6) b = true ↔ zq_rc P nb b) {b : Nat} (hb : b < 2 ^ 31) : zX_Graph_reaches (nI b) s = some (zi (zp (zq_rc P nb b))) := by
  unfold zX_Graph_reaches
  rw [if_neg (nI_pos hb)]
  by_cases q : b < 16
  · rw [if_neg (by rw [show (16 : Int32) = nI 16 by decide, nI_leI (by omega) (by omega)]; omega), zX_isIn_eq _ (show b < 32 by omega), zc_b1, zi_isin]
    simp only [zi_0]
    by_cases c : zb (s 11 6) b = false
    · rw [if_pos c, zp_f.mpr (fun z => by rw [(h.2 b).mpr z] at c; cases c)]; rfl
    · rw [if_neg c, zp_t.mpr ((h.2 b).mp (by simpa using c))]; rfl
  · rw [if_pos (by rw [show (16 : Int32) = nI 16 by decide, nI_leI (by omega) (by omega)]; omega), zp_f.mpr (fun z => by have := z.1; omega)]; rfl
theorem zX_fill_4_eq (s : zx_S) : ∃ s', ((∀ b, b < 16 → s' 30 b = 0) ∧ ∀ c i, c ≠ 30 → s' c i = s c i) ∧ zX_Arrays_fill_4 0 s = some s' := by
  unfold zX_Arrays_fill_4
  have := zf_for (L := fun n i u => zX_Arrays_fill_4_L5 0 16 (fun s3 => some s3) n i u) (k := fun s3 => some s3) 16 (fun i u => (∀ b, b < i → u 30 b = 0) ∧ ∀ c i, c ≠ 30 → u c i = s c i) (fun n u _ => by
    show zX_Arrays_fill_4_L5 0 16 (fun s3 => some s3) (n + 1) (nI 16) u = some u
    rw [zX_Arrays_fill_4_L5, if_pos (by decide)]) (fun n i u hi q => by
    show ∃ a', _ ∧ zX_Arrays_fill_4_L5 0 16 (fun s3 => some s3) (n + 1) (nI i) u = zX_Arrays_fill_4_L5 0 16 (fun s3 => some s3) n (nI (i + 1)) a'
    rw [zX_Arrays_fill_4_L5, if_neg (by rw [show (16 : Int32) = nI 16 by decide, nI_leI (by omega) (by omega)]; omega), zc_ck hi (by decide), zc_cl (by omega), zc_ls, zc_lt, nI_1]
    refine ⟨_, ⟨fun b hb => ?_, fun c j hc => by rw [zs_ne (Or.inl hc)]; exact q.2 c j hc⟩, rfl⟩
    by_cases e : b = i
    · rw [e, zs_eq]
    · rw [zs_ne (Or.inr e)]; exact q.1 b (by omega)) (i := 0) (n := 10000) (Nat.zero_le _) (a := s) ⟨fun b hb => by omega, fun _ _ _ => rfl⟩ (by decide)
  rw [nI_0] at this
  exact this
theorem zX_fill_5_eq (s : zx_S) : ∃ s', ((∀ b, b < 100 → s' 28 b = -1) ∧ ∀ c i, c ≠ 28 → s' c i = s c i) ∧ zX_Arrays_fill_5 (-1) s = some s' := by
  unfold zX_Arrays_fill_5
  have := zf_for (L := fun n i u => zX_Arrays_fill_5_L5 (-1) 100 (fun s3 => some s3) n i u) (k := fun s3 => some s3) 100 (fun i u => (∀ b, b < i → u 28 b = -1) ∧ ∀ c i, c ≠ 28 → u c i = s c i) (fun n u _ => by
    show zX_Arrays_fill_5_L5 (-1) 100 (fun s3 => some s3) (n + 1) (nI 100) u = some u
    rw [zX_Arrays_fill_5_L5, if_pos (by decide)]) (fun n i u hi q => by
    show ∃ a', _ ∧ zX_Arrays_fill_5_L5 (-1) 100 (fun s3 => some s3) (n + 1) (nI i) u = zX_Arrays_fill_5_L5 (-1) 100 (fun s3 => some s3) n (nI (i + 1)) a'
    rw [zX_Arrays_fill_5_L5, if_neg (by rw [show (100 : Int32) = nI 100 by decide, nI_leI (by omega) (by omega)]; omega), zc_ck hi (by decide), zc_cl (by omega), zc_ls, zc_lt, nI_1]
    refine ⟨_, ⟨fun b hb => ?_, fun c j hc => by rw [zs_ne (Or.inl hc)]; exact q.2 c j hc⟩, rfl⟩
    by_cases e : b = i
    · rw [e, zs_eq]
    · rw [zs_ne (Or.inr e)]; exact q.1 b (by omega)) (i := 0) (n := 10000) (Nat.zero_le _) (a := s) ⟨fun b hb => by omega, fun _ _ _ => rfl⟩ (by decide)
  rw [nI_0] at this
  exact this
/-- what the class's numbering holds of the BLOCKS below n -/
def zX_Nr (P : zx_S) (nb : Nat) (sz : Nat → Nat) (t : zc_Tb) (n : Nat) (s : zx_S) : Prop := zX_Nb P nb sz t (zq_st P nb sz n) s ∧ (∀ b, b < n → zq_rc P nb b → s 29 b = nI (zq_st P nb sz b) ∧ s 30 b = nI (zq_cb P nb sz b)) ∧ (∀ b, b < 16 → (n ≤ b ∨ ¬ zq_rc P nb b) → s 30 b = 0) ∧ (∀ b k, b < n → zq_rc P nb b → k < sz b → zq_iv P b k = true → s 28 (zt sz b + k) = nI (zq_ii P nb sz b k)) ∧ ∀ b k, k < sz b → (n ≤ b ∨ ¬ zq_rc P nb b ∨ zq_iv P b k = false) → s 28 (zt sz b + k) = -1
theorem zt_ne {b k b' k' : Nat} (h : k < sz b) (h' : k' < sz b') (hne : b ≠ b') : zt sz b + k ≠ zt sz b' + k' := by
  rcases Nat.lt_or_ge b b' with q | q
  · have := zt_up (f := sz) (show b + 1 ≤ b' from q)
    rw [zt_step] at this; omega
  · have := zt_up (f := sz) (show b' + 1 ≤ b by omega)
    rw [zt_step] at this; omega
theorem zX_numberAll_L40_spec (hW : zq_WF P nb sz) (h : zq_Tab P nb sz t) {s : zx_S} (hP : zX_Pr P nb sz s) (hG : zX_Gr P nb s) (hC : zX_Ch P nb sz s) (h0 : zX_Nr P nb sz t 0 s) : ∃ s', (zX_Nr P nb sz t 16 s' ∧ ∀ c i, (c < 18 ∨ (23 < c ∧ c < 28) ∨ 30 < c) → s' c i = s c i) ∧ zX_Values_numberAll_L40 (fun s10 => some s10) 10000 (0 : Int32) s = some s' := by
  have hnb := hW.2.1
  have := zf_for (L := fun n i u => zX_Values_numberAll_L40 (fun s10 => some s10) n i u) (k := fun s10 => some s10) 16 (fun n u => zX_Nr P nb sz t n u ∧ ∀ c i, (c < 18 ∨ (23 < c ∧ c < 28) ∨ 30 < c) → u c i = s c i) (fun n u _ => by
    show zX_Values_numberAll_L40 (fun s10 => some s10) (n + 1) (nI 16) u = some u
    rw [zX_Values_numberAll_L40, if_pos (by decide)]) (fun n b u hb q => by
    obtain ⟨⟨g1, g2, g3, g4, g5⟩, g6⟩ := q
    show ∃ a', _ ∧ zX_Values_numberAll_L40 (fun s10 => some s10) (n + 1) (nI b) u = zX_Values_numberAll_L40 (fun s10 => some s10) n (nI (b + 1)) a'
    rw [zX_Values_numberAll_L40, if_neg (by rw [show (16 : Int32) = nI 16 by decide, nI_leI (by omega) (by omega)]; omega), zX_reaches_eq (P := P) (s := u) hnb (by rw [g6 11 6 (Or.inl (by decide))]; exact hG.1) (show b < 2 ^ 31 by omega), zc_b1]
    simp only [zi_0, zc_lt, nI_1]
    by_cases c1 : zp (zq_rc P nb b) = false
    · rw [if_pos c1]
      have hno := zp_f.mp c1
      refine ⟨u, ⟨⟨by rw [zq_bz_no hno]; exact g1, fun b' hb' hr => ?_, fun b' hb' hr => ?_, fun b' k hb' hr => ?_, fun b' k hk hr => ?_⟩, g6⟩, rfl⟩
      · exact g2 b' (by have : b' ≠ b := fun e => hno (e ▸ hr)
                        omega) hr
      · exact g3 b' hb' (hr.imp_left (fun q => by omega))
      · exact g4 b' k (by have : b' ≠ b := fun e => hno (e ▸ hr)
                          omega) hr
      · exact g5 b' k hk (hr.imp_left (fun q => by omega))
    · rw [if_neg c1]
      have hr : zq_rc P nb b := zp_t.mp (by simpa using c1)
      obtain ⟨u1, ⟨a1, a2, a3, a4⟩, a5⟩ := zX_nC_spec hW h hr (s := u) (fun b' hb' => by rw [g6 13 b' (Or.inl (by decide))]; exact hG.2.1 b' hb') g1 (g3 b hb (Or.inl (Nat.le_refl _))) (fun v hv => by rw [g6 31 v (Or.inr (Or.inr (by decide)))]; exact hC v hv)
      rw [a5, zc_b1]
      have hPu : zX_Pr P nb sz u1 := hP.keep (fun c i h1 h2 => by rw [a4 c i (Or.inl (by omega)) (Or.inl ⟨by omega, by omega⟩), g6 c i (Or.inl (by omega))])
      obtain ⟨u2, ⟨b1, b2, b3⟩, b4⟩ := zX_nI_spec hW h hr hPu.2 a1
      rw [b4, zc_b1]
      have f29 : ∀ c b', c = 29 ∨ c = 30 → b' ≠ b → u2 c b' = u c b' := fun c b' hc hne => by
        rw [b3 c b' (Or.inr (by omega)) (Or.inl (by omega)), a4 c b' (Or.inr (by omega)) (Or.inr hne)]
      refine ⟨u2, ⟨⟨b1, fun b' hb' hr' => ?_, fun b' hb' hr' => ?_, fun b' k hb' hr' hk hv => ?_, fun b' k hk hr' => ?_⟩, fun c i hc => ?_⟩, rfl⟩
      · by_cases e : b' = b
        · subst e
          rw [b3 29 _ (Or.inr (by decide)) (Or.inl (by decide)), b3 30 _ (Or.inr (by decide)) (Or.inl (by decide))]
          exact ⟨a2, a3⟩
        · rw [f29 29 b' (Or.inl rfl) e, f29 30 b' (Or.inr rfl) e]
          exact g2 b' (by omega) hr'
      · have e : b' ≠ b := fun e => by
          subst e
          rcases hr' with q | q
          · omega
          · exact q hr
        rw [f29 30 b' (Or.inr rfl) e]
        exact g3 b' hb' (hr'.imp_left (fun q => by omega))
      · by_cases e : b' = b
        · subst e; exact b2 k hk hv
        · rw [b3 28 _ (Or.inr (by decide)) (Or.inr (fun k' hk' _ => zt_ne hk hk' e)), a4 28 _ (Or.inr (by decide)) (Or.inl ⟨by decide, by decide⟩)]
          exact g4 b' k (by omega) hr' hk hv
      · rw [b3 28 _ (Or.inr (by decide)) (Or.inr (fun k' hk' hv' => by
          by_cases e : b' = b
          · subst e
            rcases hr' with q | q | q
            · omega
            · exact absurd hr q
            · intro z
              have : k = k' := by omega
              subst this; rw [q] at hv'; cases hv'
          · exact zt_ne hk hk' e)), a4 28 _ (Or.inr (by decide)) (Or.inl ⟨by decide, by decide⟩)]
        exact g5 b' k hk (hr'.imp_left (fun q => by omega))
      · rw [b3 c i (by omega) (Or.inl (by omega)), a4 c i (by omega) (Or.inl ⟨by omega, by omega⟩)]
        exact g6 c i hc) (i := 0) (n := 10000) (Nat.zero_le _) (a := s) ⟨h0, fun _ _ _ => rfl⟩ (by decide)
  rw [nI_0] at this
  obtain ⟨s', h1, h2⟩ := this
  exact ⟨s', h1, h2⟩
theorem zX_numberAll_spec (hW : zq_WF P nb sz) (hn : 0 < nb) (h : zq_Tab P nb sz t) {s : zx_S} (hP : zX_Pr P nb sz s) (hG : zX_Gr P nb s) (hC : zX_Ch P nb sz s) (h23 : s 23 0 = 0) : ∃ s', (zX_Nr P nb sz t 16 s' ∧ ∀ c i, (c < 18 ∨ (23 < c ∧ c < 28) ∨ 30 < c) → s' c i = s c i) ∧ zX_Values_numberAll s = some s' := by
  have hnb := hW.2.1
  unfold zX_Values_numberAll
  rw [zc_ls]
  obtain ⟨s1, ⟨a1, a2⟩, a3⟩ := zX_fill_4_eq (zx_su s 18 11 0)
  rw [a3, zc_b1]
  obtain ⟨s2, ⟨b1, b2⟩, b3⟩ := zX_fill_5_eq s1
  rw [b3, zc_b1]
  have fr : ∀ c i, c ≠ 18 → c ≠ 30 → c ≠ 28 → s2 c i = s c i := fun c i h1 h2 h3 => by rw [b2 c i h3, a2 c i h2, zs_ne (Or.inl h1)]
  have := zX_reaches_eq (P := P) (s := s2) (b := 0) hnb (by rw [fr 11 6 (by decide) (by decide) (by decide)]; exact hG.1) (by decide)
  rw [nI_0] at this
  rw [this, zc_b1]
  simp only [zi_0]
  rw [if_neg (by rw [zp_t.mpr (zq_rc.zero hn)]; decide)]
  have h18 : s2 18 11 = nI 0 := by rw [b2 18 11 (by decide), a2 18 11 (by decide), zs_eq]; exact nI_0.symm
  obtain ⟨s3, c1, ⟨c2, c3, c4, c5, c6, c7⟩, c8, c9, c10⟩ := zX_add_eq (c := 0) (f := 0) (show 0 < 261 by decide) h18 (fun _ => rfl) (fun q => by omega) 0 0 (-1) 0
  rw [nI_0] at c1
  rw [c1, zc_b1]
  unfold zX_Values_numberAll_J38
  obtain ⟨s', ⟨d1, d2⟩, d3⟩ := zX_numberAll_L40_spec hW h (s := s3) (hP.keep (fun c i h1 h2 => by rw [c8 c i (by omega), fr c i (by omega) (by omega) (by omega)])) (by
      obtain ⟨e1, e2, e3, e4, e5, e6⟩ := hG
      have ff : ∀ c i, c < 18 → s3 c i = s c i := fun c i hc => by rw [c8 c i (by omega), fr c i (by omega) (by omega) (by omega)]
      refine ⟨by rw [ff 11 6 (by decide)]; exact e1, fun b hb => by rw [ff 13 b (by decide)]; exact e2 b hb, fun b hb => by rw [ff 14 b (by decide)]; exact e3 b hb, fun b hb => by rw [ff 15 b (by decide)]; exact e4 b hb, fun b hb => by rw [ff 16 b (by decide)]; exact e5 b hb, fun b hb => by rw [ff 17 b (by decide)]; exact e6 b hb⟩) (fun v hv => by rw [c8 31 v (by decide), fr 31 v (by decide) (by decide) (by decide)]; exact hC v hv) (by
      refine ⟨⟨c2, ⟨fun _ => ⟨c3, c4, c5, c6⟩, fun i b v hi hc => ?_, fun i b k hi hc => ?_⟩, fun j hj => ?_⟩, fun b hb => by omega, fun b hb _ => by rw [c8 30 b (by decide), b2 30 b (by decide)]; exact a1 b hb, fun b k hb => by omega, fun b k hk _ => by rw [c8 28 _ (by decide)]; exact b1 _ (hP.2.bnd hW hk).2⟩
      · have : i = 0 := by have e : zq_st P nb sz 0 = 1 := rfl
                           omega
        subst this; exact absurd hc zq_notC0
      · have : i = 0 := by have e : zq_st P nb sz 0 = 1 := rfl
                           omega
        subst this; exact absurd hc zq_notN0
      · have hj : j ≤ 1 := hj
        rcases (show j = 0 ∨ j = 1 by omega) with e | e
        · subst e
          rw [c10 0 (by decide), fr 23 0 (by decide) (by decide) (by decide), h23]; exact nI_0.symm
        · subst e
          rw [c7]
          show _ = nI (0 + zt_c t 0)
          rw [h.2.1.2.2.2])
  exact ⟨s', ⟨d1, fun c i hc => by rw [d2 c i hc, c8 c i (by omega), fr c i (by omega) (by omega) (by omega)]⟩, d3⟩
end XA
