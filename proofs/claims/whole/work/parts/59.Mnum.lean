/-! PURE: the reference's numbers() -/
def zm_cm (s : zx_S) (t : Nat) (a b c d e : Int32) : zx_S := zx_su (zx_su (zx_su (zx_su (zx_su (zx_su (zx_su s 16 t a) 17 t b) 18 t c) 19 t d) 20 t e) 22 t 0) 0 18 (nI (t + 1))
theorem zM_comes_eq {s : zx_S} {t : Nat} (h : s 0 18 = nI t) (ht : t < 270) (a b c d e : Int32) : zM_ValueBenchModel_comes a b c d e s = some (nI t, zm_cm s t a b c d e) := by
  have cl : (nI t).toNatClampNeg = t := zc_cl (by omega)
  have o : ∀ (r : zx_S) (k i : Nat) (x : Int32), k ≠ 0 → zx_su r k i x 0 18 = r 0 18 := fun r k i x hk => zs_ne (Or.inl (fun e => hk e.symm))
  unfold zM_ValueBenchModel_comes
  simp only [zc_ls, zc_lt]
  rw [h, zc_ck ht (by decide), cl]
  simp only [o _ 16 _ _ (by decide), o _ 17 _ _ (by decide), o _ 18 _ _ (by decide), o _ 19 _ _ (by decide), o _ 20 _ _ (by decide), o _ 22 _ _ (by decide), h, zc_ck ht (by decide), cl, zs_eq, nI_1, nI_pred]
  rfl
theorem zm_cm_at (s : zx_S) (t : Nat) (a b c d e : Int32) (k i : Nat) : zm_cm s t a b c d e k i = if k = 0 ∧ i = 18 then nI (t + 1) else if i = t then (if k = 16 then a else if k = 17 then b else if k = 18 then c else if k = 19 then d else if k = 20 then e else if k = 22 then 0 else s k i) else s k i := by
  unfold zm_cm
  simp only [zs_at]
  by_cases h1 : k = 0 ∧ i = 18
  · simp [h1]
  · rw [if_neg h1, if_neg h1]
    by_cases h2 : i = t
    · subst h2
      by_cases g1 : k = 16
      · subst g1; simp
      · by_cases g2 : k = 17
        · subst g2; simp
        · by_cases g3 : k = 18
          · subst g3; simp
          · by_cases g4 : k = 19
            · subst g4; simp
            · by_cases g5 : k = 20
              · subst g5; simp
              · by_cases g6 : k = 22
                · subst g6; simp
                · simp [g1, g2, g3, g4, g5, g6]
    · simp [h2]
/-- what stands behind so many VALUES -/
def zm_N (P s0 : zx_S) (nb : Nat) (sz : Nat → Nat) (t : Nat) (s : zx_S) : Prop :=
  zq_Pg P s ∧ s 0 18 = nI t ∧ (∀ c i, (c = 0 ∧ i ≠ 18) ∨ (c ≠ 0 ∧ c < 16) ∨ c = 21 ∨ 24 < c → s c i = s0 c i) ∧ zv_T P nb sz t s 16 17 18 19 ∧ s 20 0 = -2 ∧
  (∀ i b v, i < t → zq_isC P nb sz i b v → s 20 i = -1 ∧ s 23 (10 * b + v) = nI i) ∧ (∀ i b k, i < t → zq_isN P nb sz i b k → s 20 i = nI k ∧ s 24 (100 * b + k) = nI i) ∧ ∀ i, i < t → s 22 i = 0
/-- ... and the INSTRUCTIONS that define none, of the blocks below B and of B the first K -/
def zm_Nn (P : zx_S) (nb : Nat) (sz : Nat → Nat) (B K : Nat) (s : zx_S) : Prop := ∀ b k, (b < B ∨ (b = B ∧ k < K)) → zq_rc P nb b → k < sz b → zq_iv P b k = false → s 24 (100 * b + k) = -1
section MN
variable {P s0 : zx_S} {nb : Nat} {sz : Nat → Nat}
theorem zM_num_L48_spec (hW : zq_WF P nb sz) (k : zx_S → Option zx_S) {b : Nat} (hb : zq_rc P nb b) {s : zx_S} (h15 : zm_R15 P nb sz s0) (hN : zm_N P s0 nb sz (zq_st P nb sz b) s) (hn : zm_Nn P nb sz b 0 s) : ∃ s', (zm_N P s0 nb sz (zq_st P nb sz b + zq_cb P nb sz b) s' ∧ zm_Nn P nb sz b 0 s') ∧ zM_ValueBenchModel_numbers_L48 (nI b) k 10000 (0 : Int32) s = k s' := by
  have hnb := hW.2.1
  have hbn := hb.1
  have htot : zq_st P nb sz b + zq_cb P nb sz b ≤ 261 := by
    have h1 := zq_st_261 hW (show b + 1 ≤ nb from hbn)
    rw [zq_bz_rc hb] at h1; omega
  have := zf_for (L := fun n i s => zM_ValueBenchModel_numbers_L48 (nI b) k n i s) (k := k) 10 (fun v s => zm_N P s0 nb sz (zq_ic P nb sz b v) s ∧ zm_Nn P nb sz b 0 s) (fun n s h => by
    show zM_ValueBenchModel_numbers_L48 (nI b) k (n + 1) (nI 10) s = k s
    rw [zM_ValueBenchModel_numbers_L48, if_pos (by decide)]) (fun n v s hv h => by
    obtain ⟨g, gn⟩ := h
    obtain ⟨g1, g2, g3, g4, g5, g6, g7, g8⟩ := id g
    show ∃ a', _ ∧ zM_ValueBenchModel_numbers_L48 (nI b) k (n + 1) (nI v) s = _
    rw [zM_ValueBenchModel_numbers_L48, if_neg (by rw [show (10 : Int32) = nI 10 by decide, nI_leI (by omega) (by omega)]; omega)]
    simp only [nI_10, zc_ck (show 10 * b + v < 160 by omega) (by decide), zc_cl (show 10 * b + v < 2 ^ 31 by omega), zc_lt, nI_1]
    rw [g3 15 _ (Or.inr (Or.inl ⟨by decide, by decide⟩)), h15 b v (by omega) hv]
    simp only [zi_0]
    by_cases c1 : zp (zq_HC P nb sz v b) = false
    · rw [if_pos c1]
      have e : zq_ic P nb sz b (v + 1) = zq_ic P nb sz b v := by
        unfold zq_ic; rw [zn_step, zq_hc, c1]; simp
      exact ⟨s, ⟨by rw [e]; exact g, gn⟩, rfl⟩
    · rw [if_neg c1]
      have hH : zq_HC P nb sz v b := zp_t.mp (by simpa using c1)
      have e : zq_ic P nb sz b (v + 1) = zq_ic P nb sz b v + 1 := by
        unfold zq_ic; rw [zn_step, zq_hc, zp_t.mpr hH]; simp; omega
      have hC : zq_isC P nb sz (zq_ic P nb sz b v) b v := ⟨hb, hv, hH, rfl⟩
      have hlt := hC.lt
      have hp := zq_st_pos (P := P) (nb := nb) (sz := sz) b
      generalize hT : zq_ic P nb sz b v = t at *
      rw [zM_comes_eq g2 (by omega), zc_b2, zc_ls]
      have A := zm_cm_at s t 15 (nI b) (nI v) (-1) (-1)
      generalize zm_cm s t 15 (nI b) (nI v) (-1) (-1) = r at *
      refine ⟨_, ⟨?_, ?_⟩, rfl⟩
      · rw [e]
        have low : ∀ c i, c ≠ 0 → c ≠ 23 → i < t → zx_su r 23 (10 * b + v) (nI t) c i = s c i := fun c i h0 h23 hi => by
          rw [zs_ne (Or.inl h23), A, if_neg (fun q => h0 q.1), if_neg (by omega)]
        have T1 : zv_T P nb sz t (zx_su r 23 (10 * b + v) (nI t)) 16 17 18 19 := g4.keep (fun c i hc hi => low c i (by omega) (by omega) hi)
        refine ⟨⟨?_, fun c h1 h2 => ?_⟩, ?_, fun c i hc => ?_, T1.addC (by omega) hC ?_, ?_, fun i b' v' hi hc => ?_, fun i b' k' hi hc => ?_, fun i hi => ?_⟩
        · rw [zs_ne (Or.inl (by decide)), A, if_neg (by decide)]
          by_cases q : 0 = t
          · omega
          · rw [if_neg q]; exact g1.1
        · funext i
          rw [zs_ne (Or.inl (by omega)), A, if_neg (by omega)]
          by_cases q : i = t
          · rw [if_pos q]; simp only [show ¬ c = 16 by omega, show ¬ c = 17 by omega, show ¬ c = 18 by omega, show ¬ c = 19 by omega, show ¬ c = 20 by omega, show ¬ c = 22 by omega, if_false]; rw [g1.2 c h1 h2]
          · rw [if_neg q, g1.2 c h1 h2]
        · rw [zs_ne (Or.inl (by decide)), A, if_pos ⟨rfl, rfl⟩]
        · rw [zs_ne (Or.inl (by omega)), A, if_neg (by omega)]
          by_cases q : i = t
          · rw [if_pos q]; simp only [show ¬ c = 16 by omega, show ¬ c = 17 by omega, show ¬ c = 18 by omega, show ¬ c = 19 by omega, show ¬ c = 20 by omega, show ¬ c = 22 by omega, if_false]; exact g3 c i hc
          · rw [if_neg q]; exact g3 c i hc
        · refine ⟨?_, ?_, ?_, ?_⟩ <;> rw [zs_ne (Or.inl (by decide)), A, if_neg (by omega), if_pos rfl] <;> simp
        · rw [low 20 0 (by decide) (by decide) (by omega)]; exact g5
        · by_cases q : i = t
          · subst q
            obtain ⟨e1, e2⟩ := hC.uniq hc
            subst e1 e2
            refine ⟨?_, zs_eq _ _ _ _⟩
            rw [zs_ne (Or.inl (by decide)), A, if_neg (by omega), if_pos rfl]; simp
          · have := g6 i b' v' (by omega) hc
            refine ⟨by rw [low 20 i (by decide) (by decide) (by omega)]; exact this.1, ?_⟩
            have hv' := hc.2.1
            have hne : 10 * b' + v' ≠ 10 * b + v := fun q2 => q (by
              have e1 : b' = b := by omega
              have e2 : v' = v := by omega
              rw [hc.2.2.2, e1, e2, hT])
            rw [zs_ne (Or.inr hne), A, if_neg (by omega)]
            by_cases q3 : 10 * b' + v' = t
            · rw [if_pos q3]; simp only [show ¬ (23 : Nat) = 16 by decide, show ¬ (23 : Nat) = 17 by decide, show ¬ (23 : Nat) = 18 by decide, show ¬ (23 : Nat) = 19 by decide, show ¬ (23 : Nat) = 20 by decide, show ¬ (23 : Nat) = 22 by decide, if_false]; exact this.2
            · rw [if_neg q3]; exact this.2
        · by_cases q : i = t
          · subst q; exact absurd hc (fun z => zq_isCN hC z)
          · have := g7 i b' k' (by omega) hc
            refine ⟨by rw [low 20 i (by decide) (by decide) (by omega)]; exact this.1, ?_⟩
            rw [zs_ne (Or.inl (by decide)), A, if_neg (by omega)]
            by_cases q3 : 100 * b' + k' = t
            · rw [if_pos q3]; simp only [show ¬ (24 : Nat) = 16 by decide, show ¬ (24 : Nat) = 17 by decide, show ¬ (24 : Nat) = 18 by decide, show ¬ (24 : Nat) = 19 by decide, show ¬ (24 : Nat) = 20 by decide, show ¬ (24 : Nat) = 22 by decide, if_false]; exact this.2
            · rw [if_neg q3]; exact this.2
        · by_cases q : i = t
          · rw [zs_ne (Or.inl (by decide)), A, if_neg (by omega), if_pos q]; simp
          · rw [low 22 i (by decide) (by decide) (by omega)]; exact g8 i (by omega)
      · intro b' k' hq hr hk' hi'
        rw [zs_ne (Or.inl (by decide)), A, if_neg (by omega)]
        have := gn b' k' hq hr hk' hi'
        by_cases q3 : 100 * b' + k' = t
        · rw [if_pos q3]; simp only [show ¬ (24 : Nat) = 16 by decide, show ¬ (24 : Nat) = 17 by decide, show ¬ (24 : Nat) = 18 by decide, show ¬ (24 : Nat) = 19 by decide, show ¬ (24 : Nat) = 20 by decide, show ¬ (24 : Nat) = 22 by decide, if_false]; exact this
        · rw [if_neg q3]; exact this) (i := 0) (n := 10000) (Nat.zero_le 10) (a := s) ⟨by unfold zq_ic; exact hN, hn⟩ (by omega)
  rw [nI_0] at this
  exact this
theorem zm_cm_o {s : zx_S} {t : Nat} {a b c d e : Int32} {k i : Nat} (h : ¬ (k = 0 ∧ i = 18)) (hk : k < 16 ∨ k = 21 ∨ 22 < k) : zm_cm s t a b c d e k i = s k i := by
  rw [zm_cm_at, if_neg h]
  by_cases q : i = t
  · rw [if_pos q]; simp only [show ¬ k = 16 by omega, show ¬ k = 17 by omega, show ¬ k = 18 by omega, show ¬ k = 19 by omega, show ¬ k = 20 by omega, show ¬ k = 22 by omega, if_false]
  · rw [if_neg q]
theorem zm_iv (P : zx_S) (b k : Nat) : zq_iv P b k = true ↔ ¬ P 1 (100 * b + k) = 2 ∧ ¬ P 1 (100 * b + k) = 14 := by
  unfold zq_iv; exact decide_eq_true_iff
theorem zM_num_L97_spec (hW : zq_WF P nb sz) (kk : zx_S → Option zx_S) {b : Nat} (hb : zq_rc P nb b) {s : zx_S} (hN : zm_N P s0 nb sz (zq_st P nb sz b + zq_cb P nb sz b) s) (hn : zm_Nn P nb sz b 0 s) : ∃ s', (zm_N P s0 nb sz (zq_st P nb sz (b + 1)) s' ∧ zm_Nn P nb sz (b + 1) 0 s') ∧ zM_ValueBenchModel_numbers_L97 (nI b) kk 10000 (0 : Int32) s = kk s' := by
  have hnb := hW.2.1
  have hbn := hb.1
  have hsz := hW.2.2.1 b hbn
  have htot : zq_st P nb sz (b + 1) ≤ 261 := zq_st_261 hW (show b + 1 ≤ nb from hbn)
  have := zf_for (L := fun n i s => zM_ValueBenchModel_numbers_L97 (nI b) kk n i s) (k := kk) (sz b) (fun k s => zm_N P s0 nb sz (zq_ii P nb sz b k) s ∧ zm_Nn P nb sz b k s) (fun n s h => by
    show zM_ValueBenchModel_numbers_L97 (nI b) kk (n + 1) (nI (sz b)) s = kk s
    rw [zM_ValueBenchModel_numbers_L97, zc_ck (show b < 16 by omega) (by decide), zc_cl (by omega), h.1.1.at (by decide) (by decide), hsz.1, if_pos (Int32.le_refl _)]) (fun n k s hk h => by
    obtain ⟨g, gn⟩ := h
    obtain ⟨g1, g2, g3, g4, g5, g6, g7, g8⟩ := id g
    have hx : 100 * b + k < 1600 := by omega
    show ∃ a', _ ∧ zM_ValueBenchModel_numbers_L97 (nI b) kk (n + 1) (nI k) s = _
    rw [zM_ValueBenchModel_numbers_L97, zc_ck (show b < 16 by omega) (by decide), zc_cl (show b < 2 ^ 31 by omega), g1.at (c := 5) (by decide) (by decide), hsz.1, if_neg (by rw [nI_leI (by omega) (by omega)]; omega)]
    simp only [zc_lt, zc_ls, nI_100, zc_ck hx (by decide), zc_cl (show 100 * b + k < 2 ^ 31 by omega)]
    have m1 : ∀ c i, c ≠ 24 → zx_su s 24 (100 * b + k) (-1) c i = s c i := fun c i hc => zs_ne (Or.inl hc)
    simp only [m1 1 _ (by decide), m1 2 _ (by decide), m1 3 _ (by decide), g1.at (c := 1) (by decide) (by decide), g1.at (c := 2) (by decide) (by decide), g1.at (c := 3) (by decide) (by decide), nI_1]
    -- what holds with the -1
    have keep24 : ∀ b' k', k' < sz b' → b' < nb → 100 * b' + k' = 100 * b + k → b' = b ∧ k' = k := by
      intro b' k' h1 h2 h3
      have := (hW.2.2.1 b' h2).2
      omega
    have N1 : zq_iv P b k = false → zm_N P s0 nb sz (zq_ii P nb sz b (k + 1)) (zx_su s 24 (100 * b + k) (-1)) ∧ zm_Nn P nb sz b (k + 1) (zx_su s 24 (100 * b + k) (-1)) := by
      intro hiv
      have e : zq_ii P nb sz b (k + 1) = zq_ii P nb sz b k := by
        unfold zq_ii; rw [zn_step, hiv]; simp
      rw [e]
      refine ⟨⟨g1.su (Or.inl (by decide)), by rw [m1 0 _ (by decide)]; exact g2, fun c i hc => by rw [m1 c i (by omega)]; exact g3 c i hc, g4.keep (fun c i hc hi => m1 c i (by omega)), by rw [m1 20 _ (by decide)]; exact g5, fun i b' v' hi hc => ?_, fun i b' k' hi hc => ?_, fun i hi => by rw [m1 22 _ (by decide)]; exact g8 i hi⟩, fun b' k' hq hr hk' hi' => ?_⟩
      · rw [m1 20 _ (by decide), m1 23 _ (by decide)]; exact g6 i b' v' hi hc
      · rw [m1 20 _ (by decide)]
        have hne : 100 * b' + k' ≠ 100 * b + k := fun q => by
          obtain ⟨e1, e2⟩ := keep24 b' k' hc.2.1 hc.1.1 q
          have := hc.2.2.1
          rw [e1, e2, hiv] at this; cases this
        rw [zs_ne (Or.inr hne)]; exact g7 i b' k' hi hc
      · by_cases q : 100 * b' + k' = 100 * b + k
        · rw [q, zs_eq]
        · rw [zs_ne (Or.inr q)]
          refine gn b' k' ?_ hr hk' hi'
          rcases hq with q1 | ⟨q1, q2⟩
          · exact Or.inl q1
          · refine Or.inr ⟨q1, ?_⟩
            by_cases q3 : k' = k
            · rw [q1, q3] at q; exact absurd rfl q
            · omega
    by_cases c1 : P 1 (100 * b + k) = 2
    · rw [if_pos c1]
      have hiv : zq_iv P b k = false := by
        by_cases q : zq_iv P b k = true
        · exact absurd c1 ((zm_iv P b k).mp q).1
        · simpa using q
      exact ⟨_, N1 hiv, rfl⟩
    · rw [if_neg c1]
      by_cases c2 : P 1 (100 * b + k) = 14
      · rw [if_pos c2]
        have hiv : zq_iv P b k = false := by
          by_cases q : zq_iv P b k = true
          · exact absurd c2 ((zm_iv P b k).mp q).2
          · simpa using q
        exact ⟨_, N1 hiv, rfl⟩
      · rw [if_neg c2]
        have hiv : zq_iv P b k = true := (zm_iv P b k).mpr ⟨c1, c2⟩
        have hC : zq_isN P nb sz (zq_ii P nb sz b k) b k := ⟨hb, hk, hiv, rfl⟩
        have e : zq_ii P nb sz b (k + 1) = zq_ii P nb sz b k + 1 := by
          unfold zq_ii; rw [zn_step, hiv]; simp; omega
        have hlt := hC.lt
        have hp := zq_st_pos (P := P) (nb := nb) (sz := sz) b
        -- both ways of the number
        have put : ∀ num : Int32, (num = if 2 ≤ P 1 (100 * b + k) then -1 else P 3 (100 * b + k)) → ∃ a', (zm_N P s0 nb sz (zq_ii P nb sz b (k + 1)) a' ∧ zm_Nn P nb sz b (k + 1) a') ∧ zM_ValueBenchModel_numbers_J190 (zM_ValueBenchModel_numbers_L97 (nI b) kk n) (nI b) (nI k) (nI (100 * b + k)) (P 1 (100 * b + k)) (nI b) (P 2 (100 * b + k)) num (zx_su s 24 (100 * b + k) (-1)) = zM_ValueBenchModel_numbers_L97 (nI b) kk n (nI (k + 1)) a' := by
          intro num hnum
          unfold zM_ValueBenchModel_numbers_J190
          generalize hT : zq_ii P nb sz b k = t at *
          rw [zM_comes_eq (by rw [m1 0 _ (by decide)]; exact g2) (by omega), zc_b2, zc_ck hx (by decide), zc_cl (show 100 * b + k < 2 ^ 31 by omega), zc_ls, zc_lt, nI_1]
          refine ⟨_, ⟨?_, ?_⟩, rfl⟩
          · rw [e]
            have low : ∀ c i, c ≠ 0 → c ≠ 24 → i < t → zx_su (zm_cm (zx_su s 24 (100 * b + k) (-1)) t (P 1 (100 * b + k)) (nI b) (P 2 (100 * b + k)) num (nI k)) 24 (100 * b + k) (nI t) c i = s c i := fun c i h0 h24 hi => by
              rw [zs_ne (Or.inl h24), zm_cm_at, if_neg (fun q => h0 q.1), if_neg (by omega), m1 c i h24]
            have oth : ∀ c i, ¬ (c = 0 ∧ i = 18) → (c < 16 ∨ c = 21 ∨ 24 < c ∨ c = 23) → zx_su (zm_cm (zx_su s 24 (100 * b + k) (-1)) t (P 1 (100 * b + k)) (nI b) (P 2 (100 * b + k)) num (nI k)) 24 (100 * b + k) (nI t) c i = s c i := fun c i h0 hc => by
              rw [zs_ne (Or.inl (by omega)), zm_cm_o h0 (by omega), m1 c i (by omega)]
            have T1 := g4.keep (s' := zx_su (zm_cm (zx_su s 24 (100 * b + k) (-1)) t (P 1 (100 * b + k)) (nI b) (P 2 (100 * b + k)) num (nI k)) 24 (100 * b + k) (nI t)) (fun c i hc hi => low c i (by omega) (by omega) hi)
            refine ⟨⟨?_, fun c h1 h2 => ?_⟩, ?_, fun c i hc => ?_, T1.addN (by omega) hC ?_, ?_, fun i b' v' hi hc => ?_, fun i b' k' hi hc => ?_, fun i hi => ?_⟩
            · rw [oth 0 0 (by omega) (by omega)]; exact g1.1
            · funext i; rw [oth c i (by omega) (by omega), g1.2 c h1 h2]
            · rw [zs_ne (Or.inl (by decide)), zm_cm_at, if_pos ⟨rfl, rfl⟩]
            · rw [oth c i (by omega) (by omega)]; exact g3 c i hc
            · refine ⟨?_, ?_, ?_, ?_⟩ <;> rw [zs_ne (Or.inl (by decide)), zm_cm_at, if_neg (by omega), if_pos rfl] <;> simp [hnum]
            · rw [low 20 0 (by decide) (by decide) (by omega)]; exact g5
            · by_cases q : i = t
              · subst q; exact absurd hC (fun z => zq_isCN hc z)
              · have := g6 i b' v' (by omega) hc
                exact ⟨by rw [low 20 i (by decide) (by decide) (by omega)]; exact this.1, by rw [oth 23 _ (by omega) (by omega)]; exact this.2⟩
            · by_cases q : i = t
              · subst q
                obtain ⟨e1, e2⟩ := hC.uniq hc
                subst e1 e2
                refine ⟨?_, zs_eq _ _ _ _⟩
                rw [zs_ne (Or.inl (by decide)), zm_cm_at, if_neg (by omega), if_pos rfl]; simp
              · have := g7 i b' k' (by omega) hc
                refine ⟨by rw [low 20 i (by decide) (by decide) (by omega)]; exact this.1, ?_⟩
                have hne : 100 * b' + k' ≠ 100 * b + k := fun q2 => q (by
                  obtain ⟨e1, e2⟩ := keep24 b' k' hc.2.1 hc.1.1 q2
                  rw [hc.2.2.2, e1, e2, hT])
                rw [zs_ne (Or.inr hne), zm_cm_o (by omega) (by omega), zs_ne (Or.inr hne)]; exact this.2
            · by_cases q : i = t
              · rw [zs_ne (Or.inl (by decide)), zm_cm_at, if_neg (by omega), if_pos q]; simp
              · rw [low 22 i (by decide) (by decide) (by omega)]; exact g8 i (by omega)
          · intro b' k' hq hr hk' hi'
            have hne : 100 * b' + k' ≠ 100 * b + k := fun q2 => by
              obtain ⟨e1, e2⟩ := keep24 b' k' hk' hr.1 q2
              rw [e1, e2, hiv] at hi'; cases hi'
            rw [zs_ne (Or.inr hne), zm_cm_o (by omega) (by omega), zs_ne (Or.inr hne)]
            refine gn b' k' ?_ hr hk' hi'
            rcases hq with q1 | ⟨q1, q2⟩
            · exact Or.inl q1
            · refine Or.inr ⟨q1, ?_⟩
              by_cases q3 : k' = k
              · rw [q1, q3] at hne; exact absurd rfl hne
              · omega
        by_cases c3 : 2 ≤ P 1 (100 * b + k)
        · rw [if_pos c3]
          exact put (-1) (by rw [if_pos c3])
        · rw [if_neg c3]
          exact put _ (by rw [if_neg c3])) (i := 0) (n := 10000) (Nat.zero_le (sz b)) (a := s) ⟨by unfold zq_ii; exact hN, hn⟩ (by omega)
  rw [nI_0] at this
  obtain ⟨s', ⟨h1, h2⟩, h3⟩ := this
  refine ⟨s', ⟨?_, fun b' k' hq hr hk' hi' => ?_⟩, h3⟩
  · have e : zq_ii P nb sz b (sz b) = zq_st P nb sz (b + 1) := by rw [zq_bz_rc hb]; unfold zq_ii zq_ib; omega
    rw [e] at h1; exact h1
  · refine h2 b' k' ?_ hr hk' hi'
    rcases hq with q | q
    · by_cases q2 : b' = b
      · right; refine ⟨q2, ?_⟩; rw [← q2]; exact hk'
      · left; omega
    · omega
theorem zM_num_L26_spec (hW : zq_WF P nb sz) (kk : zx_S → Option zx_S) {s : zx_S} (h10 : zm_R10 P nb s0) (h15 : zm_R15 P nb sz s0) (hN : zm_N P s0 nb sz 1 s) : ∃ s', (zm_N P s0 nb sz (zq_st P nb sz nb) s' ∧ zm_Nn P nb sz nb 0 s') ∧ zM_ValueBenchModel_numbers_L26 kk 10000 (0 : Int32) s = kk s' := by
  have hnb := hW.2.1
  have hP := hW.1
  have := zf_for (L := fun n i s => zM_ValueBenchModel_numbers_L26 kk n i s) (k := kk) nb (fun b s => zm_N P s0 nb sz (zq_st P nb sz b) s ∧ zm_Nn P nb sz b 0 s) (fun n s h => by
    show zM_ValueBenchModel_numbers_L26 kk (n + 1) (nI nb) s = kk s
    rw [zM_ValueBenchModel_numbers_L26, if_pos (by rw [h.1.1.1, hP]; exact Int32.le_refl _)]) (fun n b s hb h => by
    obtain ⟨g, gn⟩ := h
    show ∃ a', _ ∧ zM_ValueBenchModel_numbers_L26 kk (n + 1) (nI b) s = _
    rw [zM_ValueBenchModel_numbers_L26, if_neg (by rw [g.1.1, hP, nI_leI (by omega) (by omega)]; omega), zc_ck (show b < 16 by omega) (by decide), zc_cl (show b < 2 ^ 31 by omega), g.2.2.1 10 b (Or.inr (Or.inl ⟨by decide, by decide⟩)), h10 b hb]
    simp only [zi_0]
    by_cases c1 : zp (zq_rc P nb b) = false
    · rw [if_pos c1, zc_lt, nI_1]
      refine ⟨s, ⟨by rw [zq_bz_no (zp_f.mp c1)]; exact g, fun b' k' hq hr hk' hi' => ?_⟩, rfl⟩
      refine gn b' k' ?_ hr hk' hi'
      by_cases q : b' = b
      · rw [q] at hr; exact absurd hr (zp_f.mp c1)
      · omega
    · rw [if_neg c1]
      have hr : zq_rc P nb b := zp_t.mp (by simpa using c1)
      obtain ⟨s1, ⟨w1, w2⟩, w3⟩ := zM_num_L48_spec hW (fun s10 => zM_ValueBenchModel_numbers_L97 (nI b) (fun s19 => zx_lt (nI b + 1) fun v2_20 => zM_ValueBenchModel_numbers_L26 kk n v2_20 s19) 10000 (0 : Int32) s10) hr h15 g gn
      rw [w3]
      obtain ⟨s2, v1, v2⟩ := zM_num_L97_spec hW (fun s19 => zx_lt (nI b + 1) fun v2_20 => zM_ValueBenchModel_numbers_L26 kk n v2_20 s19) hr w1 w2
      rw [v2, zc_lt, nI_1]
      exact ⟨s2, v1, rfl⟩) (i := 0) (n := 10000) (Nat.zero_le nb) (a := s) ⟨hN, fun b k q => by omega⟩ (by omega)
  rw [nI_0] at this
  exact this
/-- numbers(): so many VALUES -/
theorem zM_numbers_spec (hW : zq_WF P nb sz) (h0 : 0 < nb) {s : zx_S} (hs : zq_Pg P s) (h10 : zm_R10 P nb s) (h15 : zm_R15 P nb sz s) : ∃ s', (zm_N P s nb sz (zq_st P nb sz nb) s' ∧ zm_Nn P nb sz nb 0 s') ∧ zM_ValueBenchModel_numbers s = some s' := by
  have hnb := hW.2.1
  unfold zM_ValueBenchModel_numbers
  rw [zc_ls, zs_ne (Or.inr (by decide)), hs.1, hW.1, if_neg (nI_ne0 h0 (by omega)), zM_comes_eq (t := 0) (by rw [zs_eq]; exact nI_0.symm) (by decide), zc_b2]
  refine zM_num_L26_spec (s0 := s) hW (fun s21 => some s21) h10 h15 ?_
  have o : ∀ c i, ¬ (c = 0 ∧ i = 18) → (c < 16 ∨ c = 21 ∨ 22 < c) → zm_cm (zx_su s 0 18 0) 0 0 0 (-1) 0 (-2) c i = s c i := fun c i h hc => by rw [zm_cm_o h hc, zs_ne (by omega)]
  refine ⟨⟨?_, fun c h1 h2 => ?_⟩, ?_, fun c i hc => o c i (by omega) (by omega), ⟨fun _ => ?_, fun i b v hi hc => ?_, fun i b k hi hc => ?_⟩, ?_, fun i b v hi hc => ?_, fun i b k hi hc => ?_, fun i hi => ?_⟩
  · rw [o 0 0 (by omega) (by omega)]; exact hs.1
  · funext i; rw [o c i (by omega) (by omega), hs.2 c h1 h2]
  · rw [zm_cm_at, if_pos ⟨rfl, rfl⟩]
  · refine ⟨?_, ?_, ?_, ?_⟩ <;> rw [zm_cm_at] <;> simp
  · have := hc.lt; have := zq_st_pos (P := P) (nb := nb) (sz := sz) b; omega
  · have := hc.lt; have := zq_st_pos (P := P) (nb := nb) (sz := sz) b; omega
  · rw [zm_cm_at]; simp
  · have := hc.lt; have := zq_st_pos (P := P) (nb := nb) (sz := sz) b; omega
  · have := hc.lt; have := zq_st_pos (P := P) (nb := nb) (sz := sz) b; omega
  · have : i = 0 := by omega
    subst this; rw [zm_cm_at]; simp
end MN
