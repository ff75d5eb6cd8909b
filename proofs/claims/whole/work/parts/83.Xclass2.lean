/-! PURE: the class's rounds of parting -/
theorem zc_cp {α : Type} {s : zx_S} {c0 c1 n0 n1 n : Nat} (h0 : n ≤ n0) (h1 : n ≤ n1) (hn : n < 2 ^ 31) (f : zx_S → Option α) : zx_cp s c0 0 n0 c1 0 n1 (nI n) f = f (zx_uc s c1 (fun i => if i < n then s c0 i else s c1 i)) := by
  unfold zx_cp
  rw [zc_cl hn, if_neg (by
    rintro (q | q | q | q | q)
    · exact absurd q (by decide)
    · exact absurd q (by decide)
    · exact nI_pos hn q
    · rw [show (0 : Int32).toNatClampNeg = 0 by decide] at q; omega
    · rw [show (0 : Int32).toNatClampNeg = 0 by decide] at q; omega)]
  congr 2
  funext i
  unfold va_cpy
  rw [show (0 : Int32).toNatClampNeg = 0 by decide]
  simp
section XC2
variable {t : zc_Tb}
theorem zX_leastTogether_eq (hH : zX_Ht t) {s : zx_S} (h : zX_Tb t s) {n0 : Nat} (hL : zX_Ls t n0 s) {v : Nat} (hv : v < zt_T t) (h35 : ∀ u, u < v → s 35 u = nI (zc_rp t (n0 + 1) u)) : zX_Classes_leastTogether (nI v) s = some (nI (zc_rp t (n0 + 1) v)) := by
  have hT := hH.1.2.2.2.2
  have lv := zc_rp_le (t := t) n0 v
  unfold zX_Classes_leastTogether
  rw [zc_ck (show v < 261 by omega) (by decide), zc_cl (by omega), zc_lt, hL v hv]
  have := zf_first (L := fun n i => zX_Classes_leastTogether_L7 (nI v) s (fun v3_6 => some v3_6) n i) (K := fun i => some (nI i)) (E := some (nI v)) v (zc_rp t n0 v) (fun u => zc_rp t (n0 + 1) u = u ∧ zc_R t (n0 + 1) u v) (fun n => by
    show zX_Classes_leastTogether_L7 (nI v) s (fun v3_6 => some v3_6) (n + 1) (nI v) = some (nI v)
    rw [zX_Classes_leastTogether_L7, if_pos (Int32.le_refl _)]) (fun n u _ hu hp => by
    show zX_Classes_leastTogether_L7 (nI v) s (fun v3_6 => some v3_6) (n + 1) (nI u) = some (nI u)
    have hu' : u < zt_T t := by omega
    have hc : zt_c t u = zt_c t v := hH.1.1 u v hu' hv hp.2.lt.2.2
    rw [zX_Classes_leastTogether_L7, if_neg (by rw [nI_leI (by omega) (by omega)]; omega), zc_ck (show u < 261 by omega) (by decide), zc_cl (by omega), h35 u hu, if_pos (by rw [hp.1]), zc_ck (show u < 261 by omega) (by decide), zc_ck (show v < 261 by omega) (by decide), zc_cl (by omega), hL u hu', hL v hv, if_pos (by rw [(zc_rp_eq hH.1 hu' hv).mpr hp.2.1]), zX_agree_eq hH h hL hu' hv hc, zc_b1, if_neg (by rw [zp_t.mpr hp.2.2]; decide)]) (fun n u _ hu hp => by
    show zX_Classes_leastTogether_L7 (nI v) s (fun v3_6 => some v3_6) (n + 1) (nI u) = zX_Classes_leastTogether_L7 (nI v) s (fun v3_6 => some v3_6) n (nI (u + 1))
    have hu' : u < zt_T t := by omega
    rw [zX_Classes_leastTogether_L7, if_neg (by rw [nI_leI (by omega) (by omega)]; omega), zc_ck (show u < 261 by omega) (by decide), zc_cl (by omega), h35 u hu]
    simp only [zc_lt, nI_1, zc_ck (show u < 261 by omega) (by decide), zc_ck (show v < 261 by omega) (by decide), zc_cl (show v < 2 ^ 31 by omega), hL u hu', hL v hv]
    have l1 := zc_rp_le (t := t) (n0 + 1) u
    have l2 := zc_rp_le (t := t) n0 u
    by_cases c1 : nI (zc_rp t (n0 + 1) u) = nI u
    · rw [if_pos c1]
      by_cases c2 : nI (zc_rp t n0 u) = nI (zc_rp t n0 v)
      · rw [if_pos c2]
        have hR : zc_R t n0 u v := (zc_rp_eq hH.1 hu' hv).mp (nI_inj (by omega) (by omega) c2)
        rw [zX_agree_eq hH h hL hu' hv (hH.1.1 u v hu' hv hR.lt.2.2), zc_b1, if_pos (by rw [zp_f.mpr (fun q => hp ⟨nI_inj (by omega) (by omega) c1, hR, q⟩)]; rfl)]
      · rw [if_neg c2]
    · rw [if_neg c1]) lv (n := 10000) (by omega)
  rcases this with ⟨i, -, hi, hp, -, e⟩ | ⟨hno, e⟩
  · rw [e, zc_rp_hit hH.1 (by omega) hv hp.1 hp.2]
  · rw [e, zc_rp_miss hH.1 hv (zc_rp_up hH.1 hv) hno]
/-- but for rows 33, 34, 35 -/
def zX_F3 (s s' : zx_S) : Prop := ∀ c i, c ≠ 33 → c ≠ 34 → c ≠ 35 → s' c i = s c i
theorem zX_partFiner_eq (hH : zX_Ht t) {s : zx_S} (h : zX_Tb t s) {n0 : Nat} (hL : zX_Ls t n0 s) : ∃ mo s', (zX_F3 s s' ∧ zX_Ls t (n0 + 1) s' ∧ (mo = false ↔ zc_fix t n0)) ∧ zX_Classes_partFiner s = some (zi mo, s') := by
  have hT := hH.1.2.2.2.2
  unfold zX_Classes_partFiner
  have := zf_for (A := Int32 × zx_S) (L := fun n i q => zX_Classes_partFiner_L4 (fun v2_6 s7 => zx_cp s7 35 (0 : Int32) 261 34 (0 : Int32) 261 (s7 18 11) fun s8 => zx_zr v2_6 <| some (v2_6, s8)) n q.1 i q.2) (k := fun q => (fun v2_6 s7 => zx_cp s7 35 (0 : Int32) 261 34 (0 : Int32) 261 (s7 18 11) fun s8 => zx_zr v2_6 <| some (v2_6, s8)) q.1 q.2) (zt_T t) (fun n q => q.1 = zi (zp (¬ ∀ v, v < n → zc_rp t (n0 + 1) v = zc_rp t n0 v)) ∧ (∀ v, v < n → q.2 35 v = nI (zc_rp t (n0 + 1) v)) ∧ ∀ c i, c ≠ 35 → q.2 c i = s c i) (fun n q hq => by
    show zX_Classes_partFiner_L4 _ (n + 1) q.1 (nI (zt_T t)) q.2 = _
    rw [zX_Classes_partFiner_L4, if_pos (by rw [hq.2.2 18 11 (by decide), h.1]; exact Int32.le_refl _)]) (fun n v q hv hq => by
    obtain ⟨v2, u⟩ := q
    obtain ⟨g1, g2, g3⟩ := hq
    dsimp only at g1 g2 g3
    subst g1
    show ∃ a' : Int32 × zx_S, _ ∧ zX_Classes_partFiner_L4 _ (n + 1) _ (nI v) u = zX_Classes_partFiner_L4 _ n a'.1 (nI (v + 1)) a'.2
    have hu : zX_Tb t u := h.keep (fun c i h1 h2 => g3 c i (by omega))
    have hLu : zX_Ls t n0 u := fun w hw => by rw [g3 34 w (by decide)]; exact hL w hw
    rw [zX_Classes_partFiner_L4, g3 18 11 (by decide), h.1, if_neg (by rw [nI_leI (by omega) (by omega)]; omega), zX_leastTogether_eq hH hu hLu hv g2, zc_b1, zc_ck (show v < 261 by omega) (by decide), zc_cl (by omega), zc_ls]
    simp only [zc_ck (show v < 261 by omega) (by decide), zi_0, zc_lt, nI_1]
    have l1 := zc_rp_le (t := t) n0 v
    have l2 := zc_rp_le (t := t) (n0 + 1) v
    have split : (∀ x, x < v + 1 → zc_rp t (n0 + 1) x = zc_rp t n0 x) ↔ (∀ x, x < v → zc_rp t (n0 + 1) x = zc_rp t n0 x) ∧ zc_rp t (n0 + 1) v = zc_rp t n0 v := by
      constructor
      · exact fun q => ⟨fun x hx => q x (by omega), q v (by omega)⟩
      · rintro ⟨q1, q2⟩ x hx
        by_cases e : x = v
        · rw [e]; exact q2
        · exact q1 x (by omega)
    have fin : ∀ mo : Int32, mo = zi (zp (¬ ∀ x, x < v + 1 → zc_rp t (n0 + 1) x = zc_rp t n0 x)) → ∃ a' : Int32 × zx_S, (a'.1 = zi (zp (¬ ∀ x, x < v + 1 → zc_rp t (n0 + 1) x = zc_rp t n0 x)) ∧ (∀ x, x < v + 1 → a'.2 35 x = nI (zc_rp t (n0 + 1) x)) ∧ ∀ c i, c ≠ 35 → a'.2 c i = s c i) ∧ zX_Classes_partFiner_L4 (fun v2_6 s7 => zx_cp s7 35 (0 : Int32) 261 34 (0 : Int32) 261 (s7 18 11) fun s8 => zx_zr v2_6 <| some (v2_6, s8)) n mo (nI (v + 1)) (zx_su u 35 v (nI (zc_rp t (n0 + 1) v))) = zX_Classes_partFiner_L4 (fun v2_6 s7 => zx_cp s7 35 (0 : Int32) 261 34 (0 : Int32) 261 (s7 18 11) fun s8 => zx_zr v2_6 <| some (v2_6, s8)) n a'.1 (nI (v + 1)) a'.2 := by
      intro mo hmo
      refine ⟨(mo, zx_su u 35 v (nI (zc_rp t (n0 + 1) v))), ⟨hmo, fun x hx => ?_, fun c i hc => ?_⟩, rfl⟩
      · show zx_su u 35 v (nI (zc_rp t (n0 + 1) v)) 35 x = _
        by_cases e : x = v
        · rw [e, zs_eq]
        · rw [zs_ne (Or.inr e)]; exact g2 x (by omega)
      · show zx_su u 35 v (nI (zc_rp t (n0 + 1) v)) c i = _
        rw [zs_ne (Or.inl hc)]; exact g3 c i hc
    by_cases c0 : zp (¬ ∀ x, x < v → zc_rp t (n0 + 1) x = zc_rp t n0 x) = false
    · rw [if_pos c0, zs_eq, zs_ne (Or.inl (by decide)), hLu v hv]
      have c0' : ∀ x, x < v → zc_rp t (n0 + 1) x = zc_rp t n0 x := Classical.byContradiction fun q => zp_f.mp c0 q
      by_cases c1 : nI (zc_rp t (n0 + 1) v) = nI (zc_rp t n0 v)
      · rw [if_pos c1]
        exact fin 0 (by rw [zp_f.mpr (fun q => q (split.mpr ⟨c0', nI_inj (by omega) (by omega) c1⟩))]; rfl)
      · rw [if_neg c1]
        exact fin 1 (by rw [zp_t.mpr (fun q => c1 (by rw [(split.mp q).2]))]; rfl)
    · rw [if_neg c0]
      exact fin 1 (by rw [zp_t.mpr (fun q => zp_t.mp (show zp (¬ ∀ x, x < v → zc_rp t (n0 + 1) x = zc_rp t n0 x) = true by simpa using c0) (split.mp q).1)]; rfl)) (i := 0) (n := 10000) (Nat.zero_le _) (a := ((0 : Int32), s)) ⟨by rw [zp_f.mpr (fun q => q (fun v hv => by omega))]; rfl, fun v hv => by omega, fun _ _ _ => rfl⟩ (by omega)
  rw [nI_0] at this
  obtain ⟨⟨v2, u⟩, ⟨g1, g2, g3⟩, g4⟩ := this
  dsimp only at g1 g2 g3 g4
  rw [g4, g3 18 11 (by decide), h.1, zc_cp (by omega) (by omega) (by omega), g1, zc_zr (zi_01 _)]
  refine ⟨zp (¬ ∀ v, v < zt_T t → zc_rp t (n0 + 1) v = zc_rp t n0 v), _, ⟨fun c i h1 h2 h3 => ?_, fun v hv => ?_, ?_⟩, rfl⟩
  · unfold zx_uc
    rw [if_neg h2]; exact g3 c i h3
  · unfold zx_uc
    rw [if_pos rfl, if_pos hv]; exact g2 v hv
  · rw [zp_f]; exact Classical.not_not
theorem zX_part_spec (hH : zX_Ht t) {s : zx_S} (h : zX_Tb t s) : ∃ s', (zX_F3 s s' ∧ (∀ v, v < zt_T t → s' 34 v = nI (zc_K t v)) ∧ s' 33 2 = nI (zn (fun v => zp (zc_K t v = v)) (zt_T t))) ∧ zX_Classes_part s = some s' := by
  have hT := hH.1.2.2.2.2
  unfold zX_Classes_part
  have l2 := zf_for (L := fun n i u => zX_Classes_part_L2 (fun s4 => zX_Classes_part_L32 (fun s8 => zx_ls (zx_su s8 33 2 (0 : Int32)) fun s9 => zX_Classes_part_L62 (fun s16 => some s16) 10000 (0 : Int32) s9) 10000 (1 : Int32) (0 : Int32) s4) n i u) (k := fun s4 => zX_Classes_part_L32 (fun s8 => zx_ls (zx_su s8 33 2 (0 : Int32)) fun s9 => zX_Classes_part_L62 (fun s16 => some s16) 10000 (0 : Int32) s9) 10000 (1 : Int32) (0 : Int32) s4) (zt_T t) (fun n u => (∀ v, v < n → u 34 v = nI (zc_rp t 0 v)) ∧ ∀ c i, c ≠ 34 → u c i = s c i) (fun n u q => by
    show zX_Classes_part_L2 _ (n + 1) (nI (zt_T t)) u = _
    rw [zX_Classes_part_L2, q.2 18 11 (by decide), h.1, if_pos (Int32.le_refl _)]) (fun n v u hv q => by
    show ∃ a', _ ∧ zX_Classes_part_L2 _ (n + 1) (nI v) u = zX_Classes_part_L2 _ n (nI (v + 1)) a'
    rw [zX_Classes_part_L2, q.2 18 11 (by decide), h.1, if_neg (by rw [nI_leI (by omega) (by omega)]; omega), zX_leastAlike_eq hH (h.keep (fun c i h1 h2 => q.2 c i (by omega))) hv q.1, zc_b1, zc_ck (show v < 261 by omega) (by decide), zc_cl (by omega), zc_ls, zc_lt, nI_1]
    refine ⟨_, ⟨fun x hx => ?_, fun c i hc => by rw [zs_ne (Or.inl hc)]; exact q.2 c i hc⟩, rfl⟩
    by_cases e : x = v
    · rw [e, zs_eq]
    · rw [zs_ne (Or.inr e)]; exact q.1 x (by omega)) (i := 0) (n := 10000) (Nat.zero_le _) (a := s) ⟨fun v hv => by omega, fun _ _ _ => rfl⟩ (by omega)
  rw [nI_0] at l2
  obtain ⟨s1, ⟨a1, a2⟩, a3⟩ := l2
  rw [a3]
  -- the rounds
  have rounds := zf_loop (A := Int32 × Nat × zx_S) (L := fun n a => zX_Classes_part_L32 (fun s8 => zx_ls (zx_su s8 33 2 (0 : Int32)) fun s9 => zX_Classes_part_L62 (fun s16 => some s16) 10000 (0 : Int32) s9) n a.1 (nI a.2.1) a.2.2) (Out := fun o => ∃ s', (zX_F3 s s' ∧ ∀ v, v < zt_T t → s' 34 v = nI (zc_K t v)) ∧ o = (zx_ls (zx_su s' 33 2 (0 : Int32)) fun s9 => zX_Classes_part_L62 (fun s16 => some s16) 10000 (0 : Int32) s9)) (Inv := fun m a => ∃ mo, a.1 = zi mo ∧ zX_F3 s a.2.2 ∧ zX_Ls t a.2.1 a.2.2 ∧ (mo = false → (∀ v, v < zt_T t → zc_rp t a.2.1 v = zc_K t v) ∧ a.2.1 ≤ 263) ∧ (mo = true → (∀ j, j < a.2.1 → ¬ zc_fix t j) ∧ m = 263 - a.2.1) ∧ (mo = false → m = 0)) (fun n m a ha => by
    obtain ⟨v2, r, u⟩ := a
    obtain ⟨mo, h1, h2, h3, h4, h5, h6⟩ := ha
    dsimp only at h1 h2 h3 h4 h5
    subst h1
    show (∃ s', _ ∧ zX_Classes_part_L32 _ (n + 1) (zi mo) (nI r) u = _) ∨ ∃ m' a', _ ∧ _ ∧ zX_Classes_part_L32 _ (n + 1) (zi mo) (nI r) u = _
    rw [zX_Classes_part_L32]
    cases mo with
    | false =>
      left
      refine ⟨u, ⟨h2, fun v hv => by rw [h3 v hv, (h4 rfl).1 v hv]⟩, ?_⟩
      by_cases c : (261 : Int32) < nI r
      · rw [if_pos c]
      · rw [if_neg c, if_pos zi_f]
    | true =>
      right
      obtain ⟨q1, q2⟩ := h5 rfl
      have hle : r ≤ 261 := by
        have b1 := zc_nc_ge hH.1 r q1
        have b2 := zc_nc_le (t := t) r
        omega
      obtain ⟨mo', u', ⟨w1, w2, w3⟩, w4⟩ := zX_partFiner_eq hH (h.keep (fun c i _ _ => h2 c i (by omega) (by omega) (by omega))) h3
      rw [if_neg (by rw [show (261 : Int32) = nI 261 by decide, nI_ltI (by omega) (by omega)]; omega), if_neg (by decide), w4, zc_b2, zc_lt, nI_1]
      refine ⟨if mo' = true then 263 - (r + 1) else 0, (zi mo', r + 1, u'), ?_, ⟨mo', rfl, fun c i h1 h2' h3' => by show u' c i = _; rw [w1 c i h1 h2' h3']; exact h2 c i h1 h2' h3', w2, fun q => ⟨fun v hv => ?_, by show r + 1 ≤ 263; omega⟩, fun q => ⟨fun j hj => ?_, by simp [q]⟩, fun q => by simp [q]⟩, rfl⟩
      · split <;> omega
      · have hf := w3.mp q
        show zc_rp t (r + 1) v = _
        rw [hf v hv]; exact zc_K_fix hH.1 hf v
      · have hj : j < r + 1 := hj
        by_cases e : j = r
        · rw [e]; exact fun z => by have := w3.mpr z; rw [q] at this; cases this
        · exact q1 j (by omega)) 10000 263 (zi true, 0, s1) ⟨true, rfl, fun c i _ h2 _ => a2 c i h2, a1, fun q => (by cases q), fun _ => ⟨fun j hj => absurd hj (Nat.not_lt_zero _), rfl⟩, fun q => (by cases q)⟩ (by omega)
  dsimp only at rounds
  rw [nI_0, zi_t] at rounds
  obtain ⟨s2, ⟨b1, b2⟩, b3⟩ := rounds
  rw [b3, zc_ls]
  have l62 := zf_for (L := fun n i u => zX_Classes_part_L62 (fun s16 => some s16) n i u) (k := fun s16 => some s16) (zt_T t) (fun n u => u 33 2 = nI (zn (fun v => zp (zc_K t v = v)) n) ∧ ∀ c i, c ≠ 33 → u c i = s2 c i) (fun n u q => by
    show zX_Classes_part_L62 _ (n + 1) (nI (zt_T t)) u = _
    rw [zX_Classes_part_L62, q.2 18 11 (by decide), b1 18 11 (by decide) (by decide) (by decide), h.1, if_pos (Int32.le_refl _)]) (fun n v u hv q => by
    show ∃ a', _ ∧ zX_Classes_part_L62 _ (n + 1) (nI v) u = zX_Classes_part_L62 _ n (nI (v + 1)) a'
    rw [zX_Classes_part_L62, q.2 18 11 (by decide), b1 18 11 (by decide) (by decide) (by decide), h.1, if_neg (by rw [nI_leI (by omega) (by omega)]; omega), zc_ck (show v < 261 by omega) (by decide), zc_cl (by omega), q.2 34 v (by decide), b2 v hv]
    simp only [zc_lt, zc_ls, nI_1, q.1]
    have lk : zc_K t v ≤ v := zc_rp_le _ _
    by_cases c : zc_K t v = v
    · rw [if_pos (by rw [c])]
      exact ⟨_, ⟨by rw [zs_eq, zn_step, zp_t.mpr c]; rfl, fun c i hc => by rw [zs_ne (Or.inl hc)]; exact q.2 c i hc⟩, rfl⟩
    · rw [if_neg (fun z => c (nI_inj (by omega) (by omega) z))]
      exact ⟨_, ⟨by rw [zs_eq, zn_step, zp_f.mpr c, Int32.add_zero]; rfl, fun c i hc => by rw [zs_ne (Or.inl hc)]; exact q.2 c i hc⟩, rfl⟩) (i := 0) (n := 10000) (Nat.zero_le _) (a := zx_su s2 33 2 0) ⟨zs_eq _ _ _ _, fun c i hc => zs_ne (Or.inl hc)⟩ (by omega)
  rw [nI_0] at l62
  obtain ⟨s3, ⟨c1, c2⟩, c3⟩ := l62
  exact ⟨s3, ⟨fun c i h1 h2 h3 => by rw [c2 c i h1]; exact b1 c i h1 h2 h3, fun v hv => by rw [c2 34 v (by decide)]; exact b2 v hv, c1⟩, c3⟩
end XC2
