/-! PURE: the reference's classes() -/
theorem zf_down {A R : Type} {L : Nat → Int32 → A → Option R} {k : A → Option R} (N : Nat) (Inv : Nat → A → Prop) (fin : ∀ n a, Inv 0 a → L (n + 1) (-1) a = k a) (step : ∀ n u a, u < N → Inv (u + 1) a → ∃ a', Inv u a' ∧ L (n + 1) (nI u) a = L n (nI u - 1) a') {m : Nat} {a : A} {n : Nat} (hm : m ≤ N) (h : Inv m a) (hn : m < n) : ∃ a', Inv 0 a' ∧ L n (nI m - 1) a = k a' := by
  have := zf_loop (L := fun n (q : Nat × A) => L n (nI q.1 - 1) q.2) (Out := fun o => ∃ a', Inv 0 a' ∧ o = k a') (Inv := fun m q => q.1 = m ∧ q.1 ≤ N ∧ Inv q.1 q.2) (fun n m q hq => by
    obtain ⟨h1, h2, h3⟩ := hq
    obtain ⟨i, a⟩ := q
    dsimp only at h1 h2 h3
    cases i with
    | zero =>
      left
      refine ⟨a, h3, ?_⟩
      show L (n + 1) (nI 0 - 1) a = k a
      rw [show nI 0 - 1 = (-1 : Int32) by decide]
      exact fin n a h3
    | succ u =>
      right
      obtain ⟨a', g1, g2⟩ := step n u a (by omega) h3
      refine ⟨u, (u, a'), by omega, ⟨rfl, by show u ≤ N; omega, g1⟩, ?_⟩
      show L (n + 1) (nI (u + 1) - 1) a = L n (nI u - 1) a'
      rw [nI_pred]; exact g2) n m (m, a) ⟨rfl, hm, h⟩ hn
  exact this
theorem nI_m1 (u : Nat) : nI u + (-1 : Int32) = nI u - 1 := by rw [Int32.sub_eq_add_neg]
/-- the reference's world holds the table -/
def zm_Tb (t : zc_Tb) (s : zx_S) : Prop := s 0 18 = nI (zt_T t) ∧ ∀ i, i < zt_T t → s 16 i = zt_k t i ∧ s 17 i = zt_b t i ∧ s 19 i = zt_n t i ∧ s 22 i = nI (zt_c t i) ∧ ∀ j, j < zt_c t i → s 21 (20 * i + j) = nI (zt_o t i j)
theorem zm_Tb.su {t : zc_Tb} {s : zx_S} (h : zm_Tb t s) {k i : Nat} {x : Int32} (hk : 27 < k) : zm_Tb t (zx_su s k i x) := by
  refine ⟨by rw [zs_ne (Or.inl (by omega))]; exact h.1, fun j hj => ?_⟩
  rw [zs_ne (Or.inl (by omega)), zs_ne (Or.inl (by omega)), zs_ne (Or.inl (by omega)), zs_ne (Or.inl (by omega))]
  refine ⟨(h.2 j hj).1, (h.2 j hj).2.1, (h.2 j hj).2.2.1, (h.2 j hj).2.2.2.1, fun r hr => ?_⟩
  rw [zs_ne (Or.inl (by omega))]; exact (h.2 j hj).2.2.2.2 r hr
section MK
variable {t : zc_Tb}
theorem zM_oneSort_eq (hH : zc_H t) {s : zx_S} (h : zm_Tb t s) {u v : Nat} (hu : u < zt_T t) (hv : v < zt_T t) : zM_ValueBenchModel_isOneSort (nI u) (nI v) s = some (zi (zp (zc_same t u v))) := by
  have hT := hH.2.2.2.2
  unfold zM_ValueBenchModel_isOneSort
  simp only [zc_ck (show u < 270 by omega) (by decide), zc_ck (show v < 270 by omega) (by decide), zc_cl (show u < 2 ^ 31 by omega), zc_cl (show v < 2 ^ 31 by omega), zc_lt, (h.2 u hu).1, (h.2 v hv).1, (h.2 u hu).2.1, (h.2 v hv).2.1, (h.2 u hu).2.2.1, (h.2 v hv).2.2.1]
  unfold zc_same
  by_cases c1 : zt_k t u = zt_k t v
  · rw [if_pos c1]
    by_cases c2 : 1 < zt_k t u
    · rw [if_pos c2]
      by_cases c3 : zt_k t u = 15
      · rw [if_pos c3]
        by_cases c4 : zt_b t u = zt_b t v
        · rw [if_pos c4, zp_t.mpr ⟨c1, Or.inl c2, Or.inr c4⟩]; rfl
        · rw [if_neg c4, zp_f.mpr (fun q => q.2.2.elim (fun z => z c3) c4)]; rfl
      · rw [if_neg c3, zp_t.mpr ⟨c1, Or.inl c2, Or.inl c3⟩]; rfl
    · rw [if_neg c2]
      by_cases c5 : zt_n t u = zt_n t v
      · rw [if_pos c5]
        by_cases c3 : zt_k t u = 15
        · rw [if_pos c3]
          by_cases c4 : zt_b t u = zt_b t v
          · rw [if_pos c4, zp_t.mpr ⟨c1, Or.inr c5, Or.inr c4⟩]; rfl
          · rw [if_neg c4, zp_f.mpr (fun q => q.2.2.elim (fun z => z c3) c4)]; rfl
        · rw [if_neg c3, zp_t.mpr ⟨c1, Or.inr c5, Or.inl c3⟩]; rfl
      · rw [if_neg c5, zp_f.mpr (fun q => q.2.1.elim c2 c5)]; rfl
  · rw [if_neg c1, zp_f.mpr (fun q => c1 q.1)]; rfl
theorem zM_isEven_eq (u : Nat) (s : zx_S) : zM_ValueBenchModel_isEven (zt_k t u) s = some (zi (zp (zc_ev t u))) := by
  unfold zM_ValueBenchModel_isEven zc_ev
  generalize zt_k t u = k
  by_cases c1 : k = 3
  · rw [if_pos c1, zp_t.mpr (Or.inl c1)]; rfl
  · rw [if_neg c1]
    by_cases c2 : k < 5
    · rw [if_pos c2, zp_f.mpr (fun q => q.elim c1 (fun z => by rw [Int32.lt_iff_toInt_lt] at c2; have := Int32.le_iff_toInt_le.mp z.1; omega))]; rfl
    · rw [if_neg c2]
      by_cases c3 : 9 < k
      · rw [if_pos c3, zp_f.mpr (fun q => q.elim c1 (fun z => by rw [Int32.lt_iff_toInt_lt] at c3; have := Int32.le_iff_toInt_le.mp z.2; omega))]; rfl
      · rw [if_neg c3, zp_t.mpr (Or.inr ⟨by rw [Int32.le_iff_toInt_le]; rw [Int32.lt_iff_toInt_lt] at c2; omega, by rw [Int32.le_iff_toInt_le]; rw [Int32.lt_iff_toInt_lt] at c3; omega⟩)]; rfl
theorem nI_20z (a : Nat) : (20 : Int32) * nI a = nI (20 * a) := by rw [show (20 : Int32) = nI 20 by decide, nI_mul]
theorem zM_hang_eq (hH : zc_H t) {s : zx_S} (h : zm_Tb t s) {f : Nat → Nat} (h28 : ∀ i, i < zt_T t → s 28 i = nI (f i)) (hf : ∀ i, i < zt_T t → f i < 270) {u v : Nat} (hu : u < zt_T t) (hv : v < zt_T t) (huv : zt_c t u = zt_c t v) : zM_ValueBenchModel_hangTogether (nI u) (nI v) s = some (zi (zp (zc_hg t (fun a b => f a = f b) u v))) := by
  have hT := hH.2.2.2.2
  have hcu := hH.2.2.2.1 u hu
  have ou : ∀ j, j < zt_c t u → zt_o t u j < zt_T t := fun j hj => hH.2.2.1 u j hu hj
  have ov : ∀ j, j < zt_c t u → zt_o t v j < zt_T t := fun j hj => hH.2.2.1 v j hv (by omega)
  unfold zM_ValueBenchModel_hangTogether
  have := zf_for (A := Int32) (L := fun n i w => zM_ValueBenchModel_hangTogether_L5 (nI u) (nI v) s (fun v3_4 => if v3_4 = 0 then zx_ck (nI u) 270 <| zx_b1 (zM_ValueBenchModel_isEven (s 16 (nI u).toNatClampNeg) s) fun r5 => if r5 = 0 then zx_zr v3_4 <| some v3_4 else zx_ck ((20 : Int32) * nI u) 5400 <| zx_ck (s 21 ((20 : Int32) * nI u).toNatClampNeg) 270 <| zx_ck (((20 : Int32) * nI v) + 1) 5400 <| zx_ck (s 21 (((20 : Int32) * nI v) + 1).toNatClampNeg) 270 <| if (s 28 (s 21 ((20 : Int32) * nI u).toNatClampNeg).toNatClampNeg) = (s 28 (s 21 (((20 : Int32) * nI v) + 1).toNatClampNeg).toNatClampNeg) then zx_ck (((20 : Int32) * nI u) + 1) 5400 <| zx_ck (s 21 (((20 : Int32) * nI u) + 1).toNatClampNeg) 270 <| zx_ck ((20 : Int32) * nI v) 5400 <| zx_ck (s 21 ((20 : Int32) * nI v).toNatClampNeg) 270 <| if (s 28 (s 21 (((20 : Int32) * nI u) + 1).toNatClampNeg).toNatClampNeg) = (s 28 (s 21 ((20 : Int32) * nI v).toNatClampNeg).toNatClampNeg) then some 1 else some 0 else some 0 else zx_zr v3_4 <| some v3_4) n w i) (k := _) (zt_c t u) (fun i w => w = zi (zp (∀ j, j < i → f (zt_o t u j) = f (zt_o t v j)))) (fun n w _ => by
    show zM_ValueBenchModel_hangTogether_L5 (nI u) (nI v) s _ (n + 1) w (nI (zt_c t u)) = _
    rw [zM_ValueBenchModel_hangTogether_L5, zc_ck (show u < 270 by omega) (by decide), zc_cl (show u < 2 ^ 31 by omega), (h.2 u hu).2.2.2.1, if_pos (Int32.le_refl _)]) (fun n j w hj hw => by
    subst hw
    show ∃ a', _ ∧ zM_ValueBenchModel_hangTogether_L5 (nI u) (nI v) s _ (n + 1) _ (nI j) = zM_ValueBenchModel_hangTogether_L5 (nI u) (nI v) s _ n a' (nI (j + 1))
    rw [zM_ValueBenchModel_hangTogether_L5, zc_ck (show u < 270 by omega) (by decide), zc_cl (show u < 2 ^ 31 by omega), (h.2 u hu).2.2.2.1, if_neg (by rw [nI_leI (by omega) (by omega)]; omega)]
    have a1 := ou j hj
    have a2 := ov j hj
    simp only [nI_20, zc_ck (show 20 * u + j < 5400 by omega) (by decide), zc_ck (show 20 * v + j < 5400 by omega) (by decide), zc_cl (show 20 * u + j < 2 ^ 31 by omega), zc_cl (show 20 * v + j < 2 ^ 31 by omega), (h.2 u hu).2.2.2.2 j hj, (h.2 v hv).2.2.2.2 j (by omega), zc_ck (show zt_o t u j < 270 by omega) (by decide), zc_ck (show zt_o t v j < 270 by omega) (by decide), zc_cl (show zt_o t u j < 2 ^ 31 by omega), zc_cl (show zt_o t v j < 2 ^ 31 by omega), h28 _ a1, h28 _ a2, zc_lt, nI_1, zi_0]
    have b1 := hf _ a1
    have b2 := hf _ a2
    have split : (∀ x, x < j + 1 → f (zt_o t u x) = f (zt_o t v x)) ↔ (∀ x, x < j → f (zt_o t u x) = f (zt_o t v x)) ∧ f (zt_o t u j) = f (zt_o t v j) := by
      constructor
      · exact fun q => ⟨fun x hx => q x (by omega), q j (by omega)⟩
      · rintro ⟨q1, q2⟩ x hx
        by_cases e : x = j
        · rw [e]; exact q2
        · exact q1 x (by omega)
    by_cases c0 : zp (∀ x, x < j → f (zt_o t u x) = f (zt_o t v x)) = false
    · rw [if_pos c0]
      exact ⟨0, by rw [zp_f.mpr (fun q => zp_f.mp c0 (split.mp q).1)]; rfl, rfl⟩
    · rw [if_neg c0]
      have c0 := zp_t.mp (by simpa using c0)
      by_cases c1 : nI (f (zt_o t u j)) = nI (f (zt_o t v j))
      · rw [if_pos c1]
        exact ⟨1, by rw [zp_t.mpr (split.mpr ⟨c0, nI_inj (by omega) (by omega) c1⟩)]; rfl, rfl⟩
      · rw [if_neg c1]
        exact ⟨0, by rw [zp_f.mpr (fun q => c1 (by rw [(split.mp q).2]))]; rfl, rfl⟩) (i := 0) (n := 10000) (Nat.zero_le _) (a := (1 : Int32)) (by rw [zp_t.mpr (fun x q => by omega)]; rfl) (by omega)
  rw [nI_0] at this
  obtain ⟨w, h1, h2⟩ := this
  subst h1
  refine h2.trans ?_
  simp only [zi_0]
  unfold zc_hg
  by_cases c1 : zp (∀ j, j < zt_c t u → f (zt_o t u j) = f (zt_o t v j)) = false
  · rw [if_pos c1, zc_ck (show u < 270 by omega) (by decide), (h.2 u hu).1, zM_isEven_eq, zc_b1]
    simp only [zi_0]
    by_cases c2 : zp (zc_ev t u) = false
    · rw [if_pos c2, zc_zr (zi_01 _), c1, zp_f.mpr (fun q => q.elim (zp_f.mp c1) (fun z => zp_f.mp c2 z.1))]
    · rw [if_neg c2]
      have hev : zc_ev t u := zp_t.mp (by simpa using c2)
      have hc := hH.2.1 u hu hev
      have u0 := (h.2 u hu).2.2.2.2 0 (by omega)
      have u1 := (h.2 u hu).2.2.2.2 1 (by omega)
      have v0 := (h.2 v hv).2.2.2.2 0 (by omega)
      have v1 := (h.2 v hv).2.2.2.2 1 (by omega)
      rw [Nat.add_zero] at u0 v0
      have a1 := ou 0 (by omega)
      have a2 := ou 1 (by omega)
      have a3 := ov 0 (by omega)
      have a4 := ov 1 (by omega)
      simp only [nI_20z, nI_1, zc_ck (show 20 * u < 5400 by omega) (by decide), zc_ck (show 20 * v < 5400 by omega) (by decide), zc_ck (show 20 * u + 1 < 5400 by omega) (by decide), zc_ck (show 20 * v + 1 < 5400 by omega) (by decide), zc_cl (show 20 * u < 2 ^ 31 by omega), zc_cl (show 20 * v < 2 ^ 31 by omega), zc_cl (show 20 * u + 1 < 2 ^ 31 by omega), zc_cl (show 20 * v + 1 < 2 ^ 31 by omega), u0, u1, v0, v1, zc_ck (show zt_o t u 0 < 270 by omega) (by decide), zc_ck (show zt_o t u 1 < 270 by omega) (by decide), zc_ck (show zt_o t v 0 < 270 by omega) (by decide), zc_ck (show zt_o t v 1 < 270 by omega) (by decide), zc_cl (show zt_o t u 0 < 2 ^ 31 by omega), zc_cl (show zt_o t u 1 < 2 ^ 31 by omega), zc_cl (show zt_o t v 0 < 2 ^ 31 by omega), zc_cl (show zt_o t v 1 < 2 ^ 31 by omega), h28 _ a1, h28 _ a2, h28 _ a3, h28 _ a4]
      have b1 := hf _ a1
      have b2 := hf _ a2
      have b3 := hf _ a3
      have b4 := hf _ a4
      by_cases c3 : nI (f (zt_o t u 0)) = nI (f (zt_o t v 1))
      · rw [if_pos c3]
        by_cases c4 : nI (f (zt_o t u 1)) = nI (f (zt_o t v 0))
        · rw [if_pos c4, zp_t.mpr (Or.inr ⟨hev, nI_inj (by omega) (by omega) c3, nI_inj (by omega) (by omega) c4⟩)]; rfl
        · rw [if_neg c4, zp_f.mpr (fun q => q.elim (zp_f.mp c1) (fun z => c4 (by rw [z.2.2])))]; rfl
      · rw [if_neg c3, zp_f.mpr (fun q => q.elim (zp_f.mp c1) (fun z => c3 (by rw [z.2.1])))]; rfl
  · have c1' : zp (∀ j, j < zt_c t u → f (zt_o t u j) = f (zt_o t v j)) = true := by simpa using c1
    rw [if_neg c1, zc_zr (zi_01 _), c1', zp_t.mpr (Or.inl (zp_t.mp c1'))]
end MK
