/-! PURE: the class's Classes.part -/
/-- the class's world holds the table -/
def zX_Tb (t : zc_Tb) (s : zx_S) : Prop := s 18 11 = nI (zt_T t) ∧ (∀ i, i < zt_T t → s 19 i = zt_k t i ∧ s 20 i = zt_b t i ∧ s 22 i = zt_n t i) ∧ (∀ i, i ≤ zt_T t → s 23 i = nI (zt (zt_c t) i)) ∧ ∀ i, i < zt_T t → zX_Fo t i s
/-- what the class wants of a table besides -/
def zX_Ht (t : zc_Tb) : Prop := zc_H t ∧ zt (zt_c t) (zt_T t) ≤ 530 ∧ ∀ i, i < zt_T t → 1 < zt_k t i → zt_n t i = -1
theorem zX_Tb.keep {t : zc_Tb} {s s' : zx_S} (h : zX_Tb t s) (hk : ∀ c i, 18 ≤ c → c ≤ 25 → s' c i = s c i) : zX_Tb t s' :=
  ⟨by rw [hk 18 11 (by decide) (by decide)]; exact h.1, fun i hi => by rw [hk 19 i (by decide) (by decide), hk 20 i (by decide) (by decide), hk 22 i (by decide) (by decide)]; exact h.2.1 i hi, fun i hi => by rw [hk 23 i (by decide) (by decide)]; exact h.2.2.1 i hi, fun i hi j hj => by rw [hk 25 _ (by decide) (by decide)]; exact h.2.2.2 i hi j hj⟩
section XC
variable {t : zc_Tb}
theorem zX_Ht.foj (h : zX_Ht t) {i j : Nat} (hi : i < zt_T t) (hj : j < zt_c t i) : zt (zt_c t) i + j < 530 := by
  have h1 := h.2.1
  have h2 := zt_up (f := zt_c t) (show i + 1 ≤ zt_T t from hi)
  rw [zt_step] at h2
  omega
theorem zX_alike_eq (hH : zX_Ht t) {s : zx_S} (h : zX_Tb t s) {u v : Nat} (hu : u < zt_T t) (hv : v < zt_T t) : zX_Classes_alike (nI u) (nI v) s = some (zi (zp (zc_same t u v))) := by
  have hT := hH.1.2.2.2.2
  unfold zX_Classes_alike
  obtain ⟨a1, a2, a3⟩ := h.2.1 u hu
  obtain ⟨b1, b2, b3⟩ := h.2.1 v hv
  simp only [zc_ck (show u < 261 by omega) (by decide), zc_ck (show v < 261 by omega) (by decide), zc_cl (show u < 2 ^ 31 by omega), zc_cl (show v < 2 ^ 31 by omega), a1, a2, a3, b1, b2, b3]
  by_cases c1 : zt_k t u = zt_k t v
  · rw [if_pos c1]
    by_cases c2 : zt_n t u = zt_n t v
    · rw [if_pos c2]
      by_cases c3 : zt_k t u = 15
      · rw [if_pos c3]
        by_cases c4 : zt_b t u = zt_b t v
        · rw [if_pos c4, zp_t.mpr ⟨c1, Or.inr c2, Or.inr c4⟩]; rfl
        · rw [if_neg c4, zp_f.mpr (fun q => q.2.2.elim (fun z => z c3) c4)]; rfl
      · rw [if_neg c3, zp_t.mpr ⟨c1, Or.inr c2, Or.inl c3⟩]; rfl
    · rw [if_neg c2, zp_f.mpr (fun q => q.2.1.elim (fun z => c2 (by rw [hH.2.2 u hu z, hH.2.2 v hv (c1 ▸ z)])) c2)]; rfl
  · rw [if_neg c1, zp_f.mpr (fun q => c1 q.1)]; rfl
theorem zc_R0 {u v : Nat} (hu : u < zt_T t) (hv : v < zt_T t) : zc_R t 0 u v ↔ zc_same t u v := ⟨fun q => q.2.2, fun q => ⟨hu, hv, q⟩⟩
/-- the first that stands for itself and is with v, is what v stands by -/
theorem zc_rp_hit (hH : zc_H t) {n u v : Nat} (hu : u < zt_T t) (hv : v < zt_T t) (h1 : zc_rp t n u = u) (h2 : zc_R t n u v) : zc_rp t n v = u := ((zc_rp_eq hH hu hv).mpr h2).symm.trans h1
theorem zc_rp_miss (hH : zc_H t) {n v a : Nat} (hv : v < zt_T t) (ha : a ≤ zc_rp t n v) (h : ∀ u, a ≤ u → u < v → ¬ (zc_rp t n u = u ∧ zc_R t n u v)) : zc_rp t n v = v := by
  have h1 := zc_rp_le (t := t) n v
  apply Classical.byContradiction
  intro q
  exact h (zc_rp t n v) ha (by omega) ⟨zc_rp_rp hH hv, zc_rp_R hH n hv⟩
theorem zc_rp_up (hH : zc_H t) {n v : Nat} (hv : v < zt_T t) : zc_rp t n v ≤ zc_rp t (n + 1) v := by
  apply Classical.byContradiction
  intro q
  exact zle_min (fun u => zc_R t n u v) v (zc_rp t (n + 1) v) (by unfold zc_rp at q ⊢; omega) (zc_rp_R hH (n + 1) hv).1
theorem zX_leastAlike_eq (hH : zX_Ht t) {s : zx_S} (h : zX_Tb t s) {v : Nat} (hv : v < zt_T t) (h34 : ∀ u, u < v → s 34 u = nI (zc_rp t 0 u)) : zX_Classes_leastAlike (nI v) s = some (nI (zc_rp t 0 v)) := by
  have hT := hH.1.2.2.2.2
  unfold zX_Classes_leastAlike
  have := zf_first (L := fun n i => zX_Classes_leastAlike_L2 (nI v) s (fun v3_4 => some v3_4) n i) (K := fun i => some (nI i)) (E := some (nI v)) v 0 (fun u => zc_rp t 0 u = u ∧ zc_R t 0 u v) (fun n => by
    show zX_Classes_leastAlike_L2 (nI v) s (fun v3_4 => some v3_4) (n + 1) (nI v) = some (nI v)
    rw [zX_Classes_leastAlike_L2, if_pos (Int32.le_refl _)]) (fun n u _ hu hp => by
    show zX_Classes_leastAlike_L2 (nI v) s (fun v3_4 => some v3_4) (n + 1) (nI u) = some (nI u)
    rw [zX_Classes_leastAlike_L2, if_neg (by rw [nI_leI (by omega) (by omega)]; omega), zc_ck (show u < 261 by omega) (by decide), zc_cl (by omega), h34 u hu, if_pos (by rw [hp.1]), zX_alike_eq hH h (by omega) hv, zc_b1, if_neg (by rw [zp_t.mpr ((zc_R0 (by omega) hv).mp hp.2)]; decide)]) (fun n u _ hu hp => by
    show zX_Classes_leastAlike_L2 (nI v) s (fun v3_4 => some v3_4) (n + 1) (nI u) = zX_Classes_leastAlike_L2 (nI v) s (fun v3_4 => some v3_4) n (nI (u + 1))
    rw [zX_Classes_leastAlike_L2, if_neg (by rw [nI_leI (by omega) (by omega)]; omega), zc_ck (show u < 261 by omega) (by decide), zc_cl (by omega), h34 u hu]
    simp only [zc_lt, nI_1]
    by_cases c1 : nI (zc_rp t 0 u) = nI u
    · have l := zc_rp_le (t := t) 0 u
      rw [if_pos c1, zX_alike_eq hH h (by omega) hv, zc_b1, if_pos (by rw [zp_f.mpr (fun q => hp ⟨nI_inj (by omega) (by omega) c1, (zc_R0 (by omega) hv).mpr q⟩)]; rfl)]
    · rw [if_neg c1]) (Nat.zero_le _) (n := 10000) (by omega)
  rw [nI_0] at this
  rcases this with ⟨i, -, hi, hp, -, e⟩ | ⟨hno, e⟩
  · rw [e, zc_rp_hit hH.1 (by omega) hv hp.1 hp.2]
  · rw [e, zc_rp_miss hH.1 hv (Nat.zero_le _) hno]
/-- the class's rows of least ones -/
def zX_Ls (t : zc_Tb) (n : Nat) (s : zx_S) : Prop := ∀ v, v < zt_T t → s 34 v = nI (zc_rp t n v)
theorem zX_together_eq (hH : zX_Ht t) {s : zx_S} (h : zX_Tb t s) {n0 : Nat} (hL : zX_Ls t n0 s) {u v i j : Nat} (hu : u < zt_T t) (hv : v < zt_T t) (hi : i < zt_c t u) (hj : j < zt_c t v) : zX_Classes_together (nI (zt (zt_c t) u + i)) (nI (zt (zt_c t) v + j)) s = some (zi (zp (zc_rp t n0 (zt_o t u i) = zc_rp t n0 (zt_o t v j)))) := by
  have hT := hH.1.2.2.2.2
  have f1 := hH.foj hu hi
  have f2 := hH.foj hv hj
  have o1 := hH.1.2.2.1 u i hu hi
  have o2 := hH.1.2.2.1 v j hv hj
  have l1 := zc_rp_le (t := t) n0 (zt_o t u i)
  have l2 := zc_rp_le (t := t) n0 (zt_o t v j)
  unfold zX_Classes_together
  rw [zc_ck f1 (by decide), zc_cl (show zt (zt_c t) u + i < 2 ^ 31 by omega), h.2.2.2 u hu i hi, zc_ck (show zt_o t u i < 261 by omega) (by decide), zc_ck f2 (by decide), zc_cl (show zt (zt_c t) v + j < 2 ^ 31 by omega), h.2.2.2 v hv j hj, zc_ck (show zt_o t v j < 261 by omega) (by decide), zc_cl (show zt_o t u i < 2 ^ 31 by omega), zc_cl (show zt_o t v j < 2 ^ 31 by omega), hL _ o1, hL _ o2]
  by_cases c : zc_rp t n0 (zt_o t u i) = zc_rp t n0 (zt_o t v j)
  · rw [if_pos (by rw [c]), zp_t.mpr c]; rfl
  · rw [if_neg (fun q => c (nI_inj (by omega) (by omega) q)), zp_f.mpr c]; rfl
theorem zX_isEven_eq (u : Nat) (s : zx_S) : zX_Classes_isEven (zt_k t u) s = some (zi (zp (zc_ev t u))) := by
  unfold zX_Classes_isEven zc_ev
  generalize zt_k t u = x
  by_cases h3 : x = 3
  · rw [if_pos h3, zp_t.mpr (Or.inl h3)]; rfl
  · rw [if_neg h3]
    by_cases h5 : x = 5
    · rw [if_pos h5, zp_t.mpr (Or.inr (by rw [h5]; decide))]; rfl
    · rw [if_neg h5]
      by_cases h6 : x = 6
      · rw [if_pos h6, zp_t.mpr (Or.inr (by rw [h6]; decide))]; rfl
      · rw [if_neg h6]
        by_cases h7 : x = 7
        · rw [if_pos h7, zp_t.mpr (Or.inr (by rw [h7]; decide))]; rfl
        · rw [if_neg h7]
          by_cases h8 : x = 8
          · rw [if_pos h8, zp_t.mpr (Or.inr (by rw [h8]; decide))]; rfl
          · rw [if_neg h8]
            by_cases h9 : x = 9
            · rw [if_pos h9, zp_t.mpr (Or.inr (by rw [h9]; decide))]; rfl
            · rw [if_neg h9, zp_f.mpr (fun q => by
                rcases q with q | ⟨q1, q2⟩
                · exact h3 q
                · rw [Int32.le_iff_toInt_le] at q1 q2
                  have e : ∀ k : Int32, x.toInt = k.toInt → x = k := fun k hk => Int32.toInt_inj.mp hk
                  have k5 : (5 : Int32).toInt = 5 := by decide
                  have k6 : (6 : Int32).toInt = 6 := by decide
                  have k7 : (7 : Int32).toInt = 7 := by decide
                  have k8 : (8 : Int32).toInt = 8 := by decide
                  have k9 : (9 : Int32).toInt = 9 := by decide
                  rw [k5] at q1
                  rw [k9] at q2
                  rcases (show x.toInt = 5 ∨ x.toInt = 6 ∨ x.toInt = 7 ∨ x.toInt = 8 ∨ x.toInt = 9 by omega) with z | z | z | z | z
                  · exact h5 (e 5 (z.trans k5.symm))
                  · exact h6 (e 6 (z.trans k6.symm))
                  · exact h7 (e 7 (z.trans k7.symm))
                  · exact h8 (e 8 (z.trans k8.symm))
                  · exact h9 (e 9 (z.trans k9.symm)))]; rfl
theorem zX_agree_L29_eq (hH : zX_Ht t) {s : zx_S} (h : zX_Tb t s) {n0 : Nat} (hL : zX_Ls t n0 s) (kk : Int32 → Option Int32) {u v : Nat} (hu : u < zt_T t) (hv : v < zt_T t) (huv : zt_c t u = zt_c t v) : zX_Classes_operandsAgree_L29 (nI u) (nI (zt (zt_c t) u)) (nI (zt (zt_c t) v)) (nI (zt_c t u)) s kk 10000 1 0 = kk (zi (zp (∀ j, j < zt_c t u → zc_rp t n0 (zt_o t u j) = zc_rp t n0 (zt_o t v j)))) := by
  have hT := hH.1.2.2.2.2
  have hc := hH.1.2.2.2.1 u hu
  have := zf_loop (A := Bool × Nat) (L := fun n a => zX_Classes_operandsAgree_L29 (nI u) (nI (zt (zt_c t) u)) (nI (zt (zt_c t) v)) (nI (zt_c t u)) s kk n (zi a.1) (nI a.2)) (Out := fun o => o = kk (zi (zp (∀ j, j < zt_c t u → zc_rp t n0 (zt_o t u j) = zc_rp t n0 (zt_o t v j))))) (Inv := fun m a => (a.1 = true ∧ a.2 ≤ zt_c t u ∧ m = zt_c t u - a.2 + 1 ∧ ∀ j, j < a.2 → zc_rp t n0 (zt_o t u j) = zc_rp t n0 (zt_o t v j)) ∨ (a.1 = false ∧ a.2 ≤ zt_c t u ∧ m = 0 ∧ ¬ ∀ j, j < zt_c t u → zc_rp t n0 (zt_o t u j) = zc_rp t n0 (zt_o t v j))) (fun n m a ha => by
    obtain ⟨fl, i⟩ := a
    rcases ha with ⟨h1, h2, h3, h4⟩ | ⟨h1, h2, h3, h4⟩
    · dsimp only at h1 h2 h3 h4
      subst h1
      show (zX_Classes_operandsAgree_L29 (nI u) (nI (zt (zt_c t) u)) (nI (zt (zt_c t) v)) (nI (zt_c t u)) s kk (n + 1) (zi true) (nI i) = _) ∨ ∃ m' a', _ ∧ _ ∧ zX_Classes_operandsAgree_L29 (nI u) (nI (zt (zt_c t) u)) (nI (zt (zt_c t) v)) (nI (zt_c t u)) s kk (n + 1) (zi true) (nI i) = _
      rw [zX_Classes_operandsAgree_L29]
      by_cases e : i = zt_c t u
      · left
        rw [if_pos (by rw [e]; exact Int32.le_refl _), zp_t.mpr (e ▸ h4)]
      · right
        rw [if_neg (by rw [nI_leI (by omega) (by omega)]; omega), if_neg (by decide), nI_add, nI_add, zX_together_eq hH h hL hu hv (show i < zt_c t u by omega) (by omega), zc_b1, zc_lt, nI_1]
        by_cases c : zc_rp t n0 (zt_o t u i) = zc_rp t n0 (zt_o t v i)
        · refine ⟨zt_c t u - (i + 1) + 1, (true, i + 1), by omega, Or.inl ⟨rfl, by show i + 1 ≤ _; omega, rfl, fun j hj => ?_⟩, by rw [zp_t.mpr c]⟩
          by_cases e2 : j = i
          · rw [e2]; exact c
          · exact h4 j (by have : j < i + 1 := hj
                           omega)
        · exact ⟨0, (false, i + 1), by omega, Or.inr ⟨rfl, by show i + 1 ≤ _; omega, rfl, fun q => c (q i (by omega))⟩, by rw [zp_f.mpr c]⟩
    · dsimp only at h1 h2 h3 h4
      subst h1
      left
      show zX_Classes_operandsAgree_L29 (nI u) (nI (zt (zt_c t) u)) (nI (zt (zt_c t) v)) (nI (zt_c t u)) s kk (n + 1) (zi false) (nI i) = _
      rw [zX_Classes_operandsAgree_L29, zp_f.mpr h4]
      by_cases e : nI (zt_c t u) ≤ nI i
      · rw [if_pos e]
      · rw [if_neg e, if_pos zi_f]) 10000 (zt_c t u + 1) (true, 0) (Or.inl ⟨rfl, Nat.zero_le _, rfl, fun j hj => by
        have : j < 0 := hj
        omega⟩) (by omega)
  have e0 : nI 0 = (0 : Int32) := nI_0
  dsimp only at this
  rw [e0, zi_t] at this
  exact this
theorem zX_agree_eq (hH : zX_Ht t) {s : zx_S} (h : zX_Tb t s) {n0 : Nat} (hL : zX_Ls t n0 s) {u v : Nat} (hu : u < zt_T t) (hv : v < zt_T t) (huv : zt_c t u = zt_c t v) : zX_Classes_operandsAgree (nI u) (nI v) s = some (zi (zp (zc_hg t (zc_R t n0) u v))) := by
  have hT := hH.1.2.2.2.2
  have hc := hH.1.2.2.2.1 u hu
  rw [← zp_c (zc_hg_rp hH.1 hu hv huv)]
  unfold zX_Classes_operandsAgree zX_Values_operandsOf
  rw [zc_ck (show u < 262 by omega) (by decide), zc_cl (show u < 2 ^ 31 by omega), zc_lt, zc_ck (show v < 262 by omega) (by decide), zc_cl (show v < 2 ^ 31 by omega), zc_lt, nI_1, zc_ck (show u + 1 < 262 by omega) (by decide), zc_ck (show u < 262 by omega) (by decide), zc_cl (show u + 1 < 2 ^ 31 by omega), h.2.2.1 u (by omega), h.2.2.1 v (by omega), h.2.2.1 (u + 1) (by omega), zc_b1, zt_step, show nI (zt (zt_c t) u + zt_c t u) - nI (zt (zt_c t) u) = nI (zt_c t u) by rw [← nI_add, Int32.add_comm, Int32.add_sub_cancel], zX_agree_L29_eq hH h hL _ hu hv huv]
  simp only [zi_0]
  by_cases c1 : zp (∀ j, j < zt_c t u → zc_rp t n0 (zt_o t u j) = zc_rp t n0 (zt_o t v j)) = false
  · rw [if_pos c1, zc_ck (show u < 261 by omega) (by decide), (h.2.1 u hu).1, zX_isEven_eq, zc_b1]
    simp only [zi_0]
    have n1 := zp_f.mp c1
    by_cases c2 : zp (zc_ev t u) = false
    · rw [if_pos c2, zp_f.mpr (show ¬ zc_hg t (fun a b => zc_rp t n0 a = zc_rp t n0 b) u v from fun q => q.elim n1 (fun z => zp_f.mp c2 z.1))]; rfl
    · rw [if_neg c2]
      have ev : zc_ev t u := zp_t.mp (by simpa using c2)
      have c2' := hH.1.2.1 u hu ev
      have t1 := zX_together_eq hH h hL (i := 0) (j := 1) hu hv (by omega) (by omega)
      have t2 : zX_Classes_together (nI (zt (zt_c t) u + 1)) (nI (zt (zt_c t) v)) s = some (zi (zp (zc_rp t n0 (zt_o t u 1) = zc_rp t n0 (zt_o t v 0)))) := zX_together_eq hH h hL (i := 1) (j := 0) hu hv (by omega) (by omega)
      rw [Nat.add_zero] at t1
      rw [nI_1, t1, zc_b1]
      simp only [zi_0]
      by_cases c3 : zp (zc_rp t n0 (zt_o t u 0) = zc_rp t n0 (zt_o t v 1)) = false
      · rw [if_pos c3, zp_f.mpr (show ¬ zc_hg t (fun a b => zc_rp t n0 a = zc_rp t n0 b) u v from fun q => q.elim n1 (fun z => zp_f.mp c3 z.2.1))]; rfl
      · rw [if_neg c3, nI_1, t2, zc_b1]
        simp only [zi_0]
        by_cases c4 : zp (zc_rp t n0 (zt_o t u 1) = zc_rp t n0 (zt_o t v 0)) = false
        · rw [if_pos c4, zp_f.mpr (show ¬ zc_hg t (fun a b => zc_rp t n0 a = zc_rp t n0 b) u v from fun q => q.elim n1 (fun z => zp_f.mp c4 z.2.2))]; rfl
        · rw [if_neg c4, zp_t.mpr (show zc_hg t (fun a b => zc_rp t n0 a = zc_rp t n0 b) u v from Or.inr ⟨ev, zp_t.mp (by simpa using c3), zp_t.mp (by simpa using c4)⟩)]; rfl
  · rw [if_neg c1, zp_t.mpr (show zc_hg t (fun a b => zc_rp t n0 a = zc_rp t n0 b) u v from Or.inl (zp_t.mp (by simpa using c1)))]; rfl
end XC
