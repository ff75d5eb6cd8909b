/-! PURE: the reference's classes(), its loops -/
section ML
variable {t : zc_Tb} {s0 : zx_S}
/-- a row of least ones: at v the least u from m on up to v with p u, or v -/
def zd_M (p : Nat → Prop) (v m x : Nat) : Prop := x ≤ v ∧ (x = v ∨ (m ≤ x ∧ p x)) ∧ ∀ w, m ≤ w → w < x → ¬ p w
theorem zd_M.zero {p : Nat → Prop} {v x : Nat} (h : zd_M p v 0 x) (hv : p v) : x = zle p v := by
  refine (zle_eq h.1 ?_ (fun w hw => h.2.2 w (Nat.zero_le _) hw)).symm
  rcases h.2.1 with q | q
  · rw [q]; exact hv
  · exact q.2
theorem zM_cl_L21_spec (hH : zc_H t) (k : zx_S → Option zx_S) {v : Nat} (hv : v < zt_T t) {s : zx_S} (hT : zm_Tb t s) (h28 : s 28 v = nI v) : ∃ s', (zm_Tb t s' ∧ s' 28 v = nI (zc_rp t 0 v) ∧ ∀ c i, (c ≠ 28 ∨ i ≠ v) → s' c i = s c i) ∧ zM_ValueBenchModel_classes_L21 (nI v) k 10000 (nI v - 1) s = k s' := by
  have hT0 := hH.2.2.2.2
  have := zf_down (L := fun n i s => zM_ValueBenchModel_classes_L21 (nI v) k n i s) (k := k) v (fun m r => zm_Tb t r ∧ (∃ x, r 28 v = nI x ∧ zd_M (fun u => zc_same t u v) v m x) ∧ ∀ c i, (c ≠ 28 ∨ i ≠ v) → r c i = s c i) (fun n r h => by
    show zM_ValueBenchModel_classes_L21 (nI v) k (n + 1) (-1) r = k r
    rw [zM_ValueBenchModel_classes_L21, if_pos (by decide)]) (fun n u r hu h => by
    obtain ⟨g1, ⟨x, g2, g3⟩, g4⟩ := h
    show ∃ a', _ ∧ zM_ValueBenchModel_classes_L21 (nI v) k (n + 1) (nI u) r = _
    rw [zM_ValueBenchModel_classes_L21, if_neg (nI_pos (by omega)), zM_oneSort_eq hH g1 (by omega) hv, zc_b1]
    simp only [zi_0, zc_lt, zc_ls, zc_ck (show v < 270 by omega) (by decide), zc_cl (show v < 2 ^ 31 by omega), nI_m1]
    by_cases c1 : zp (zc_same t u v) = false
    · rw [if_pos c1]
      refine ⟨r, ⟨g1, ⟨x, g2, g3.1, g3.2.1.imp_right (fun q => ⟨by omega, q.2⟩), fun w hw1 hw2 => ?_⟩, g4⟩, rfl⟩
      by_cases e : w = u
      · rw [e]; exact zp_f.mp c1
      · exact g3.2.2 w (by omega) hw2
    · rw [if_neg c1]
      refine ⟨_, ⟨g1.su (by decide), ⟨u, zs_eq _ _ _ _, by omega, Or.inr ⟨Nat.le_refl _, zp_t.mp (by simpa using c1)⟩, fun w hw1 hw2 => by omega⟩, fun c i hc => by rw [zs_ne hc]; exact g4 c i hc⟩, rfl⟩) (m := v) (a := s) (n := 10000) (Nat.le_refl _) ⟨hT, ⟨v, h28, Nat.le_refl _, Or.inl rfl, fun w h1 h2 => by omega⟩, fun _ _ _ => rfl⟩ (by omega)
  obtain ⟨s', ⟨g1, ⟨x, g2, g3⟩, g4⟩, h2⟩ := this
  refine ⟨s', ⟨g1, ?_, g4⟩, h2⟩
  have e : zc_rp t 0 v = zle (fun u => zc_same t u v) v := by
    have a := g3.zero ⟨rfl, Or.inr rfl, Or.inr rfl⟩
    refine zle_eq (zle_le _ _) ⟨Nat.lt_of_le_of_lt (zle_le _ _) hv, hv, zle_has (p := fun u => zc_same t u v) ⟨v, Nat.le_refl _, rfl, Or.inr rfl, Or.inr rfl⟩⟩ (fun w hw q => zle_min _ _ w hw q.2.2)
  rw [g2, g3.zero ⟨rfl, Or.inr rfl, Or.inr rfl⟩, e]
theorem zM_cl_L2_spec (hH : zc_H t) (k : zx_S → Option zx_S) {s : zx_S} (hT : zm_Tb t s) (hf : ∀ c i, c ≠ 28 → s c i = s0 c i) : ∃ s', (zm_Tb t s' ∧ (∀ v, v < zt_T t → s' 28 v = nI (zc_rp t 0 v)) ∧ ∀ c i, c ≠ 28 → s' c i = s0 c i) ∧ zM_ValueBenchModel_classes_L2 k 10000 (0 : Int32) s = k s' := by
  have hT0 := hH.2.2.2.2
  have := zf_for (L := fun n i s => zM_ValueBenchModel_classes_L2 k n i s) (k := k) (zt_T t) (fun n r => zm_Tb t r ∧ (∀ v, v < n → r 28 v = nI (zc_rp t 0 v)) ∧ ∀ c i, c ≠ 28 → r c i = s0 c i) (fun n r h => by
    show zM_ValueBenchModel_classes_L2 k (n + 1) (nI (zt_T t)) r = k r
    rw [zM_ValueBenchModel_classes_L2, if_pos (by rw [h.1.1]; exact Int32.le_refl _)]) (fun n v r hv h => by
    obtain ⟨g1, g2, g3⟩ := h
    show ∃ a', _ ∧ zM_ValueBenchModel_classes_L2 k (n + 1) (nI v) r = _
    rw [zM_ValueBenchModel_classes_L2, if_neg (by rw [g1.1, nI_leI (by omega) (by omega)]; omega), zc_ck (show v < 270 by omega) (by decide), zc_cl (show v < 2 ^ 31 by omega), zc_ls, zc_lt]
    obtain ⟨s1, ⟨w1, w2, w3⟩, w4⟩ := zM_cl_L21_spec hH (fun s7 => zx_lt (nI v + 1) fun v1_8 => zM_ValueBenchModel_classes_L2 k n v1_8 s7) hv (g1.su (k := 28) (i := v) (x := nI v) (by decide)) (zs_eq _ _ _ _)
    rw [w4, zc_lt, nI_1]
    refine ⟨s1, ⟨w1, fun x hx => ?_, fun c i hc => by rw [w3 c i (Or.inl hc), zs_ne (Or.inl hc)]; exact g3 c i hc⟩, rfl⟩
    by_cases e : x = v
    · rw [e]; exact w2
    · rw [w3 28 x (Or.inr e), zs_ne (Or.inr e)]; exact g2 x (by omega)) (i := 0) (n := 10000) (Nat.zero_le _) (a := s) ⟨hT, fun v hv => by omega, hf⟩ (by omega)
  rw [nI_0] at this
  exact this
/-- behind n rounds -/
def zd_K (t : zc_Tb) (s0 : zx_S) (n : Nat) (s : zx_S) : Prop := zm_Tb t s ∧ (∀ v, v < zt_T t → s 28 v = nI (zc_rp t n v)) ∧ ∀ c i, c ≠ 28 → c ≠ 29 → s c i = s0 c i
theorem zc_hg_rp (hH : zc_H t) {n u v : Nat} (hu : u < zt_T t) (hv : v < zt_T t) (hs : zt_c t u = zt_c t v) : zc_hg t (fun a b => zc_rp t n a = zc_rp t n b) u v ↔ zc_hg t (zc_R t n) u v := by
  unfold zc_hg
  have e : ∀ j j', j < zt_c t u → j' < zt_c t u → (zc_rp t n (zt_o t u j) = zc_rp t n (zt_o t v j') ↔ zc_R t n (zt_o t u j) (zt_o t v j')) := fun j j' hj hj' => zc_rp_eq hH (hH.2.2.1 u j hu hj) (hH.2.2.1 v j' hv (by omega))
  constructor
  · rintro (q | ⟨q1, q2, q3⟩)
    · exact Or.inl (fun j hj => (e j j hj hj).mp (q j hj))
    · have c := hH.2.1 u hu q1
      exact Or.inr ⟨q1, (e 0 1 (by omega) (by omega)).mp q2, (e 1 0 (by omega) (by omega)).mp q3⟩
  · rintro (q | ⟨q1, q2, q3⟩)
    · exact Or.inl (fun j hj => (e j j hj hj).mpr (q j hj))
    · have c := hH.2.1 u hu q1
      exact Or.inr ⟨q1, (e 0 1 (by omega) (by omega)).mpr q2, (e 1 0 (by omega) (by omega)).mpr q3⟩
theorem zM_cl_L82_spec (hH : zc_H t) {n0 : Nat} (k : zx_S → Option zx_S) {v : Nat} (hv : v < zt_T t) {s : zx_S} (hK : zd_K t s0 n0 s) (h29 : s 29 v = nI v) : ∃ s', (zd_K t s0 n0 s' ∧ s' 29 v = nI (zc_rp t (n0 + 1) v) ∧ ∀ i, i ≠ v → s' 29 i = s 29 i) ∧ zM_ValueBenchModel_classes_L82 (0 : Int32) (nI v) k 10000 (nI v - 1) s = k s' := by
  have hT0 := hH.2.2.2.2
  have := zf_down (L := fun n i s => zM_ValueBenchModel_classes_L82 (0 : Int32) (nI v) k n i s) (k := k) v (fun m r => zd_K t s0 n0 r ∧ (∃ x, r 29 v = nI x ∧ zd_M (fun u => zc_R t (n0 + 1) u v) v m x) ∧ ∀ i, i ≠ v → r 29 i = s 29 i) (fun n r h => by
    show zM_ValueBenchModel_classes_L82 (0 : Int32) (nI v) k (n + 1) (-1) r = k r
    rw [zM_ValueBenchModel_classes_L82, if_pos (by decide)]) (fun n u r hu h => by
    obtain ⟨g1, ⟨x, g2, g3⟩, g4⟩ := h
    have hu' : u < zt_T t := by omega
    show ∃ a', _ ∧ zM_ValueBenchModel_classes_L82 (0 : Int32) (nI v) k (n + 1) (nI u) r = _
    rw [zM_ValueBenchModel_classes_L82, if_neg (nI_pos (by omega))]
    simp only [zc_lt, zc_ls, zc_ck (show v < 270 by omega) (by decide), zc_ck (show u < 270 by omega) (by decide), zc_cl (show v < 2 ^ 31 by omega), zc_cl (show u < 2 ^ 31 by omega), nI_m1, g1.2.1 u hu', g1.2.1 v hv]
    have l1 := zc_rp_le (t := t) n0 u
    have l2 := zc_rp_le (t := t) n0 v
    have skip : ¬ zc_R t (n0 + 1) u v → ∃ a', (zd_K t s0 n0 a' ∧ (∃ x, a' 29 v = nI x ∧ zd_M (fun u => zc_R t (n0 + 1) u v) v u x) ∧ ∀ i, i ≠ v → a' 29 i = s 29 i) ∧ zM_ValueBenchModel_classes_L82 (0 : Int32) (nI v) k n (nI u - 1) r = zM_ValueBenchModel_classes_L82 (0 : Int32) (nI v) k n (nI u - 1) a' := by
      intro hn
      refine ⟨r, ⟨g1, ⟨x, g2, g3.1, g3.2.1.imp_right (fun q => ⟨by omega, q.2⟩), fun w hw1 hw2 => ?_⟩, g4⟩, rfl⟩
      by_cases e : w = u
      · rw [e]; exact hn
      · exact g3.2.2 w (by omega) hw2
    by_cases c0 : nI (zc_rp t n0 u) = nI (zc_rp t n0 v)
    · rw [if_pos c0]
      have hR : zc_R t n0 u v := (zc_rp_eq hH hu' hv).mp (nI_inj (by omega) (by omega) c0)
      have hc : zt_c t u = zt_c t v := hH.1 u v hu' hv hR.lt.2.2
      rw [zM_hang_eq hH g1.1 g1.2.1 (fun i hi => by have := zc_rp_le (t := t) n0 i; omega) hu' hv hc, zc_b1]
      simp only [zi_0]
      rw [zp_c (zc_hg_rp hH hu' hv hc)]
      by_cases c1 : zp (zc_hg t (zc_R t n0) u v) = false
      · rw [if_pos c1]
        exact skip (fun q => zp_f.mp c1 q.2)
      · rw [if_neg c1]
        refine ⟨_, ⟨⟨g1.1.su (by decide), fun w hw => by rw [zs_ne (Or.inl (by decide))]; exact g1.2.1 w hw, fun c i h1 h2 => by rw [zs_ne (Or.inl h2)]; exact g1.2.2 c i h1 h2⟩, ⟨u, zs_eq _ _ _ _, by omega, Or.inr ⟨Nat.le_refl _, hR, zp_t.mp (by simpa using c1)⟩, fun w hw1 hw2 => by omega⟩, fun i hi => by rw [zs_ne (Or.inr hi)]; exact g4 i hi⟩, rfl⟩
    · rw [if_neg c0]
      exact skip (fun q => c0 (by rw [(zc_rp_eq hH hu' hv).mpr q.1]))) (m := v) (a := s) (n := 10000) (Nat.le_refl _) ⟨hK, ⟨v, h29, Nat.le_refl _, Or.inl rfl, fun w h1 h2 => by omega⟩, fun _ _ => rfl⟩ (by omega)
  obtain ⟨s', ⟨g1, ⟨x, g2, g3⟩, g4⟩, h2⟩ := this
  exact ⟨s', ⟨g1, by rw [g2, g3.zero (zc_R.refl hH _ hv)]; rfl, g4⟩, h2⟩
theorem zM_cl_L63_spec (hH : zc_H t) {n0 : Nat} (k : zx_S → Option zx_S) {s : zx_S} (hK : zd_K t s0 n0 s) : ∃ s', (zd_K t s0 n0 s' ∧ ∀ v, v < zt_T t → s' 29 v = nI (zc_rp t (n0 + 1) v)) ∧ zM_ValueBenchModel_classes_L63 (0 : Int32) k 10000 (0 : Int32) s = k s' := by
  have hT0 := hH.2.2.2.2
  have := zf_for (L := fun n i s => zM_ValueBenchModel_classes_L63 (0 : Int32) k n i s) (k := k) (zt_T t) (fun n r => zd_K t s0 n0 r ∧ ∀ v, v < n → r 29 v = nI (zc_rp t (n0 + 1) v)) (fun n r h => by
    show zM_ValueBenchModel_classes_L63 (0 : Int32) k (n + 1) (nI (zt_T t)) r = k r
    rw [zM_ValueBenchModel_classes_L63, if_pos (by rw [h.1.1.1]; exact Int32.le_refl _)]) (fun n v r hv h => by
    obtain ⟨g1, g2⟩ := h
    show ∃ a', _ ∧ zM_ValueBenchModel_classes_L63 (0 : Int32) k (n + 1) (nI v) r = _
    rw [zM_ValueBenchModel_classes_L63, if_neg (by rw [g1.1.1, nI_leI (by omega) (by omega)]; omega), zc_ck (show v < 270 by omega) (by decide), zc_cl (show v < 2 ^ 31 by omega), zc_ls, zc_lt]
    have K1 : zd_K t s0 n0 (zx_su r 29 v (nI v)) := ⟨g1.1.su (by decide), fun w hw => by rw [zs_ne (Or.inl (by decide))]; exact g1.2.1 w hw, fun c i h1 h2 => by rw [zs_ne (Or.inl h2)]; exact g1.2.2 c i h1 h2⟩
    obtain ⟨s1, ⟨w1, w2, w3⟩, w4⟩ := zM_cl_L82_spec hH (fun s17 => zx_lt (nI v + 1) fun v2_18 => zM_ValueBenchModel_classes_L63 (0 : Int32) k n v2_18 s17) hv K1 (zs_eq _ _ _ _)
    rw [w4, zc_lt, nI_1]
    refine ⟨s1, ⟨w1, fun x hx => ?_⟩, rfl⟩
    by_cases e : x = v
    · rw [e]; exact w2
    · rw [w3 x e, zs_ne (Or.inr e)]; exact g2 x (by omega)) (i := 0) (n := 10000) (Nat.zero_le _) (a := s) ⟨hK, fun v hv => by omega⟩ (by omega)
  rw [nI_0] at this
  exact this
theorem zM_cl_L131_spec (hH : zc_H t) {n0 : Nat} (k : Int32 → zx_S → Option zx_S) {s : zx_S} (hK : zd_K t s0 n0 s) (h29 : ∀ v, v < zt_T t → s 29 v = nI (zc_rp t (n0 + 1) v)) : ∃ mo s', (zd_K t s0 (n0 + 1) s' ∧ (mo = false ↔ zc_fix t n0)) ∧ zM_ValueBenchModel_classes_L131 k 10000 (0 : Int32) (0 : Int32) s = k (zi mo) s' := by
  have hT0 := hH.2.2.2.2
  have := zf_for (A := Int32 × zx_S) (L := fun n i q => zM_ValueBenchModel_classes_L131 k n q.1 i q.2) (k := fun q => k q.1 q.2) (zt_T t) (fun n q => (zm_Tb t q.2 ∧ (∀ v, v < n → q.2 28 v = nI (zc_rp t (n0 + 1) v)) ∧ (∀ v, n ≤ v → v < zt_T t → q.2 28 v = nI (zc_rp t n0 v)) ∧ (∀ v, v < zt_T t → q.2 29 v = nI (zc_rp t (n0 + 1) v)) ∧ ∀ c i, c ≠ 28 → c ≠ 29 → q.2 c i = s0 c i) ∧ q.1 = zi (zp (¬ ∀ v, v < n → zc_rp t (n0 + 1) v = zc_rp t n0 v))) (fun n q h => by
    show zM_ValueBenchModel_classes_L131 k (n + 1) q.1 (nI (zt_T t)) q.2 = k q.1 q.2
    rw [zM_ValueBenchModel_classes_L131, if_pos (by rw [h.1.1.1]; exact Int32.le_refl _)]) (fun n v q hv h => by
    obtain ⟨⟨g1, g2, g3, g4, g5⟩, g6⟩ := h
    obtain ⟨m1, r⟩ := q
    dsimp only at g1 g2 g3 g4 g5 g6
    subst g6
    show ∃ a' : Int32 × zx_S, _ ∧ zM_ValueBenchModel_classes_L131 k (n + 1) _ (nI v) r = zM_ValueBenchModel_classes_L131 k n a'.1 (nI (v + 1)) a'.2
    rw [zM_ValueBenchModel_classes_L131, if_neg (by rw [g1.1, nI_leI (by omega) (by omega)]; omega)]
    have l1 := zc_rp_le (t := t) n0 v
    have l2 := zc_rp_le (t := t) (n0 + 1) v
    have split : (∀ x, x < v + 1 → zc_rp t (n0 + 1) x = zc_rp t n0 x) ↔ (∀ x, x < v → zc_rp t (n0 + 1) x = zc_rp t n0 x) ∧ zc_rp t (n0 + 1) v = zc_rp t n0 v := by
      constructor
      · exact fun q => ⟨fun x hx => q x (by omega), q v (by omega)⟩
      · rintro ⟨q1, q2⟩ x hx
        by_cases e : x = v
        · rw [e]; exact q2
        · exact q1 x (by omega)
    have fin : ∀ mo : Bool, mo = zp (¬ ∀ x, x < v + 1 → zc_rp t (n0 + 1) x = zc_rp t n0 x) → ∃ a' : Int32 × zx_S, ((zm_Tb t a'.2 ∧ (∀ x, x < v + 1 → a'.2 28 x = nI (zc_rp t (n0 + 1) x)) ∧ (∀ x, v + 1 ≤ x → x < zt_T t → a'.2 28 x = nI (zc_rp t n0 x)) ∧ (∀ x, x < zt_T t → a'.2 29 x = nI (zc_rp t (n0 + 1) x)) ∧ ∀ c i, c ≠ 28 → c ≠ 29 → a'.2 c i = s0 c i) ∧ a'.1 = zi (zp (¬ ∀ x, x < v + 1 → zc_rp t (n0 + 1) x = zc_rp t n0 x))) ∧ zM_ValueBenchModel_classes_J163 (zM_ValueBenchModel_classes_L131 k n) (nI v) (zi mo) r = zM_ValueBenchModel_classes_L131 k n a'.1 (nI (v + 1)) a'.2 := by
      intro mo hmo
      unfold zM_ValueBenchModel_classes_J163
      rw [zc_ck (show v < 270 by omega) (by decide), zc_cl (show v < 2 ^ 31 by omega), zc_lt, zc_ck (show v < 270 by omega) (by decide), zc_ls, zc_lt, nI_1, g4 v hv]
      refine ⟨(zi mo, zx_su r 28 v (nI (zc_rp t (n0 + 1) v))), ⟨⟨g1.su (by decide), fun x hx => ?_, fun x hx1 hx2 => by show zx_su r 28 v (nI (zc_rp t (n0 + 1) v)) 28 x = _; rw [zs_ne (Or.inr (by omega))]; exact g3 x (by omega) hx2, fun x hx => by show zx_su r 28 v (nI (zc_rp t (n0 + 1) v)) 29 x = _; rw [zs_ne (Or.inl (by decide))]; exact g4 x hx, fun c i h1 h2 => by show zx_su r 28 v (nI (zc_rp t (n0 + 1) v)) c i = _; rw [zs_ne (Or.inl h1)]; exact g5 c i h1 h2⟩, by rw [hmo]⟩, rfl⟩
      show zx_su r 28 v (nI (zc_rp t (n0 + 1) v)) 28 x = _
      by_cases e : x = v
      · rw [e, zs_eq]
      · rw [zs_ne (Or.inr e)]; exact g2 x (by omega)
    simp only [zi_0]
    by_cases c0 : zp (¬ ∀ x, x < v → zc_rp t (n0 + 1) x = zc_rp t n0 x) = false
    · rw [if_pos c0, zc_ck (show v < 270 by omega) (by decide), zc_ck (show v < 270 by omega) (by decide), zc_cl (show v < 2 ^ 31 by omega), g4 v hv, g3 v (Nat.le_refl _) hv]
      have c0' : ∀ x, x < v → zc_rp t (n0 + 1) x = zc_rp t n0 x := Classical.byContradiction fun q => zp_f.mp c0 q
      by_cases c1 : nI (zc_rp t (n0 + 1) v) = nI (zc_rp t n0 v)
      · rw [if_pos c1]
        exact fin false (zp_f.mpr (fun q => q (split.mpr ⟨c0', nI_inj (by omega) (by omega) c1⟩))).symm
      · rw [if_neg c1]
        exact fin true (zp_t.mpr (fun q => c1 (by rw [(split.mp q).2]))).symm
    · rw [if_neg c0]
      exact fin true (zp_t.mpr (fun q => zp_t.mp (show zp (¬ ∀ x, x < v → zc_rp t (n0 + 1) x = zc_rp t n0 x) = true by simpa using c0) (split.mp q).1)).symm) (i := 0) (n := 10000) (Nat.zero_le _) (a := ((0 : Int32), s)) ⟨⟨hK.1, fun v hv => by omega, fun v _ hv => hK.2.1 v hv, h29, hK.2.2⟩, by rw [zp_f.mpr (fun q => q (fun v hv => by omega))]; rfl⟩ (by omega)
  rw [nI_0] at this
  obtain ⟨⟨m1, s'⟩, ⟨⟨g1, g2, -, -, g5⟩, g6⟩, h2⟩ := this
  dsimp only at g1 g2 g5 g6 h2
  refine ⟨zp (¬ ∀ v, v < zt_T t → zc_rp t (n0 + 1) v = zc_rp t n0 v), s', ⟨⟨g1, g2, g5⟩, ?_⟩, by rw [← g6]; exact h2⟩
  rw [zp_f]
  exact Classical.not_not
theorem zM_classes_spec (hH : zc_H t) {s : zx_S} (hT : zm_Tb t s) : ∃ s', (zm_Tb t s' ∧ (∀ v, v < zt_T t → s' 28 v = nI (zc_K t v)) ∧ ∀ c i, c ≠ 28 → c ≠ 29 → s' c i = s c i) ∧ zM_ValueBenchModel_classes s = some s' := by
  unfold zM_ValueBenchModel_classes
  obtain ⟨s1, ⟨w1, w2, w3⟩, w4⟩ := zM_cl_L2_spec (s0 := s) hH (fun s9 => zM_ValueBenchModel_classes_L55 (fun s25 => some s25) 10000 (1 : Int32) s9) hT (fun _ _ _ => rfl)
  rw [w4]
  have := zf_loop (A := Int32 × zx_S) (L := fun n a => zM_ValueBenchModel_classes_L55 (fun s25 => some s25) n a.1 a.2) (Out := fun o => ∃ s', (zm_Tb t s' ∧ (∀ v, v < zt_T t → s' 28 v = nI (zc_K t v)) ∧ ∀ c i, c ≠ 28 → c ≠ 29 → s' c i = s c i) ∧ o = some s') (Inv := fun m a => ∃ mo n0, a.1 = zi mo ∧ zd_K t s n0 a.2 ∧ (mo = false → ∀ v, v < zt_T t → zc_rp t n0 v = zc_K t v) ∧ (mo = true → (∀ j, j < n0 → ¬ zc_fix t j) ∧ m = 263 - n0) ∧ (mo = false → m = 0)) (fun n m a h => by
    obtain ⟨mo, n0, h1, h2, h3, h4, h5⟩ := h
    obtain ⟨m1, r⟩ := a
    dsimp only at h1 h2
    subst h1
    cases mo with
    | false =>
      left
      refine ⟨r, ⟨h2.1, fun v hv => by rw [h2.2.1 v hv, h3 rfl v hv], h2.2.2⟩, ?_⟩
      show zM_ValueBenchModel_classes_L55 (fun s25 => some s25) (n + 1) (zi false) r = some r
      rw [zM_ValueBenchModel_classes_L55, if_pos zi_f]
    | true =>
      right
      obtain ⟨q1, q2⟩ := h4 rfl
      have hle : n0 ≤ 261 := by
        have a1 := zc_nc_ge hH n0 q1
        have a2 := zc_nc_le (t := t) n0
        have a3 := hH.2.2.2.2
        omega
      obtain ⟨s2, ⟨v1, v2⟩, v3⟩ := zM_cl_L63_spec hH (fun s19 => zM_ValueBenchModel_classes_L131 (fun v1_23 s24 => zM_ValueBenchModel_classes_L55 (fun s25 => some s25) n v1_23 s24) 10000 (0 : Int32) (0 : Int32) s19) h2
      obtain ⟨mo', s3, ⟨u1, u2⟩, u3⟩ := zM_cl_L131_spec hH (fun v1_23 s24 => zM_ValueBenchModel_classes_L55 (fun s25 => some s25) n v1_23 s24) v1 v2
      refine ⟨if mo' = true then 263 - (n0 + 1) else 0, (zi mo', s3), ?_, ⟨mo', n0 + 1, rfl, u1, fun q v hv => ?_, fun q => ⟨fun j hj => ?_, by simp [q]⟩, fun q => by simp [q]⟩, ?_⟩
      · split <;> omega
      · have hf := u2.mp q
        rw [hf v hv]; exact zc_K_fix hH hf v
      · by_cases e : j = n0
        · rw [e]; exact fun z => by have := u2.mpr z; rw [q] at this; cases this
        · exact q1 j (by omega)
      · show zM_ValueBenchModel_classes_L55 (fun s25 => some s25) (n + 1) (zi true) r = _
        rw [zM_ValueBenchModel_classes_L55, if_neg (by decide), v3, u3]) 10000 263 (zi true, s1) ⟨true, 0, rfl, ⟨w1, w2, fun c i h1 _ => w3 c i h1⟩, fun q => (by cases q), fun _ => ⟨fun j hj => by omega, rfl⟩, fun q => (by cases q)⟩ (by omega)
  exact this
end ML
