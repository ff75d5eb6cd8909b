/-! PURE: the coarsest CONGRUENCE, by rounds, over a table of VALUES: how many, kind, number, block, OPERANDS -/
abbrev zc_Tb : Type := Nat × (Nat → Int32) × (Nat → Int32) × (Nat → Int32) × (Nat → Nat) × (Nat → Nat → Nat)
abbrev zt_T (t : zc_Tb) : Nat := t.1
abbrev zt_k (t : zc_Tb) : Nat → Int32 := t.2.1
abbrev zt_n (t : zc_Tb) : Nat → Int32 := t.2.2.1
abbrev zt_b (t : zc_Tb) : Nat → Int32 := t.2.2.2.1
abbrev zt_c (t : zc_Tb) : Nat → Nat := t.2.2.2.2.1
abbrev zt_o (t : zc_Tb) : Nat → Nat → Nat := t.2.2.2.2.2
def zc_same (t : zc_Tb) (u v : Nat) : Prop := zt_k t u = zt_k t v ∧ (1 < zt_k t u ∨ zt_n t u = zt_n t v) ∧ (¬ zt_k t u = 15 ∨ zt_b t u = zt_b t v)
def zc_ev (t : zc_Tb) (u : Nat) : Prop := zt_k t u = 3 ∨ (5 ≤ zt_k t u ∧ zt_k t u ≤ 9)
def zc_hg (t : zc_Tb) (R : Nat → Nat → Prop) (u v : Nat) : Prop := (∀ j, j < zt_c t u → R (zt_o t u j) (zt_o t v j)) ∨ (zc_ev t u ∧ R (zt_o t u 0) (zt_o t v 1) ∧ R (zt_o t u 1) (zt_o t v 0))
def zc_R (t : zc_Tb) : Nat → Nat → Nat → Prop
  | 0, u, v => u < zt_T t ∧ v < zt_T t ∧ zc_same t u v
  | n + 1, u, v => zc_R t n u v ∧ zc_hg t (zc_R t n) u v
/-- what a table of VALUES is -/
def zc_H (t : zc_Tb) : Prop := (∀ u v, u < zt_T t → v < zt_T t → zc_same t u v → zt_c t u = zt_c t v) ∧ (∀ u, u < zt_T t → zc_ev t u → zt_c t u = 2) ∧ (∀ u j, u < zt_T t → j < zt_c t u → zt_o t u j < zt_T t) ∧ (∀ u, u < zt_T t → zt_c t u ≤ 17) ∧ zt_T t ≤ 261
section CL
variable {t : zc_Tb}
theorem zc_R.lt {n u v : Nat} (h : zc_R t n u v) : u < zt_T t ∧ v < zt_T t ∧ zc_same t u v := by
  induction n with
  | zero => exact h
  | succ n ih => exact ih h.1
theorem zc_same.symm {u v : Nat} (h : zc_same t u v) : zc_same t v u := ⟨h.1.symm, by rw [← h.1]; exact h.2.1.imp_right Eq.symm, by rw [← h.1]; exact h.2.2.imp_right Eq.symm⟩
theorem zc_same.trans {u v w : Nat} (h1 : zc_same t u v) (h2 : zc_same t v w) : zc_same t u w := by
  refine ⟨h1.1.trans h2.1, ?_, ?_⟩
  · rcases h1.2.1 with q | q
    · exact Or.inl q
    · rcases h2.2.1 with q2 | q2
      · rw [← h1.1] at q2; exact Or.inl q2
      · exact Or.inr (q.trans q2)
  · rcases h1.2.2 with q | q
    · exact Or.inl q
    · rcases h2.2.2 with q2 | q2
      · rw [← h1.1] at q2; exact Or.inl q2
      · exact Or.inr (q.trans q2)
theorem zc_ev.same {u v : Nat} (h : zc_ev t u) (hs : zc_same t u v) : zc_ev t v := by unfold zc_ev at *; rw [← hs.1]; exact h
theorem zc_R.refl (hH : zc_H t) (n : Nat) {u : Nat} (h : u < zt_T t) : zc_R t n u u := by
  induction n generalizing u with
  | zero => exact ⟨h, h, rfl, Or.inr rfl, Or.inr rfl⟩
  | succ n ih => exact ⟨ih h, Or.inl (fun j hj => ih (hH.2.2.1 u j h hj))⟩
theorem zc_R.symm (hH : zc_H t) {n u v : Nat} (h : zc_R t n u v) : zc_R t n v u := by
  induction n generalizing u v with
  | zero => exact ⟨h.2.1, h.1, h.2.2.symm⟩
  | succ n ih =>
    have l := h.1.lt
    refine ⟨ih h.1, ?_⟩
    rcases h.2 with q | ⟨q1, q2, q3⟩
    · exact Or.inl (fun j hj => ih (q j (by rw [hH.1 u v l.1 l.2.1 l.2.2]; exact hj)))
    · exact Or.inr ⟨q1.same l.2.2, ih q3, ih q2⟩
theorem zc_R.trans (hH : zc_H t) {n u v w : Nat} (h1 : zc_R t n u v) (h2 : zc_R t n v w) : zc_R t n u w := by
  induction n generalizing u v w with
  | zero => exact ⟨h1.1, h2.2.1, h1.2.2.trans h2.2.2⟩
  | succ n ih =>
    have l1 := h1.1.lt
    have l2 := h2.1.lt
    have e := hH.1 u v l1.1 l1.2.1 l1.2.2
    refine ⟨ih h1.1 h2.1, ?_⟩
    rcases h1.2 with q | ⟨q1, q2, q3⟩
    · rcases h2.2 with r | ⟨r1, r2, r3⟩
      · exact Or.inl (fun j hj => ih (q j hj) (r j (by omega)))
      · have c := hH.2.1 v l1.2.1 r1
        exact Or.inr ⟨r1.same l1.2.2.symm, ih (q 0 (by omega)) r2, ih (q 1 (by omega)) r3⟩
    · have c := hH.2.1 u l1.1 q1
      rcases h2.2 with r | ⟨r1, r2, r3⟩
      · exact Or.inr ⟨q1, ih q2 (r 1 (by omega)), ih q3 (r 0 (by omega))⟩
      · refine Or.inl (fun j hj => ?_)
        rcases (show j = 0 ∨ j = 1 by omega) with rfl | rfl
        · exact ih q2 r3
        · exact ih q3 r2
end CL
/-- the least u up to n of a kind, n if there is none -/
noncomputable def zle (p : Nat → Prop) : Nat → Nat
  | 0 => 0
  | n + 1 => if zp (∃ i, i ≤ n ∧ p i) then zle p n else n + 1
theorem zle_le (p : Nat → Prop) (n : Nat) : zle p n ≤ n := by
  induction n with
  | zero => exact Nat.le_refl _
  | succ n ih => unfold zle; split <;> omega
theorem zle_min (p : Nat → Prop) (n : Nat) : ∀ w, w < zle p n → ¬ p w := by
  induction n with
  | zero => intro w h; unfold zle at h; omega
  | succ n ih =>
    intro w h
    unfold zle at h
    by_cases q : zp (∃ i, i ≤ n ∧ p i) = true
    · rw [if_pos q] at h; exact ih w h
    · rw [if_neg q] at h
      exact fun hp => q (zp_t.mpr ⟨w, by omega, hp⟩)
theorem zle_has {p : Nat → Prop} {n : Nat} (h : ∃ i, i ≤ n ∧ p i) : p (zle p n) := by
  induction n with
  | zero =>
    obtain ⟨i, h1, h2⟩ := h
    have : i = 0 := by omega
    subst this; exact h2
  | succ n ih =>
    unfold zle
    by_cases q : zp (∃ i, i ≤ n ∧ p i) = true
    · rw [if_pos q]; exact ih (zp_t.mp q)
    · rw [if_neg q]
      obtain ⟨i, h1, h2⟩ := h
      by_cases e : i = n + 1
      · rw [← e]; exact h2
      · exact absurd (zp_t.mpr ⟨i, by omega, h2⟩) q
theorem zle_eq {p : Nat → Prop} {n u : Nat} (h1 : u ≤ n) (h2 : p u) (h3 : ∀ w, w < u → ¬ p w) : zle p n = u := by
  have a := zle_has ⟨u, h1, h2⟩
  rcases Nat.lt_trichotomy (zle p n) u with q | q | q
  · exact absurd a (h3 _ q)
  · exact q
  · exact absurd h2 (zle_min p n u q)
/-- the least of the class of v behind n rounds -/
noncomputable def zc_rp (t : zc_Tb) (n v : Nat) : Nat := zle (fun u => zc_R t n u v) v
section CR
variable {t : zc_Tb} (hH : zc_H t)
theorem zc_rp_le (n v : Nat) : zc_rp t n v ≤ v := zle_le _ _
theorem zc_rp_R (hH : zc_H t) (n : Nat) {v : Nat} (hv : v < zt_T t) : zc_R t n (zc_rp t n v) v := zle_has (p := fun u => zc_R t n u v) ⟨v, Nat.le_refl _, zc_R.refl hH n hv⟩
theorem zc_rp_eq (hH : zc_H t) {n u v : Nat} (hu : u < zt_T t) (hv : v < zt_T t) : zc_rp t n u = zc_rp t n v ↔ zc_R t n u v := by
  constructor
  · intro h
    exact ((zc_rp_R hH n hu).symm hH).trans hH (by rw [h]; exact zc_rp_R hH n hv)
  · intro h
    have h1 := zc_rp_R hH n hu
    refine (zle_eq (p := fun w => zc_R t n w v) ?_ (h1.trans hH h) (fun w hw q => zle_min (fun w => zc_R t n w u) u w hw (q.trans hH (h.symm hH)))).symm
    have : zc_rp t n u ≤ v := by
      apply Classical.byContradiction
      intro q
      exact zle_min (fun w => zc_R t n w u) u v (by unfold zc_rp at q; omega) (h.symm hH)
    exact this
theorem zc_rp_rp (hH : zc_H t) {n v : Nat} (hv : v < zt_T t) : zc_rp t n (zc_rp t n v) = zc_rp t n v := (zc_rp_eq hH (Nat.lt_of_le_of_lt (zc_rp_le n v) hv) hv).mpr (zc_rp_R hH n hv)
/-- nothing is parted in round n -/
def zc_fix (t : zc_Tb) (n : Nat) : Prop := ∀ v, v < zt_T t → zc_rp t (n + 1) v = zc_rp t n v
theorem zc_fix.R (hH : zc_H t) {n : Nat} (h : zc_fix t n) {u v : Nat} : zc_R t (n + 1) u v ↔ zc_R t n u v := by
  constructor
  · exact fun q => q.1
  · intro q
    have l := q.lt
    rw [← zc_rp_eq hH l.1 l.2.1, h u l.1, h v l.2.1, zc_rp_eq hH l.1 l.2.1]
    exact q
theorem zc_fix.all (hH : zc_H t) {n : Nat} (h : zc_fix t n) (d : Nat) : ∀ u v, zc_R t (n + d) u v ↔ zc_R t n u v := by
  induction d with
  | zero => intro u v; rfl
  | succ d ih =>
    intro u v
    have e : zc_R t (n + d) = zc_R t n := by funext a b; exact propext (ih a b)
    show zc_R t (n + d) u v ∧ zc_hg t (zc_R t (n + d)) u v ↔ _
    rw [e]
    exact h.R hH
theorem zc_fix.uniq (hH : zc_H t) {n m : Nat} (h1 : zc_fix t n) (h2 : zc_fix t m) (v : Nat) : zc_rp t n v = zc_rp t m v := by
  have key : ∀ {a b : Nat}, a ≤ b → zc_fix t a → zc_rp t a v = zc_rp t b v := by
    intro a b hab ha
    obtain ⟨d, rfl⟩ : ∃ d, b = a + d := ⟨b - a, by omega⟩
    unfold zc_rp
    have e : (fun u => zc_R t a u v) = fun u => zc_R t (a + d) u v := by funext u; exact propext (ha.all hH d u v).symm
    rw [e]
  by_cases q : n ≤ m
  · exact key q h1
  · exact (key (by omega) h2).symm
/-- how many classes there are behind n rounds -/
noncomputable def zc_nc (t : zc_Tb) (n : Nat) : Nat := zn (fun v => zp (zc_rp t n v = v)) (zt_T t)
theorem zc_nc_up (hH : zc_H t) {n : Nat} (h : ¬ zc_fix t n) : zc_nc t n < zc_nc t (n + 1) := by
  have : ∃ v, v < zt_T t ∧ zc_rp t (n + 1) v ≠ zc_rp t n v := Classical.byContradiction fun q => h (fun v hv => Classical.byContradiction fun z => q ⟨v, hv, z⟩)
  obtain ⟨v, hv, hne⟩ := this
  have hu : zc_rp t (n + 1) v < zt_T t := Nat.lt_of_le_of_lt (zc_rp_le _ _) hv
  refine zn_lt (fun u hu' q => ?_) hu (zp_f.mpr (fun q => hne ?_)) (zp_t.mpr (zc_rp_rp hH hv))
  · have q := zp_t.mp q
    refine zp_t.mpr (zle_eq (Nat.le_refl _) (zc_R.refl hH _ hu') (fun w hw z => ?_))
    exact zle_min (fun w => zc_R t n w u) u w (by unfold zc_rp at q; omega) z.1
  · rw [← q]
    exact (zc_rp_eq hH hu hv).mpr (zc_rp_R hH (n + 1) hv).1
/-- within so many rounds nothing is parted any more -/
theorem zc_nc_ge (hH : zc_H t) (n : Nat) (h : ∀ m, m < n → ¬ zc_fix t m) : n ≤ zc_nc t n := by
  induction n with
  | zero => exact Nat.zero_le _
  | succ n ih =>
    have := ih (fun m hm => h m (by omega))
    have := zc_nc_up hH (h n (by omega))
    omega
theorem zc_nc_le (n : Nat) : zc_nc t n ≤ zt_T t := zn_le _ _
/-- the CLASS of v -/
noncomputable def zc_K (t : zc_Tb) (v : Nat) : Nat := zc_rp t 300 v
theorem zc_K_fix (hH : zc_H t) {n : Nat} (h : zc_fix t n) (v : Nat) : zc_rp t n v = zc_K t v := by
  refine h.uniq hH ?_ v
  apply Classical.byContradiction
  intro q
  have hex : ∃ m, m ≤ 261 ∧ zc_fix t m := by
    apply Classical.byContradiction
    intro z
    have h1 := zc_nc_ge hH 262 (fun m hm hf => z ⟨m, by omega, hf⟩)
    have h2 := zc_nc_le (t := t) 262
    have h3 := hH.2.2.2.2
    omega
  obtain ⟨m, hm, hf⟩ := hex
  refine q (fun v hv => ?_)
  unfold zc_rp
  have e1 : (fun u => zc_R t (300 + 1) u v) = fun u => zc_R t m u v := by
    funext u; have := hf.all hH (301 - m) u v; rw [show m + (301 - m) = 301 by omega] at this; exact propext this
  have e2 : (fun u => zc_R t 300 u v) = fun u => zc_R t m u v := by
    funext u; have := hf.all hH (300 - m) u v; rw [show m + (300 - m) = 300 by omega] at this; exact propext this
  rw [e1, e2]
end CR
