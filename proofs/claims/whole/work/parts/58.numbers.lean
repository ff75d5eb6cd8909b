/-! PURE: how VALUES are numbered -/
theorem zn_step (f : Nat → Bool) (n : Nat) : zn f (n + 1) = zn f n + (if f n then 1 else 0) := rfl
theorem zn_up {f : Nat → Bool} {a b : Nat} (h : a ≤ b) : zn f a ≤ zn f b := by
  induction b with
  | zero => have : a = 0 := by omega
            rw [this]; exact Nat.le_refl _
  | succ b ih =>
    by_cases e : a = b + 1
    · rw [e]; exact Nat.le_refl _
    · rw [zn_step]; have := ih (by omega); omega
theorem zn_in {f : Nat → Bool} {j n : Nat} (hj : j < n) (h : f j = true) : zn f j < zn f n := by
  have h1 := zn_up (f := f) (show j + 1 ≤ n from hj)
  rw [zn_step, if_pos h] at h1
  omega
theorem zn_inj {f : Nat → Bool} {a b : Nat} (ha : f a = true) (hb : f b = true) (h : zn f a = zn f b) : a = b := by
  rcases Nat.lt_trichotomy a b with q | q | q
  · have := zn_in q ha; omega
  · exact q
  · have := zn_in q hb; omega
theorem zn_surj {f : Nat → Bool} {i n : Nat} (h : i < zn f n) : ∃ j, j < n ∧ f j = true ∧ zn f j = i := by
  induction n with
  | zero => exact absurd h (Nat.not_lt_zero _)
  | succ n ih =>
    rw [zn_step] at h
    by_cases hf : f n = true
    · rw [if_pos hf] at h
      by_cases e : i = zn f n
      · exact ⟨n, by omega, hf, e.symm⟩
      · obtain ⟨j, h1, h2⟩ := ih (by omega)
        exact ⟨j, by omega, h2⟩
    · rw [if_neg hf] at h
      obtain ⟨j, h1, h2⟩ := ih (by omega)
      exact ⟨j, by omega, h2⟩
section NU
variable (P : zx_S) (nb : Nat) (sz : Nat → Nat)
noncomputable def zq_hc (b v : Nat) : Bool := zp (zq_HC P nb sz v b)
def zq_iv (b k : Nat) : Bool := decide (¬ P 1 (100 * b + k) = 2 ∧ ¬ P 1 (100 * b + k) = 14)
noncomputable def zq_cb (b : Nat) : Nat := zn (zq_hc P nb sz b) 10
def zq_ib (b : Nat) : Nat := zn (zq_iv P b) (sz b)
noncomputable def zq_bz (b : Nat) : Nat := if zp (zq_rc P nb b) then zq_cb P nb sz b + zq_ib P sz b else 0
noncomputable def zq_st : Nat → Nat
  | 0 => 1
  | b + 1 => zq_st b + zq_bz P nb sz b
noncomputable def zq_ic (b v : Nat) : Nat := zq_st P nb sz b + zn (zq_hc P nb sz b) v
noncomputable def zq_ii (b k : Nat) : Nat := zq_st P nb sz b + zq_cb P nb sz b + zn (zq_iv P b) k
/-- VALUE i is the CHOICE of v in b; the INSTRUCTION k of b -/
def zq_isC (i b v : Nat) : Prop := zq_rc P nb b ∧ v < 10 ∧ zq_HC P nb sz v b ∧ i = zq_ic P nb sz b v
def zq_isN (i b k : Nat) : Prop := zq_rc P nb b ∧ k < sz b ∧ zq_iv P b k = true ∧ i = zq_ii P nb sz b k
end NU
section NV
variable {P : zx_S} {nb : Nat} {sz : Nat → Nat}
theorem zq_st_up {a b : Nat} (h : a ≤ b) : zq_st P nb sz a ≤ zq_st P nb sz b := by
  induction b with
  | zero => have : a = 0 := by omega
            rw [this]; exact Nat.le_refl _
  | succ b ih =>
    by_cases e : a = b + 1
    · rw [e]; exact Nat.le_refl _
    · have := ih (by omega)
      show _ ≤ zq_st P nb sz b + zq_bz P nb sz b
      omega
theorem zq_bz_rc {b : Nat} (h : zq_rc P nb b) : zq_st P nb sz (b + 1) = zq_st P nb sz b + (zq_cb P nb sz b + zq_ib P sz b) := by
  show zq_st P nb sz b + zq_bz P nb sz b = _
  rw [zq_bz, if_pos (zp_t.mpr h)]
theorem zq_bz_no {b : Nat} (h : ¬ zq_rc P nb b) : zq_st P nb sz (b + 1) = zq_st P nb sz b := by
  show zq_st P nb sz b + zq_bz P nb sz b = _
  rw [zq_bz, if_neg (by rw [zp_t]; exact h)]; rfl
theorem zq_isC.lt {i b v : Nat} (h : zq_isC P nb sz i b v) : zq_st P nb sz b ≤ i ∧ i < zq_st P nb sz b + zq_cb P nb sz b := by
  obtain ⟨h1, h2, h3, rfl⟩ := h
  have : zn (zq_hc P nb sz b) v < zq_cb P nb sz b := zn_in h2 (zp_t.mpr h3)
  unfold zq_ic
  omega
theorem zq_isN.lt {i b k : Nat} (h : zq_isN P nb sz i b k) : zq_st P nb sz b + zq_cb P nb sz b ≤ i ∧ i < zq_st P nb sz (b + 1) := by
  obtain ⟨h1, h2, h3, rfl⟩ := h
  have : zn (zq_iv P b) k < zq_ib P sz b := zn_in h2 h3
  rw [zq_bz_rc h1]
  unfold zq_ii
  omega
theorem zq_isC.lt' {i b v : Nat} (h : zq_isC P nb sz i b v) : i < zq_st P nb sz (b + 1) := by
  have := h.lt
  rw [zq_bz_rc h.1]; omega
theorem zq_same_b {i b b' : Nat} (h1 : zq_st P nb sz b ≤ i) (h2 : i < zq_st P nb sz (b + 1)) (h3 : zq_st P nb sz b' ≤ i) (h4 : i < zq_st P nb sz (b' + 1)) : b = b' := by
  rcases Nat.lt_trichotomy b b' with q | q | q
  · have := zq_st_up (P := P) (nb := nb) (sz := sz) (show b + 1 ≤ b' from q); omega
  · exact q
  · have := zq_st_up (P := P) (nb := nb) (sz := sz) (show b' + 1 ≤ b from q); omega
theorem zq_isC.uniq {i b v b' v' : Nat} (h : zq_isC P nb sz i b v) (h' : zq_isC P nb sz i b' v') : b = b' ∧ v = v' := by
  have e := zq_same_b h.lt.1 h.lt' h'.lt.1 h'.lt'
  subst e
  refine ⟨rfl, zn_inj (f := zq_hc P nb sz b) (zp_t.mpr h.2.2.1) (zp_t.mpr h'.2.2.1) ?_⟩
  have := h.2.2.2.symm.trans h'.2.2.2
  unfold zq_ic at this
  omega
theorem zq_isN.uniq {i b k b' k' : Nat} (h : zq_isN P nb sz i b k) (h' : zq_isN P nb sz i b' k') : b = b' ∧ k = k' := by
  have g := h.lt
  have g' := h'.lt
  have e := zq_same_b (P := P) (nb := nb) (sz := sz) (i := i) (b := b) (b' := b') (by omega) g.2 (by omega) g'.2
  subst e
  refine ⟨rfl, zn_inj (f := zq_iv P b) h.2.2.1 h'.2.2.1 ?_⟩
  have := h.2.2.2.symm.trans h'.2.2.2
  unfold zq_ii at this
  omega
theorem zq_isCN {i b v b' k' : Nat} (h : zq_isC P nb sz i b v) (h' : zq_isN P nb sz i b' k') : False := by
  have g' := h'.lt
  have e := zq_same_b (P := P) (nb := nb) (sz := sz) (i := i) h.lt.1 h.lt' (b' := b') (by omega) g'.2
  subst e
  have := h.lt
  omega
/-- every number below the total is ZERO, a CHOICE or an INSTRUCTION -/
theorem zq_surj {i : Nat} (n : Nat) (h : i < zq_st P nb sz n) : i = 0 ∨ (∃ b v, b < n ∧ zq_isC P nb sz i b v) ∨ ∃ b k, b < n ∧ zq_isN P nb sz i b k := by
  induction n with
  | zero => left; have : zq_st P nb sz 0 = 1 := rfl; omega
  | succ n ih =>
    by_cases hr : zq_rc P nb n
    · rw [zq_bz_rc hr] at h
      by_cases h1 : i < zq_st P nb sz n
      · rcases ih h1 with q | ⟨b, v, q1, q2⟩ | ⟨b, k, q1, q2⟩
        · exact Or.inl q
        · exact Or.inr (Or.inl ⟨b, v, by omega, q2⟩)
        · exact Or.inr (Or.inr ⟨b, k, by omega, q2⟩)
      · by_cases h2 : i < zq_st P nb sz n + zq_cb P nb sz n
        · obtain ⟨v, g1, g2, g3⟩ := zn_surj (f := zq_hc P nb sz n) (i := i - zq_st P nb sz n) (n := 10) (by unfold zq_cb at h2; omega)
          exact Or.inr (Or.inl ⟨n, v, by omega, hr, g1, zp_t.mp g2, by unfold zq_ic; omega⟩)
        · obtain ⟨k, g1, g2, g3⟩ := zn_surj (f := zq_iv P n) (i := i - (zq_st P nb sz n + zq_cb P nb sz n)) (n := sz n) (by unfold zq_ib at h; omega)
          exact Or.inr (Or.inr ⟨n, k, by omega, hr, g1, g2, by unfold zq_ii; omega⟩)
    · rw [zq_bz_no hr] at h
      rcases ih h with q | ⟨b, v, q1, q2⟩ | ⟨b, k, q1, q2⟩
      · exact Or.inl q
      · exact Or.inr (Or.inl ⟨b, v, by omega, q2⟩)
      · exact Or.inr (Or.inr ⟨b, k, by omega, q2⟩)
theorem zq_st_pos (b : Nat) : 1 ≤ zq_st P nb sz b := zq_st_up (Nat.zero_le b)
theorem zq_st_le (b : Nat) : zq_st P nb sz b ≤ 1 + 10 * b + zt sz b := by
  induction b with
  | zero => exact Nat.le_refl _
  | succ b ih =>
    by_cases hr : zq_rc P nb b
    · rw [zq_bz_rc hr]
      have h1 : zq_cb P nb sz b ≤ 10 := zn_le _ _
      have h2 : zq_ib P sz b ≤ sz b := zn_le _ _
      show _ ≤ 1 + 10 * (b + 1) + (zt sz b + sz b)
      omega
    · rw [zq_bz_no hr]
      show _ ≤ 1 + 10 * (b + 1) + (zt sz b + sz b)
      omega
theorem zt_up {f : Nat → Nat} {a b : Nat} (h : a ≤ b) : zt f a ≤ zt f b := by
  induction b with
  | zero => have : a = 0 := by omega
            rw [this]; exact Nat.le_refl _
  | succ b ih =>
    by_cases e : a = b + 1
    · rw [e]; exact Nat.le_refl _
    · have := ih (by omega)
      show _ ≤ zt f b + f b
      omega
theorem zq_st_261 (hW : zq_WF P nb sz) {b : Nat} (hb : b ≤ nb) : zq_st P nb sz b ≤ 261 := by
  have h1 := zq_st_le (P := P) (nb := nb) (sz := sz) b
  have h2 := zt_up (f := sz) hb
  have h3 := hW.2.2.2.2.2
  have h4 := hW.2.1
  omega
/-- what the rows kind, block, variable, number say of the VALUES below t -/
def zv_T (P : zx_S) (nb : Nat) (sz : Nat → Nat) (t : Nat) (s : zx_S) (c0 c1 c2 c3 : Nat) : Prop :=
  (0 < t → s c0 0 = 0 ∧ s c1 0 = 0 ∧ s c2 0 = -1 ∧ s c3 0 = 0) ∧
  (∀ i b v, i < t → zq_isC P nb sz i b v → s c0 i = 15 ∧ s c1 i = nI b ∧ s c2 i = nI v ∧ s c3 i = -1) ∧
  (∀ i b k, i < t → zq_isN P nb sz i b k → s c0 i = P 1 (100 * b + k) ∧ s c1 i = nI b ∧ s c2 i = P 2 (100 * b + k) ∧ s c3 i = if 2 ≤ P 1 (100 * b + k) then -1 else P 3 (100 * b + k))
theorem zv_T.keep {t : Nat} {s s' : zx_S} {c0 c1 c2 c3 : Nat} (h : zv_T P nb sz t s c0 c1 c2 c3) (hk : ∀ c i, c = c0 ∨ c = c1 ∨ c = c2 ∨ c = c3 → i < t → s' c i = s c i) : zv_T P nb sz t s' c0 c1 c2 c3 := by
  refine ⟨fun ht => ?_, fun i b v hi hc => ?_, fun i b k hi hc => ?_⟩
  · rw [hk c0 0 (by simp) ht, hk c1 0 (by simp) ht, hk c2 0 (by simp) ht, hk c3 0 (by simp) ht]; exact h.1 ht
  · rw [hk c0 i (by simp) hi, hk c1 i (by simp) hi, hk c2 i (by simp) hi, hk c3 i (by simp) hi]; exact h.2.1 i b v hi hc
  · rw [hk c0 i (by simp) hi, hk c1 i (by simp) hi, hk c2 i (by simp) hi, hk c3 i (by simp) hi]; exact h.2.2 i b k hi hc
theorem zv_T.addC {t : Nat} {s : zx_S} {c0 c1 c2 c3 b v : Nat} (h : zv_T P nb sz t s c0 c1 c2 c3) (ht : 0 < t) (hc : zq_isC P nb sz t b v) (e : s c0 t = 15 ∧ s c1 t = nI b ∧ s c2 t = nI v ∧ s c3 t = -1) : zv_T P nb sz (t + 1) s c0 c1 c2 c3 := by
  refine ⟨fun _ => h.1 ht, fun i b' v' hi hc' => ?_, fun i b' k' hi hc' => ?_⟩
  · by_cases q : i = t
    · subst q
      obtain ⟨e1, e2⟩ := hc.uniq hc'
      rw [← e1, ← e2]; exact e
    · exact h.2.1 i b' v' (by omega) hc'
  · by_cases q : i = t
    · subst q; exact absurd hc' (fun z => zq_isCN hc z)
    · exact h.2.2 i b' k' (by omega) hc'
theorem zv_T.addN {t : Nat} {s : zx_S} {c0 c1 c2 c3 b k : Nat} (h : zv_T P nb sz t s c0 c1 c2 c3) (ht : 0 < t) (hc : zq_isN P nb sz t b k) (e : s c0 t = P 1 (100 * b + k) ∧ s c1 t = nI b ∧ s c2 t = P 2 (100 * b + k) ∧ s c3 t = if 2 ≤ P 1 (100 * b + k) then -1 else P 3 (100 * b + k)) : zv_T P nb sz (t + 1) s c0 c1 c2 c3 := by
  refine ⟨fun _ => h.1 ht, fun i b' v' hi hc' => ?_, fun i b' k' hi hc' => ?_⟩
  · by_cases q : i = t
    · subst q; exact absurd hc (fun z => zq_isCN hc' z)
    · exact h.2.1 i b' v' (by omega) hc'
  · by_cases q : i = t
    · subst q
      obtain ⟨e1, e2⟩ := hc.uniq hc'
      rw [← e1, ← e2]; exact e
    · exact h.2.2 i b' k' (by omega) hc'
end NV
