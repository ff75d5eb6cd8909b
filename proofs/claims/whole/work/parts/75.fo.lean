/-! PURE: where OPERANDS stand in one row: how many there are at most -/
theorem zt_step (f : Nat → Nat) (n : Nat) : zt f (n + 1) = zt f n + f n := rfl
theorem zt_le {f : Nat → Nat} {a c : Nat} : ∀ m, (∀ i, a ≤ i → i < a + m → f i ≤ c) → zt f (a + m) ≤ zt f a + m * c := by
  intro m
  induction m with
  | zero => intro _; show zt f a ≤ _; omega
  | succ m ih =>
    intro h
    have h1 := ih (fun i h1 h2 => h i h1 (by omega))
    have h2 := h (a + m) (by omega) (by omega)
    show zt f (a + m) + f (a + m) ≤ _
    rw [Nat.succ_mul]; omega
theorem zt_add (f g : Nat → Nat) (n : Nat) : zt (fun i => f i + g i) n = zt f n + zt g n := by
  induction n with
  | zero => rfl
  | succ n ih => rw [zt_step, zt_step, zt_step, ih]; omega
theorem zt_zn (g : Nat → Bool) (n : Nat) : zt (fun i => if g i then 1 else 0) n = zn g n := by
  induction n with
  | zero => rfl
  | succ n ih => rw [zt_step, zn_step, ih]
theorem zt_swap (g : Nat → Nat → Bool) (n m : Nat) : zt (fun b => zn (g b) m) n = zt (fun p => zn (fun b => g b p) n) m := by
  induction m with
  | zero =>
    show zt (fun _ => 0) n = 0
    have := zt_le (f := fun _ => 0) (a := 0) (c := 0) n (fun _ _ _ => Nat.le_refl _)
    rw [Nat.zero_add] at this
    have e : zt (fun _ => 0) 0 = 0 := rfl
    omega
  | succ m ih =>
    rw [zt_step, ← ih, ← zt_zn (fun b => g b m), ← zt_add]
    rfl
theorem zn_two {f : Nat → Bool} {a c : Nat} (h : ∀ i, f i = true → i = a ∨ i = c) (n : Nat) : zn f n ≤ (if a < n then 1 else 0) + (if c < n then 1 else 0) := by
  induction n with
  | zero => exact Nat.zero_le _
  | succ n ih =>
    rw [zn_step]
    have ha : (if a < n then 1 else 0) ≤ (if a < n + 1 then 1 else 0) := by split <;> split <;> omega
    have hc : (if c < n then 1 else 0) ≤ (if c < n + 1 then 1 else 0) := by split <;> split <;> omega
    by_cases q : f n = true
    · rw [if_pos q]
      rcases h n q with e | e
      · have h1 : (if a < n then 1 else 0) = 0 := if_neg (by omega)
        have h2 : (if a < n + 1 then 1 else 0) = 1 := if_pos (by omega)
        omega
      · have h1 : (if c < n then 1 else 0) = 0 := if_neg (by omega)
        have h2 : (if c < n + 1 then 1 else 0) = 1 := if_pos (by omega)
        omega
    · rw [if_neg q]; omega
section FO
variable {P : zx_S} {nb : Nat} {sz : Nat → Nat} {t : zc_Tb}
theorem zq_inC {i b : Nat} (hr : zq_rc P nb b) (h1 : zq_st P nb sz b ≤ i) (h2 : i < zq_st P nb sz b + zq_cb P nb sz b) : ∃ v, zq_isC P nb sz i b v := by
  obtain ⟨v, g1, g2, g3⟩ := zn_surj (f := zq_hc P nb sz b) (i := i - zq_st P nb sz b) (n := 10) (by unfold zq_cb at h2; omega)
  exact ⟨v, hr, g1, zp_t.mp g2, by unfold zq_ic; omega⟩
theorem zq_inN {i b : Nat} (hr : zq_rc P nb b) (h1 : zq_st P nb sz b + zq_cb P nb sz b ≤ i) (h2 : i < zq_st P nb sz b + zq_cb P nb sz b + zq_ib P sz b) : ∃ k, zq_isN P nb sz i b k := by
  obtain ⟨k, g1, g2, g3⟩ := zn_surj (f := zq_iv P b) (i := i - (zq_st P nb sz b + zq_cb P nb sz b)) (n := sz b) (by unfold zq_ib at h2; omega)
  exact ⟨k, hr, g1, g2, by unfold zq_ii; omega⟩
theorem zq_preds (hnb : nb ≤ 16) : zt (fun b => zq_np P nb b nb) nb ≤ 2 * nb := by
  unfold zq_np
  rw [zt_swap (fun b p => zp (zq_pr P nb b p))]
  have := zt_le (f := fun p => zn (fun b => zp (zq_pr P nb b p)) nb) (a := 0) (c := 2) nb (fun p _ _ => by
    have := zn_two (f := fun b => zp (zq_pr P nb b p)) (a := (P 8 p).toNatClampNeg) (c := (P 9 p).toNatClampNeg) (fun i hi => by
      have hl := (zp_t.mp hi).2
      have hlt := hl.2.1
      rcases hl.2.2 with q | q
      · left; rw [q.2, nI_clamp (by omega)]
      · right; rw [q.2, nI_clamp (by omega)]) nb
    refine Nat.le_trans this ?_
    split <;> split <;> omega)
  rw [Nat.zero_add] at this
  have e : zt (fun p => zn (fun b => zp (zq_pr P nb b p)) nb) 0 = 0 := rfl
  omega
theorem zq_no_sum (n : Nat) : zt (zq_no P nb) n = zt (fun b => zq_np P nb b nb) n + (if n = 0 then 0 else 1) := by
  induction n with
  | zero => rfl
  | succ n ih =>
    rw [zt_step, zt_step, ih, if_neg (show ¬ n + 1 = 0 by omega)]
    unfold zq_no
    by_cases q : n = 0
    · rw [if_pos q, if_pos q]; omega
    · rw [if_neg q, if_neg q]; omega
theorem zq_Tab.fo (h : zq_Tab P nb sz t) : ∀ n, n ≤ nb → zt (zt_c t) (zq_st P nb sz n) ≤ 10 * zt (zq_no P nb) n + 2 * zt sz n := by
  intro n
  induction n with
  | zero =>
    intro _
    show zt (zt_c t) 0 + zt_c t 0 ≤ _
    rw [h.2.1.2.2.2]
    have e : zt (zt_c t) 0 = 0 := rfl
    omega
  | succ n ih =>
    intro hn
    have ih := ih (by omega)
    rw [zt_step, zt_step sz]
    by_cases hr : zq_rc P nb n
    · rw [zq_bz_rc hr, ← Nat.add_assoc]
      have h1 := zt_le (f := zt_c t) (a := zq_st P nb sz n) (c := zq_no P nb n) (zq_cb P nb sz n) (fun i h1 h2 => by
        obtain ⟨v, hv⟩ := zq_inC hr h1 h2
        exact Nat.le_of_eq (h.2.2.1 i n v hv).2.2.2.1)
      have h2 := zt_le (f := zt_c t) (a := zq_st P nb sz n + zq_cb P nb sz n) (c := 2) (zq_ib P sz n) (fun i h1 h2 => by
        obtain ⟨k, hk⟩ := zq_inN hr h1 h2
        rw [(h.2.2.2 i n k hk).2.2.2.1]
        split <;> omega)
      have h3 : zq_cb P nb sz n * zq_no P nb n ≤ 10 * zq_no P nb n := Nat.mul_le_mul_right _ (zn_le _ _)
      have h4 : zq_ib P sz n ≤ sz n := zn_le _ _
      omega
    · rw [zq_bz_no hr]; omega
theorem zq_Tab.fo530 (hW : zq_WF P nb sz) (h : zq_Tab P nb sz t) : zt (zt_c t) (zt_T t) ≤ 530 := by
  rw [h.1]
  have h1 := h.fo nb (Nat.le_refl _)
  have h2 := zq_preds (P := P) hW.2.1
  have h3 := zq_no_sum (P := P) (nb := nb) nb
  have h4 := hW.2.2.2.2.2
  have h5 := hW.2.1
  have h6 : (if nb = 0 then 0 else 1) ≤ 1 := by split <;> omega
  omega
/-- an OPERAND stands in the row -/
theorem zq_Tab.foj (hW : zq_WF P nb sz) (h : zq_Tab P nb sz t) {i j : Nat} (hi : i < zt_T t) (hj : j < zt_c t i) : zt (zt_c t) i + j < 530 := by
  have h1 := h.fo530 hW
  have h2 := zt_up (f := zt_c t) (show i + 1 ≤ zt_T t from hi)
  rw [zt_step] at h2
  omega
/-- and no other stands there -/
theorem zq_fo_ne {i j i' j' : Nat} (hj : j < zt_c t i) (hj' : j' < zt_c t i') (hne : i ≠ i') : zt (zt_c t) i + j ≠ zt (zt_c t) i' + j' := by
  rcases Nat.lt_or_ge i i' with q | q
  · have := zt_up (f := zt_c t) (show i + 1 ≤ i' from q)
    rw [zt_step] at this; omega
  · have := zt_up (f := zt_c t) (show i' + 1 ≤ i by omega)
    rw [zt_step] at this; omega
end FO
