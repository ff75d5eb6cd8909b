/-! PURE: loops by measure; truth as 0 and 1; the program as the reference's world holds it -/
theorem zf_loop {A R : Type} {L : Nat → A → Option R} {Out : Option R → Prop} {Inv : Nat → A → Prop} (step : ∀ n m a, Inv m a → Out (L (n + 1) a) ∨ ∃ m' a', m' < m ∧ Inv m' a' ∧ L (n + 1) a = L n a') : ∀ n m a, Inv m a → m < n → Out (L n a) := by
  intro n
  induction n with
  | zero => intro m a _ h; omega
  | succ n ih =>
    intro m a hI hm
    rcases step n m a hI with h | ⟨m', a', h1, h2, h3⟩
    · exact h
    · rw [h3]; exact ih m' a' h2 (by omega)
/-- for (i ..; i < N; i++) -/
theorem zf_for {A R : Type} {L : Nat → Int32 → A → Option R} {k : A → Option R} (N : Nat) (Inv : Nat → A → Prop) (fin : ∀ n a, Inv N a → L (n + 1) (nI N) a = k a) (step : ∀ n i a, i < N → Inv i a → ∃ a', Inv (i + 1) a' ∧ L (n + 1) (nI i) a = L n (nI (i + 1)) a') {i : Nat} {a : A} {n : Nat} (hi : i ≤ N) (h : Inv i a) (hn : N - i < n) : ∃ a', Inv N a' ∧ L n (nI i) a = k a' := by
  have := zf_loop (L := fun n (q : Nat × A) => L n (nI q.1) q.2) (Out := fun o => ∃ a', Inv N a' ∧ o = k a') (Inv := fun m q => q.1 ≤ N ∧ m = N - q.1 ∧ Inv q.1 q.2) (fun n m q hq => by
    obtain ⟨h1, h2, h3⟩ := hq
    by_cases hN : q.1 = N
    · left
      refine ⟨q.2, hN ▸ h3, ?_⟩
      show L (n + 1) (nI q.1) q.2 = k q.2
      rw [hN]; exact fin n q.2 (hN ▸ h3)
    · right
      obtain ⟨a', g1, g2⟩ := step n q.1 q.2 (by omega) h3
      exact ⟨N - (q.1 + 1), (q.1 + 1, a'), by omega, ⟨by show q.1 + 1 ≤ N; omega, rfl, g1⟩, g2⟩) n (N - i) (i, a) ⟨hi, rfl, h⟩ hn
  exact this
def zi (b : Bool) : Int32 := if b then 1 else 0
theorem zi_0 {b : Bool} : zi b = 0 ↔ b = false := by cases b <;> simp [zi]
theorem zi_1 {b : Bool} : zi b = 1 ↔ b = true := by cases b <;> simp [zi]
theorem zi_n {b : Bool} : ¬ zi b = 0 ↔ b = true := by cases b <;> simp [zi]
theorem zi_01 (b : Bool) : zi b = 0 ∨ zi b = 1 := by cases b <;> simp [zi]
theorem zi_nar (b : Bool) : vp_nar .boolean (zi b) = zi b := by cases b <;> decide
theorem zi_nar0 : vp_nar .boolean (0 : Int32) = zi false := by decide
theorem zi_nar1 : vp_nar .boolean (1 : Int32) = zi true := by decide
theorem zi_f : zi false = 0 := rfl
theorem zi_t : zi true = 1 := rfl
noncomputable def zp (p : Prop) : Bool := @decide p (Classical.propDecidable p)
theorem zp_t {p : Prop} : zp p = true ↔ p := by unfold zp; exact @decide_eq_true_iff p (Classical.propDecidable p)
theorem zp_f {p : Prop} : zp p = false ↔ ¬ p := by unfold zp; exact @decide_eq_false_iff_not p (Classical.propDecidable p)
theorem zp_c {p q : Prop} (h : p ↔ q) : zp p = zp q := by rw [propext h]
/-! the program, P being a world of the reference's: cells 0 (blocks) and 1 .. 9 -/
def zq_how (P : zx_S) (b : Nat) : Int32 := if P 6 b = 1 then (if P 0 0 ≤ P 8 b then 0 else P 6 b) else if P 6 b = 2 then (if P 0 0 ≤ P 8 b then 0 else if P 9 b < P 0 0 then P 6 b else 0) else P 6 b
def zq_ld (P : zx_S) (nb a b : Nat) : Prop := a < nb ∧ b < nb ∧ ((0 < zq_how P a ∧ P 8 a = nI b) ∨ (zq_how P a = 2 ∧ P 9 a = nI b))
/-- the reference's world s holds the program P -/
def zq_Pg (P s : zx_S) : Prop := s 0 0 = P 0 0 ∧ ∀ c, 1 ≤ c → c ≤ 9 → s c = P c
theorem zq_Pg.at {P s : zx_S} (h : zq_Pg P s) {c : Nat} (h1 : 1 ≤ c) (h2 : c ≤ 9) : s c = P c := h.2 c h1 h2
theorem zq_Pg.su {P s : zx_S} (h : zq_Pg P s) {k i : Nat} {x : Int32} (hk : 10 ≤ k ∨ (k = 0 ∧ i ≠ 0)) : zq_Pg P (zx_su s k i x) := by
  refine ⟨?_, fun c h1 h2 => ?_⟩
  · rw [zs_ne (by omega)]; exact h.1
  · rw [zs_c (by omega)]; exact h.2 c h1 h2
/-- all of the first n together -/
def zt (f : Nat → Nat) : Nat → Nat
  | 0 => 0
  | n + 1 => zt f n + f n
/-- what every told program is -/
def zq_WF (P : zx_S) (nb : Nat) (sz : Nat → Nat) : Prop := P 0 0 = nI nb ∧ nb ≤ 16 ∧ (∀ b, b < nb → P 5 b = nI (sz b) ∧ sz b ≤ 100) ∧
  (∀ b, b < nb → (P 6 b = 0 ∧ ∃ y, y < 10 ∧ P 7 b = nI y) ∨ (P 6 b = 1 ∧ ∃ e, e < 16 ∧ P 8 b = nI e) ∨ (P 6 b = 2 ∧ (∃ y, y < 10 ∧ P 7 b = nI y) ∧ (∃ e, e < 16 ∧ P 8 b = nI e) ∧ ∃ e, e < 16 ∧ P 9 b = nI e)) ∧
  (∀ b k, b < nb → k < sz b → ∃ kd, kd ≤ 14 ∧ P 1 (100 * b + k) = nI kd ∧ (∃ x, x < 10 ∧ P 2 (100 * b + k) = nI x) ∧ (kd = 1 → ∃ y, y < 4 ∧ P 3 (100 * b + k) = nI y) ∧ (2 ≤ kd → kd < 14 → ∃ y, y < 10 ∧ P 3 (100 * b + k) = nI y) ∧ (3 ≤ kd → kd < 14 → ∃ z, z < 10 ∧ P 4 (100 * b + k) = nI z)) ∧ zt sz nb ≤ 100
theorem zM_howOf_eq {P s : zx_S} (h : zq_Pg P s) {b : Nat} (hb : b < 16) : zM_ValueBenchModel_howOf (nI b) s = some (zq_how P b) := by
  unfold zM_ValueBenchModel_howOf zq_how
  simp only [zc_ck hb (by decide), zc_cl (show b < 2 ^ 31 by omega), h.1, h.at (c := 6) (by decide) (by decide), h.at (c := 8) (by decide) (by decide), h.at (c := 9) (by decide) (by decide)]
  by_cases h1 : P 6 b = 1
  · rw [if_pos h1, if_pos h1]
    by_cases h2 : P 0 0 ≤ P 8 b
    · rw [if_pos h2, if_pos h2]
    · have h3 : ¬ P 6 b = 2 := by rw [h1]; decide
      simp only [if_neg h2, if_neg h3]
  · rw [if_neg h1, if_neg h1]
    by_cases h2 : P 6 b = 2
    · rw [if_pos h2, if_pos h2]
      by_cases h3 : P 0 0 ≤ P 8 b
      · rw [if_pos h3, if_pos h3]
      · rw [if_neg h3, if_neg h3]
        by_cases h4 : P 9 b < P 0 0
        · rw [if_pos h4, if_pos h4]
        · rw [if_neg h4, if_neg h4]
    · rw [if_neg h2, if_neg h2]
theorem zq_pos {x : Int32} : ¬ x ≤ 0 ↔ 0 < x := by
  rw [Int32.le_iff_toInt_le, Int32.lt_iff_toInt_lt]; omega
theorem zM_leads_eq {P s : zx_S} (h : zq_Pg P s) {nb a b : Nat} (hnb : nb ≤ 16) (ha' : a < nb) (hb' : b < nb) : zM_ValueBenchModel_leads (nI a) (nI b) s = some (zi (zp (zq_ld P nb a b))) := by
  have ha : a < 16 := by omega
  rw [zp_c (show zq_ld P nb a b ↔ ((0 < zq_how P a ∧ P 8 a = nI b) ∨ (zq_how P a = 2 ∧ P 9 a = nI b)) from ⟨fun q => q.2.2, fun q => ⟨ha', hb', q⟩⟩)]
  unfold zM_ValueBenchModel_leads
  rw [zM_howOf_eq h ha]
  simp only [zc_b1, zc_ck ha (by decide), zc_cl (show a < 2 ^ 31 by omega), h.at (c := 8) (by decide) (by decide), h.at (c := 9) (by decide) (by decide)]
  generalize zq_how P a = r
  by_cases h1 : r ≤ 0
  · have hr : ¬ 0 < r := fun q => (zq_pos.mpr q) h1
    have h2 : ¬ r = 2 := fun e => by rw [e] at h1; exact absurd h1 (by decide)
    rw [if_pos h1, if_neg h2, zp_f.mpr (fun q => by rcases q with q | q; exact hr q.1; exact h2 q.1)]; rfl
  · have hr : 0 < r := zq_pos.mp h1
    rw [if_neg h1]
    by_cases h3 : P 8 a = nI b
    · rw [if_pos h3, zp_t.mpr (Or.inl ⟨hr, h3⟩)]; rfl
    · rw [if_neg h3]
      by_cases h2 : r = 2
      · rw [if_pos h2]
        by_cases h4 : P 9 a = nI b
        · rw [if_pos h4, zp_t.mpr (Or.inr ⟨h2, h4⟩)]; rfl
        · rw [if_neg h4, zp_f.mpr (fun q => by rcases q with q | q; exact h3 q.2; exact h4 q.2)]; rfl
      · rw [if_neg h2, zp_f.mpr (fun q => by rcases q with q | q; exact h3 q.2; exact h2 q.1)]; rfl
