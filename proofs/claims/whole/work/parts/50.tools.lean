/-! PURE: bits of an int, counters, the words of the pure functions -/
def zb (x : Int32) (b : Nat) : Bool := x.toBitVec.getLsbD b
theorem zb_or (x y : Int32) (b : Nat) : zb (x ||| y) b = (zb x b || zb y b) := by simp [zb]
theorem zb_and (x y : Int32) (b : Nat) : zb (x &&& y) b = (zb x b && zb y b) := by simp [zb]
theorem zb_xor (x y : Int32) (b : Nat) : zb (x ^^^ y) b = (zb x b ^^ zb y b) := by simp [zb]
theorem zb_0 (b : Nat) : zb 0 b = false := by simp [zb]
theorem zb_m1 {b : Nat} (h : b < 32) : zb (-1) b = true := by
  have : ∀ b, b < 32 → zb (-1) b = true := by decide
  exact this b h
theorem zb_big (x : Int32) {b : Nat} (h : 32 ≤ b) : zb x b = false := BitVec.getLsbD_of_ge _ _ h
theorem zb_ext {x y : Int32} (h : ∀ b, b < 32 → zb x b = zb y b) : x = y := by
  apply Int32.toBitVec_inj.mp
  apply BitVec.eq_of_getLsbD_eq
  intro i hi
  exact h i hi
theorem zb_not (x : Int32) {b : Nat} (h : b < 32) : zb (x ^^^ (-1 : Int32)) b = !(zb x b) := by
  rw [zb_xor, zb_m1 h]; simp
theorem zb_shl {i b : Nat} (hi : i < 32) : zb ((1 : Int32) <<< (nI i &&& 31)) b = decide (b = i) := by
  by_cases hb : b < 32
  · have : ∀ i, i < 32 → ∀ b, b < 32 → zb ((1 : Int32) <<< (nI i &&& 31)) b = decide (b = i) := by decide +kernel
    exact this i hi b hb
  · rw [zb_big _ (by omega)]
    simp; omega
theorem zb_smod {i : Nat} (hi : i < 32) : (nI i &&& 31).toBitVec.smod 32 = BitVec.ofNat 32 i := by
  have : ∀ i, i < 32 → (nI i &&& 31).toBitVec.smod 32 = BitVec.ofNat 32 i := by decide +kernel
  exact this i hi
theorem zb_shr (x : Int32) {i : Nat} (hi : i < 32) : zb (x >>> (nI i &&& 31)) 0 = zb x i := by
  unfold zb
  rw [Int32.toBitVec_shiftRight, zb_smod hi]
  rw [BitVec.getLsbD_sshiftRight', BitVec.toNat_ofNat, Nat.mod_eq_of_lt (show i < 2 ^ 32 by omega)]
  simp [hi]
theorem zb_one (b : Nat) : zb 1 b = decide (b = 0) := by
  simp [zb]
theorem zb_eq0 {x : Int32} : x = 0 ↔ ∀ b, b < 32 → zb x b = false := by
  constructor
  · rintro rfl b _; exact zb_0 b
  · intro h; exact zb_ext (fun b hb => by rw [h b hb, zb_0])
theorem zb_isin (x : Int32) {i : Nat} (hi : i < 32) : ((x >>> (nI i &&& 31)) &&& (1 : Int32)) = 0 ↔ zb x i = false := by
  rw [zb_eq0]
  constructor
  · intro h
    have := h 0 (by omega)
    rw [zb_and, zb_shr x hi, zb_one] at this
    simpa using this
  · intro h b hb
    rw [zb_and, zb_one]
    by_cases h0 : b = 0
    · subst h0; rw [zb_shr x hi, h]; rfl
    · simp [h0]
theorem zX_isIn_eq (x : Int32) {i : Nat} (hi : i < 32) (s : zx_S) : zX_Graph_isIn x (nI i) s = some (if zb x i then 1 else 0) := by
  unfold zX_Graph_isIn
  by_cases h : zb x i = true
  · rw [if_neg (by rw [zb_isin x hi]; simp [h]), if_pos h]
  · have h : zb x i = false := by simpa using h
    rw [if_pos ((zb_isin x hi).mpr h), h]; rfl
/-! the pure functions' words, reduced -/
theorem zc_lt {α : Type} (x : Int32) (f : Int32 → Option α) : zx_lt x f = f x := rfl
theorem zc_ls {α : Type} (x : zx_S) (f : zx_S → Option α) : zx_ls x f = f x := rfl
theorem zc_b1 {α β : Type} (q : α) (f : α → Option β) : zx_b1 (some q) f = f q := rfl
theorem zc_b2 {α : Type} (x : Int32) (s : zx_S) (f : Int32 → zx_S → Option α) : zx_b2 (some (x, s)) f = f x s := rfl
theorem zc_ck {α : Type} {i N : Nat} (h : i < N) (hN : N < 2 ^ 31) (k : Option α) : zx_ck (nI i) N k = k := if_neg (nI_in h hN)
theorem zc_zr {α : Type} {e : Int32} (h : e = 0 ∨ e = 1) (k : Option α) : zx_zr e k = k := if_pos h
theorem zc_ne {α : Type} {e : Int32} (h : ¬ e = 0) (k : Option α) : zx_ne e k = k := if_neg h
theorem zc_cl {i : Nat} (h : i < 2 ^ 31) : (nI i).toNatClampNeg = i := nI_clamp h
/-! worlds -/
theorem zs_eq (σ : zx_S) (k i : Nat) (x : Int32) : zx_su σ k i x k i = x := by simp [zx_su, zx_uc, upd]
theorem zs_ne {σ : zx_S} {k i c j : Nat} {x : Int32} (h : c ≠ k ∨ j ≠ i) : zx_su σ k i x c j = σ c j := by
  unfold zx_su zx_uc upd
  by_cases hc : c = k
  · subst hc
    have : j ≠ i := h.resolve_left (fun q => q rfl)
    simp [this]
  · simp [hc]
theorem zs_at (σ : zx_S) (k i : Nat) (x : Int32) (c j : Nat) : zx_su σ k i x c j = if c = k ∧ j = i then x else σ c j := by
  by_cases h : c = k ∧ j = i
  · rw [if_pos h, h.1, h.2, zs_eq]
  · rw [if_neg h, zs_ne (by
      by_cases hc : c = k
      · exact Or.inr (fun e => h ⟨hc, e⟩)
      · exact Or.inl hc)]
theorem zs_c {σ : zx_S} {k i c : Nat} {x : Int32} (h : c ≠ k) : zx_su σ k i x c = σ c := by
  funext j; exact zs_ne (Or.inl h)
/-! how many of the first n -/
def zn (f : Nat → Bool) : Nat → Nat
  | 0 => 0
  | n + 1 => zn f n + (if f n then 1 else 0)
theorem zn_le (f : Nat → Bool) (n : Nat) : zn f n ≤ n := by
  induction n with
  | zero => exact Nat.le_refl 0
  | succ n ih => unfold zn; split <;> omega
theorem zn_mono {f g : Nat → Bool} {n : Nat} (h : ∀ i, i < n → f i = true → g i = true) : zn f n ≤ zn g n := by
  induction n with
  | zero => exact Nat.le_refl 0
  | succ n ih =>
    have := ih (fun i hi => h i (by omega))
    have h2 := h n (by omega)
    unfold zn
    by_cases hf : f n = true
    · rw [if_pos hf, if_pos (h2 hf)]; omega
    · rw [if_neg hf]; omega
theorem zn_lt {f g : Nat → Bool} {n : Nat} (h : ∀ i, i < n → f i = true → g i = true) {j : Nat} (hj : j < n) (h1 : f j = false) (h2 : g j = true) : zn f n < zn g n := by
  induction n with
  | zero => omega
  | succ n ih =>
    unfold zn
    by_cases hjn : j = n
    · subst hjn
      have := zn_mono (n := j) (fun i hi => h i (by omega))
      rw [h1, h2]; simp; omega
    · have := ih (fun i hi => h i (by omega)) (by omega)
      have h3 := h n (by omega)
      by_cases hf : f n = true
      · rw [if_pos hf, if_pos (h3 hf)]; omega
      · rw [if_neg hf]; split <;> omega
theorem zn_all {f : Nat → Bool} {n : Nat} (h : n ≤ zn f n) : ∀ i, i < n → f i = true := by
  intro i hi
  by_cases hf : f i = true
  · exact hf
  · have h1 := zn_lt (f := f) (g := fun _ => true) (n := n) (fun _ _ _ => rfl) hi (by simpa using hf) rfl
    have h2 := zn_le (fun _ => true) n
    omega
theorem zn_congr {f g : Nat → Bool} {n : Nat} (h : ∀ i, i < n → f i = g i) : zn f n = zn g n := by
  induction n with
  | zero => rfl
  | succ n ih => unfold zn; rw [ih (fun i hi => h i (by omega)), h n (by omega)]
