/-! PURE: RUN: which OPERAND a way takes -/
section RF
variable {P : zx_S} {nb : Nat}
theorem zn_stop {f : Nat → Bool} {a : Nat} (h : ∀ i, a ≤ i → f i = false) : ∀ d, zn f (a + d) = zn f a := by
  intro d
  induction d with
  | zero => rfl
  | succ d ih => rw [← Nat.add_assoc, zn_step, h (a + d) (by omega), ih]; rfl
theorem zq_np_16 (hnb : nb ≤ 16) {x : Int32} {b : Nat} (h : ∀ p, zb x p = true ↔ zq_pr P nb b p) : zn (zb x) 16 = zq_np P nb b nb := by
  have e : zb x = fun p => zp (zq_pr P nb b p) := by
    funext p
    by_cases c : zq_pr P nb b p
    · rw [(h p).mpr c, zp_t.mpr c]
    · rw [zp_f.mpr c]
      cases q : zb x p with
      | false => rfl
      | true => exact absurd ((h p).mp q) c
  unfold zq_np
  rw [e]
  have := zn_stop (f := fun p => zp (zq_pr P nb b p)) (a := nb) (fun i hi => zp_f.mpr (fun z => by have := z.1.1; omega)) (16 - nb)
  rwa [show nb + (16 - nb) = 16 by omega] at this
theorem zb_low0 : ∀ p, p < 16 → ((1 : Int32) <<< (nI p &&& 31)) - 1 = nI (2 ^ p - 1) := by decide
theorem zb_low {p i : Nat} (hp : p < 16) (hi : i < 32) : zb (((1 : Int32) <<< (nI p &&& 31)) - 1) i = decide (i < p) := by
  rw [zb_low0 p hp]
  show (BitVec.ofNat 32 (2 ^ p - 1)).getLsbD i = _
  rw [BitVec.getLsbD_ofNat, Nat.testBit_two_pow_sub_one]
  simp; omega
theorem zX_placeIn_eq {x : Int32} {b : Nat} (hx : zx_sm x) (h : ∀ p, zb x p = true ↔ zq_pr P nb b p) {p : Nat} (hp : p < 16) {s : zx_S} : zX_Graph_placeIn x (nI p) s = some (nI (zq_np P nb b p)) := by
  unfold zX_Graph_placeIn
  have sm : zx_sm (x &&& (((1 : Int32) <<< (nI p &&& 31)) - 1)) := fun i hi => by rw [zb_and, hx i hi]; rfl
  rw [zX_bitCount_eq sm, zc_b1]
  have st := zn_stop (f := zb (x &&& (((1 : Int32) <<< (nI p &&& 31)) - 1))) (a := p) (fun i hi => by
    rw [zb_and]
    by_cases c : i < 32
    · rw [zb_low hp c, decide_eq_false (by omega)]; exact Bool.and_false _
    · rw [zb_big x (by omega)]; rfl) (16 - p)
  rw [show p + (16 - p) = 16 by omega] at st
  rw [st]
  unfold zq_np
  congr 2
  apply zn_congr
  intro i hi
  rw [zb_and, zb_low hp (by omega), decide_eq_true hi, Bool.and_true]
  by_cases c : zq_pr P nb b i
  · rw [(h i).mpr c, zp_t.mpr c]
  · rw [zp_f.mpr c]
    cases q : zb x i with
    | false => rfl
    | true => exact absurd ((h i).mp q) c
end RF
