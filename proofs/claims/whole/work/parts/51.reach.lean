/-! PURE: reached ones, dominance: over any relation ld on numbers; 'avoiding w' (w beyond all: none) -/
/-- the least set with 0 (if w is not 0) that is closed under ld, never w -/
def zq_RA (ld : Nat → Nat → Prop) (w b : Nat) : Prop := ∀ S : Nat → Prop, (w ≠ 0 → S 0) → (∀ a c, S a → ld a c → c ≠ w → S c) → S b
theorem zq_RA.zero {ld : Nat → Nat → Prop} {w : Nat} (h : w ≠ 0) : zq_RA ld w 0 := fun _ h0 _ => h0 h
theorem zq_RA.step {ld : Nat → Nat → Prop} {w a c : Nat} (h : zq_RA ld w a) (hl : ld a c) (hc : c ≠ w) : zq_RA ld w c := fun S h0 h1 => h1 a c (h S h0 h1) hl hc
theorem zq_RA.ne {ld : Nat → Nat → Prop} {w b : Nat} (h : zq_RA ld w b) : b ≠ w := h (fun x => x ≠ w) (fun q => fun e => q e.symm) (fun _ _ _ _ hc => hc)
theorem zq_RA.any {ld : Nat → Nat → Prop} {w b W : Nat} (h : zq_RA ld w b) (hW : zq_RA ld W 0) (hN : ∀ a c, ld a c → c ≠ W) : zq_RA ld W b := h (fun x => zq_RA ld W x) (fun _ => hW) (fun a c ha hl _ => ha.step hl (hN a c hl))
/-- every way to b goes through a -/
def zq_dom (ld : Nat → Nat → Prop) (W a b : Nat) : Prop := zq_RA ld W b ∧ ¬ zq_RA ld a b
section ZQ
variable {ld : Nat → Nat → Prop} {W : Nat}
theorem zq_dom.refl {b : Nat} (h : zq_RA ld W b) : zq_dom ld W b b := ⟨h, fun q => q.ne rfl⟩
/-- where a isn't reached, it dominates nothing -/
theorem zq_dom.left {a b : Nat} (h : zq_dom ld W a b) : zq_RA ld W a := by
  apply Classical.byContradiction
  intro na
  refine h.2 (h.1 (fun x => zq_RA ld W x ∧ zq_RA ld a x) (fun q => ⟨zq_RA.zero q, zq_RA.zero (fun e => na (e ▸ zq_RA.zero q))⟩) (fun x y hx hl hy => ?_)).2
  have h1 := hx.1.step hl hy
  exact ⟨h1, hx.2.step hl (fun e => na (e ▸ h1))⟩
theorem zq_dom.trans {a b c : Nat} (h1 : zq_dom ld W a b) (h2 : zq_dom ld W b c) : zq_dom ld W a c := by
  refine ⟨h2.1, fun q => ?_⟩
  have key := q (fun x => zq_RA ld a x ∧ (zq_RA ld a b ∨ zq_RA ld b x)) (fun h0 => ⟨zq_RA.zero h0, by
    by_cases hb : b = 0
    · exact Or.inl (hb ▸ zq_RA.zero h0)
    · exact Or.inr (zq_RA.zero hb)⟩) (fun x y hx hl hy => ⟨hx.1.step hl hy, by
    rcases hx.2 with h | h
    · exact Or.inl h
    · by_cases hb : y = b
      · exact Or.inl (hb ▸ hx.1.step hl hy)
      · exact Or.inr (h.step hl hb)⟩)
  rcases key.2 with h | h
  · exact h1.2 h
  · exact h2.2 h
theorem zq_dom.anti {a b : Nat} (h1 : zq_dom ld W a b) (h2 : zq_dom ld W b a) : a = b := by
  apply Classical.byContradiction
  intro hne
  have key := h2.1 (fun x => (zq_RA ld a x ∧ zq_RA ld b x) ∨ zq_RA ld b a ∨ zq_RA ld a b) (fun _ => by
    by_cases ha : a = 0
    · exact Or.inr (Or.inl (ha ▸ zq_RA.zero (fun e => hne (ha.trans e.symm))))
    · by_cases hb : b = 0
      · exact Or.inr (Or.inr (hb ▸ zq_RA.zero ha))
      · exact Or.inl ⟨zq_RA.zero ha, zq_RA.zero hb⟩) (fun x y hx hl _ => by
    rcases hx with ⟨g1, g2⟩ | h
    · by_cases ha : y = a
      · exact Or.inr (Or.inl (ha ▸ g2.step hl (fun e => hne (ha.symm.trans e))))
      · by_cases hb : y = b
        · exact Or.inr (Or.inr (hb ▸ g1.step hl ha))
        · exact Or.inl ⟨g1.step hl ha, g2.step hl hb⟩
    · exact Or.inr h)
  rcases key with ⟨g1, -⟩ | h | h
  · exact g1.ne rfl
  · exact h2.2 h
  · exact h1.2 h
/-- two that dominate one: one dominates the other -/
theorem zq_dom.chain {a b c : Nat} (h1 : zq_dom ld W a c) (h2 : zq_dom ld W b c) : zq_dom ld W a b ∨ zq_dom ld W b a := by
  apply Classical.byContradiction
  intro hno
  have ra := zq_dom.left h1
  have rb := zq_dom.left h2
  have n1 : zq_RA ld a b := Classical.byContradiction fun q => hno (Or.inl ⟨rb, q⟩)
  have n2 : zq_RA ld b a := Classical.byContradiction fun q => hno (Or.inr ⟨ra, q⟩)
  have key := h1.1 (fun x => zq_RA ld W x ∧ (zq_RA ld a x ∨ zq_RA ld b x)) (fun q => ⟨zq_RA.zero q, by
    by_cases ha : a = 0
    · exact Or.inr (zq_RA.zero (fun e => n1.ne (e.trans ha.symm)))
    · exact Or.inl (zq_RA.zero ha)⟩) (fun x y hx hl hy => ⟨hx.1.step hl hy, by
    by_cases ha : y = a
    · exact Or.inr (ha ▸ n2)
    · by_cases hb : y = b
      · exact Or.inl (hb ▸ n1)
      · rcases hx.2 with h | h
        · exact Or.inl (h.step hl ha)
        · exact Or.inr (h.step hl hb)⟩)
  rcases key.2 with h | h
  · exact h1.2 h
  · exact h2.2 h
/-- what dominates b, and isn't b, dominates what leads to b -/
theorem zq_dom.pred {a p b : Nat} (h : zq_dom ld W a b) (hne : a ≠ b) (hp : zq_RA ld W p) (hl : ld p b) : zq_dom ld W a p :=
  ⟨hp, fun q => h.2 (q.step hl (fun e => hne e.symm))⟩
theorem zq_dom.zero {b : Nat} (h : zq_RA ld W b) : zq_dom ld W 0 b := ⟨h, fun q => q (fun _ => False) (fun e => e rfl) (fun _ _ h _ _ => h)⟩
end ZQ
