/-! PURE: the class's refresh -/
section XRf
variable {P : zx_S} {nb : Nat} {sz : Nat → Nat} {t : zc_Tb}
/-- the class's world, all made anew -/
def zX_Ca (P : zx_S) (nb : Nat) (sz : Nat → Nat) (t : zc_Tb) (s : zx_S) : Prop := zX_Pr P nb sz s ∧ zX_Gr P nb s ∧ (0 < nb → zX_Lw P nb sz t s ∧ zX_Le P nb sz t s ∧ s 33 2 = nI (zn (fun v => zp (zc_K t v = v)) (zt_T t))) ∧ (nb = 0 → s 18 11 = 0 ∧ (∀ b, b < 16 → s 30 b = 0) ∧ s 33 2 = 0 ∧ s 36 2 = 0)
theorem zX_part_spec0 {s : zx_S} (h : s 18 11 = 0) : ∃ s', (s' 33 2 = 0 ∧ ∀ c i, c ≠ 33 → c ≠ 34 → c ≠ 35 → s' c i = s c i) ∧ zX_Classes_part s = some s' := by
  let t0 : zc_Tb := (0, fun _ => 0, fun _ => 0, fun _ => 0, fun _ => 0, fun _ _ => 0)
  sorry
end XRf
