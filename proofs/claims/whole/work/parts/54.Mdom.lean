/-! PURE: the reference's dominance -/
theorem nI_mul (a b : Nat) : nI a * nI b = nI (a * b) := (Int32.ofNat_mul a b).symm
theorem nI_16 (a b : Nat) : (16 : Int32) * nI a + nI b = nI (16 * a + b) := by
  rw [show (16 : Int32) = nI 16 by decide, nI_mul, nI_add]
theorem nI_100 (a b : Nat) : (100 : Int32) * nI a + nI b = nI (100 * a + b) := by
  rw [show (100 : Int32) = nI 100 by decide, nI_mul, nI_add]
theorem nI_10 (a b : Nat) : (10 : Int32) * nI a + nI b = nI (10 * a + b) := by
  rw [show (10 : Int32) = nI 10 by decide, nI_mul, nI_add]
theorem nI_20 (a b : Nat) : (20 : Int32) * nI a + nI b = nI (20 * a + b) := by
  rw [show (20 : Int32) = nI 20 by decide, nI_mul, nI_add]
theorem nI_inj {a b : Nat} (ha : a < 2 ^ 31) (hb : b < 2 ^ 31) (h : nI a = nI b) : a = b := (nI_eq ha hb).mp h
theorem zq_ne99 {P : zx_S} {nb : Nat} (h : nb ≤ 16) {a c : Nat} (hl : zq_ld P nb a c) : c ≠ 99 := fun e => by
  have := hl.2.1
  omega
/-- reached, dominates, frontier, parent: of the program P with nb blocks -/
def zq_rc (P : zx_S) (nb b : Nat) : Prop := b < nb ∧ zq_RA (zq_ld P nb) 99 b
def zq_D (P : zx_S) (nb a b : Nat) : Prop := b < nb ∧ zq_dom (zq_ld P nb) 99 a b
def zq_Fr (P : zx_S) (nb a b : Nat) : Prop := (∃ p, zq_rc P nb p ∧ zq_ld P nb p b ∧ zq_D P nb a p) ∧ (a = b ∨ ¬ zq_D P nb a b)
def zq_Par (P : zx_S) (nb a b : Nat) : Prop := a ≠ b ∧ zq_D P nb a b ∧ ∀ c, c ≠ b → zq_D P nb c b → zq_D P nb c a
theorem zq_RA_lt {P : zx_S} {nb w b : Nat} (h : zq_RA (zq_ld P nb) w b) : b = 0 ∨ b < nb := h (fun x => x = 0 ∨ x < nb) (fun _ => Or.inl rfl) (fun _ _ _ hl _ => Or.inr hl.2.1)
section QD
variable {P : zx_S} {nb : Nat}
theorem zq_D.rc {a b : Nat} (h : zq_D P nb a b) : zq_rc P nb b := ⟨h.1, h.2.1⟩
theorem zq_D.rcl {a b : Nat} (h : zq_D P nb a b) : zq_rc P nb a := by
  have h1 := zq_dom.left h.2
  refine ⟨?_, h1⟩
  rcases zq_RA_lt h1 with e | e
  · have := h.1; omega
  · exact e
theorem zq_D.refl {b : Nat} (h : zq_rc P nb b) : zq_D P nb b b := ⟨h.1, zq_dom.refl h.2⟩
theorem zq_D.trans {a b c : Nat} (h1 : zq_D P nb a b) (h2 : zq_D P nb b c) : zq_D P nb a c := ⟨h2.1, zq_dom.trans h1.2 h2.2⟩
theorem zq_D.anti {a b : Nat} (h1 : zq_D P nb a b) (h2 : zq_D P nb b a) : a = b := zq_dom.anti h1.2 h2.2
theorem zq_D.chain {a b c : Nat} (h1 : zq_D P nb a c) (h2 : zq_D P nb b c) : zq_D P nb a b ∨ zq_D P nb b a := by
  rcases zq_dom.chain h1.2 h2.2 with h | h
  · exact Or.inl ⟨h2.rcl.1, h⟩
  · exact Or.inr ⟨h1.rcl.1, h⟩
theorem zq_D.pred {a p b : Nat} (h : zq_D P nb a b) (hne : a ≠ b) (hp : zq_rc P nb p) (hl : zq_ld P nb p b) : zq_D P nb a p := ⟨hp.1, zq_dom.pred h.2 hne hp.2 hl⟩
theorem zq_D.zero {b : Nat} (h : zq_rc P nb b) : zq_D P nb 0 b := ⟨h.1, zq_dom.zero h.2⟩
theorem zq_rc.zero (h : 0 < nb) : zq_rc P nb 0 := ⟨h, zq_RA.zero (by decide)⟩
theorem zq_rc.step (hnb : nb ≤ 16) {a b : Nat} (h : zq_rc P nb a) (hl : zq_ld P nb a b) : zq_rc P nb b := ⟨hl.2.1, h.2.step hl (zq_ne99 hnb hl)⟩
theorem zq_Fr.rc (hnb : nb ≤ 16) {a b : Nat} (h : zq_Fr P nb a b) : zq_rc P nb a ∧ zq_rc P nb b := by
  obtain ⟨⟨p, h1, h2, h3⟩, -⟩ := h
  exact ⟨h3.rcl, h1.step hnb h2⟩
theorem zq_Par.uniq {a a' b : Nat} (h : zq_Par P nb a b) (h' : zq_Par P nb a' b) : a = a' := zq_D.anti (h'.2.2 a h.1 h.2.1) (h.2.2 a' h'.1 h'.2.1)
/-- how many dominate b -/
noncomputable def zq_dep (P : zx_S) (nb b : Nat) : Nat := zn (fun c => zp (zq_D P nb c b)) nb
theorem zq_dep_lt {a b : Nat} (h : zq_D P nb a b) (hne : a ≠ b) : zq_dep P nb a < zq_dep P nb b := by
  refine zn_lt (fun c _ q => zp_t.mpr ((zp_t.mp q).trans h)) h.1 (zp_f.mpr (fun q => hne (h.anti q))) (zp_t.mpr (zq_D.refl h.rc))
theorem zq_dep_pos {b : Nat} (h : zq_rc P nb b) : 0 < zq_dep P nb b :=
  Nat.lt_of_le_of_lt (Nat.zero_le _) (zn_lt (f := fun _ => false) (fun _ _ q => by cases q) h.1 rfl (zp_t.mpr (zq_D.refl h)))
/-- the one of a kind below n with the greatest number -/
theorem zq_max (S : Nat → Prop) (m : Nat → Nat) : ∀ n, (∃ a, a < n ∧ S a) → ∃ a, a < n ∧ S a ∧ ∀ c, c < n → S c → m c ≤ m a := by
  intro n
  induction n with
  | zero => rintro ⟨a, h, -⟩; omega
  | succ n ih =>
    rintro ⟨a, h1, h2⟩
    by_cases hex : ∃ a, a < n ∧ S a
    · obtain ⟨a', g1, g2, g3⟩ := ih hex
      by_cases hn : S n ∧ m a' < m n
      · refine ⟨n, by omega, hn.1, fun c hc hS => ?_⟩
        by_cases hcn : c = n
        · rw [hcn]; exact Nat.le_refl _
        · have := g3 c (by omega) hS; omega
      · refine ⟨a', by omega, g2, fun c hc hS => ?_⟩
        by_cases hcn : c = n
        · subst hcn
          exact Nat.le_of_not_lt (fun q => hn ⟨hS, q⟩)
        · exact g3 c (by omega) hS
    · have : a = n := Classical.byContradiction fun q => hex ⟨a, by omega, h2⟩
      subst this
      refine ⟨a, by omega, h2, fun c hc hS => ?_⟩
      have : c = a := Classical.byContradiction fun q => hex ⟨c, by omega, hS⟩
      rw [this]; exact Nat.le_refl _
theorem zq_Par.ex {b : Nat} (h : zq_rc P nb b) (h0 : b ≠ 0) : ∃ a, zq_Par P nb a b := by
  have hb := h.1
  obtain ⟨a, h1, h2, h3⟩ := zq_max (fun a => a ≠ b ∧ zq_D P nb a b) (zq_dep P nb) nb ⟨0, by omega, fun e => h0 e.symm, zq_D.zero h⟩
  refine ⟨a, h2.1, h2.2, fun c hc hD => ?_⟩
  rcases zq_D.chain hD h2.2 with q | q
  · exact q
  · by_cases e : a = c
    · rw [e]; exact zq_D.refl hD.rcl
    · have := zq_dep_lt q e
      have := h3 c hD.rcl.1 ⟨hc, hD⟩
      omega
theorem zq_Par.dep {a b : Nat} (h : zq_Par P nb a b) : zq_dep P nb b = zq_dep P nb a + 1 := by
  have e : ∀ n, b < n → zn (fun c => zp (zq_D P nb c b)) n = zn (fun c => zp (zq_D P nb c a)) n + 1 := by
    have hna : zp (zq_D P nb b a) = false := zp_f.mpr (fun q => h.1 (h.2.1.anti q))
    have hbb : zp (zq_D P nb b b) = true := zp_t.mpr (zq_D.refl h.2.1.rc)
    have same : ∀ c, c ≠ b → zp (zq_D P nb c b) = zp (zq_D P nb c a) := fun c hc => zp_c ⟨fun q => h.2.2 c hc q, fun q => q.trans h.2.1⟩
    intro n
    induction n with
    | zero => intro q; omega
    | succ n ih =>
      intro hn
      unfold zn
      by_cases hbn : b = n
      · subst hbn
        rw [hna, hbb, zn_congr (fun i hi => same i (by omega))]; simp
      · rw [ih (by omega), same n (fun q => hbn q.symm)]; omega
  exact e nb h.2.1.1
end QD
