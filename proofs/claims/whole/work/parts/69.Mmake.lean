/-! PURE: the reference's make() -/
section MA
variable {P : zx_S} {nb : Nat} {sz : Nat → Nat}
theorem zm_V.keep {s s' : zx_S} (h : zm_V P nb sz s) (hk : ∀ c i, (c = 0 ∧ i = 18) ∨ (16 ≤ c ∧ c ≤ 26) → s' c i = s c i) : zm_V P nb sz s' := by
  obtain ⟨v1, v2, v3, v4, v5, v6, v7⟩ := h
  refine ⟨by rw [hk 0 18 (Or.inl ⟨rfl, rfl⟩)]; exact v1, v2.keep (fun c i hc _ => hk c i (Or.inr (by omega))), ⟨by rw [hk 20 _ (Or.inr (by decide))]; exact v3.1, fun i b v q => by rw [hk 20 _ (Or.inr (by decide))]; exact v3.2.1 i b v q, fun i b k q => by rw [hk 20 _ (Or.inr (by decide))]; exact v3.2.2 i b k q⟩, by rw [hk 22 _ (Or.inr (by decide))]; exact v4, fun i b v q => ?_, fun i b k q => ?_, fun b q => ?_⟩
  · rw [hk 23 _ (Or.inr (by decide)), hk 22 _ (Or.inr (by decide))]
    refine ⟨(v5 i b v q).1, (v5 i b v q).2.1, fun p hp => ?_, fun h0 => ?_⟩
    · rw [hk 21 _ (Or.inr (by decide))]; exact (v5 i b v q).2.2.1 p hp
    · rw [hk 21 _ (Or.inr (by decide))]; exact (v5 i b v q).2.2.2 h0
  · rw [hk 24 _ (Or.inr (by decide)), hk 22 _ (Or.inr (by decide)), hk 21 _ (Or.inr (by decide)), hk 21 _ (Or.inr (by decide))]
    exact v6 i b k q
  · refine ⟨fun v hv => ?_, fun v hv => ?_⟩
    · rw [hk 25 _ (Or.inr (by decide))]; exact (v7 b q).1 v hv
    · rw [hk 26 _ (Or.inr (by decide))]; exact (v7 b q).2 v hv
/-- INSTRUCTIONS that define no VALUE -/
def zm_Nv (P : zx_S) (nb : Nat) (sz : Nat → Nat) (s : zx_S) : Prop := ∀ b k, zq_rc P nb b → k < sz b → zq_iv P b k = false → s 24 (100 * b + k) = -1
/-- all that the reference has made, of a program with BLOCKS -/
def zm_Ca (P : zx_S) (nb : Nat) (sz : Nat → Nat) (t : zc_Tb) (s : zx_S) : Prop := zm_Dm P nb s ∧ zm_R15 P nb sz s ∧ zm_V P nb sz s ∧ zm_Nv P nb sz s ∧ zm_Tb t s ∧ (∀ i, i < zt_T t → s 28 i = nI (zc_K t i)) ∧ ∀ i, i < zt_T t → s 30 i = zi (zp (zq_rd P nb t i))
theorem zm_Dm.keep {s s' : zx_S} (h : zm_Dm P nb s) (hk : ∀ c i, 10 ≤ c → c ≤ 14 → c ≠ 11 → s' c i = s c i) : zm_Dm P nb s' := by
  obtain ⟨a, b, c, d⟩ := h
  exact ⟨fun x hx => by rw [hk 10 _ (by decide) (by decide) (by decide)]; exact a x hx, fun x y hx hy => by rw [hk 12 _ (by decide) (by decide) (by decide)]; exact b x y hx hy, fun x hx => by rw [hk 13 _ (by decide) (by decide) (by decide)]; exact c x hx, fun x y hx hy => by rw [hk 14 _ (by decide) (by decide) (by decide)]; exact d x y hx hy⟩
/-- dominance(), choices(), numbers(), names(): a world with all of that, over the program P -/
theorem zM_upto (hW : zq_WF P nb sz) (hn : 0 < nb) {s : zx_S} (hs : zq_Pg P s) : ∃ s1 s2 s3 s4, zM_ValueBenchModel_dominance s = some s1 ∧ zM_ValueBenchModel_choices s1 = some s2 ∧ zM_ValueBenchModel_numbers s2 = some s3 ∧ zM_ValueBenchModel_names s3 = some s4 ∧ zq_Pg P s4 ∧ zm_Dm P nb s4 ∧ zm_R15 P nb sz s4 ∧ zm_V P nb sz s4 ∧ zm_Nv P nb sz s4 ∧ ∀ c i, (c = 0 ∧ i ≠ 18) ∨ 27 < c → s4 c i = s c i := by
  obtain ⟨s1, ⟨a1, a2⟩, a3⟩ := zM_dominance_spec hW.1 hW.2.1 hs
  obtain ⟨s2, ⟨b1, b2, b3⟩, b4⟩ := zM_choices_spec hW a1.1 a2.2.2.2
  have D2 : zm_Dm P nb s2 := a2.keep (fun c i h1 h2 _ => by rw [b2 c (by omega)])
  obtain ⟨s3, ⟨c1, c2⟩, c3⟩ := zM_numbers_spec hW hn b1 D2.1 b3
  have pre := c1.pre hW D2.1 D2.2.2.1 b3
  obtain ⟨sm, s4, ⟨d1, d2⟩, d3⟩ := zM_names_spec hW pre
  have V := zm_V_of c1 d1 d2
  have f34 : ∀ c i, c ≠ 11 → c ≠ 21 → c ≠ 22 → c ≠ 25 → c ≠ 26 → c ≠ 27 → s4 c i = s3 c i := fun c i h1 h2 h3 h4 h5 h6 => by rw [d2.2.1 c h2 h3, d1.2.2.1 c h1 h2 h3 h4 h5 h6]
  have f23 : ∀ c i, (c = 0 ∧ i ≠ 18) ∨ (c ≠ 0 ∧ c < 16) ∨ c = 21 ∨ 24 < c → s3 c i = s2 c i := c1.2.2.1
  refine ⟨s1, s2, s3, s4, a3, b4, c3, d3, d2.1, D2.keep (fun c i h1 h2 h3 => by rw [f34 c i h3 (by omega) (by omega) (by omega) (by omega) (by omega), f23 c i (by omega)]), fun b v hb hv => by rw [f34 15 _ (by decide) (by decide) (by decide) (by decide) (by decide) (by decide), f23 15 _ (by omega)]; exact b3 b v hb hv, V, fun b k hb hk hi => by rw [f34 24 _ (by decide) (by decide) (by decide) (by decide) (by decide) (by decide)]; exact c2 b k (Or.inl hb.1) hb hk hi, fun c i hc => ?_⟩
  rw [f34 c i (by omega) (by omega) (by omega) (by omega) (by omega) (by omega), f23 c i (by omega), b2 c (by omega), a1.2 c (by omega)]
theorem zq_Tab.ex (hW : zq_WF P nb sz) (hn : 0 < nb) : ∃ t, zq_Tab P nb sz t := by
  obtain ⟨s1, s2, s3, s4, -, -, -, -, -, -, -, V, -, -⟩ := zM_upto hW hn (s := P) ⟨rfl, fun _ _ _ => rfl⟩
  exact V.ex hW hn
theorem zM_make_spec (hW : zq_WF P nb sz) (hn : 0 < nb) {t : zc_Tb} (ht : zq_Tab P nb sz t) {s : zx_S} (hs : zq_Pg P s) (h11 : s 0 11 = 0) : ∃ s', (zq_Pg P s' ∧ zm_Ca P nb sz t s' ∧ s' 0 11 = 1 ∧ ∀ c i, (c = 0 ∧ i ≠ 18 ∧ i ≠ 11) ∨ 30 < c → s' c i = s c i) ∧ zM_ValueBenchModel_make s = some s' := by
  unfold zM_ValueBenchModel_make
  rw [if_pos h11, zc_ls]
  have hs0 : zq_Pg P (zx_su s 0 11 1) := hs.su (Or.inr ⟨rfl, by decide⟩)
  obtain ⟨s1, s2, s3, s4, e1, e2, e3, e4, p4, D4, R4, V4, N4, F4⟩ := zM_upto hW hn hs0
  rw [e1, zc_b1, e2, zc_b1, e3, zc_b1, e4, zc_b1]
  have T4 := V4.tb hW hn ht
  obtain ⟨s5, ⟨k1, k2, k3⟩, k4⟩ := zM_classes_spec (ht.H hW hn) T4
  rw [k4, zc_b1]
  have p5 : zq_Pg P s5 := ⟨by rw [k3 0 0 (by decide) (by decide)]; exact p4.1, fun c h1 h2 => by funext i; rw [k3 c i (by omega) (by omega), p4.2 c h1 h2]⟩
  have R5 : zm_Rd P nb t (s5 20) s5 := ⟨k1, fun x y hx hy => by rw [k3 12 _ (by decide) (by decide)]; exact D4.2.1 x y hx hy, k2, fun _ => rfl⟩
  have V5 : zm_V P nb sz s5 := V4.keep (fun c i hc => k3 c i (by omega) (by omega))
  obtain ⟨s6, ⟨r1, r2, r3⟩, r4⟩ := zM_redundant_spec hW hn ht V5.2.2.1 R5
  rw [r4, zc_b1]
  have F6 : ∀ c i, (c = 0 ∧ i ≠ 18 ∧ i ≠ 11) ∨ 30 < c → s6 c i = s c i := fun c i hc => by
    rw [r3 c i (by omega), k3 c i (by omega) (by omega), F4 c i (by omega), zs_ne (by omega)]
  refine ⟨s6, ⟨⟨by rw [r3 0 0 (by decide)]; exact p5.1, fun c h1 h2 => by funext i; rw [r3 c i (by omega), p5.2 c h1 h2]⟩, ⟨D4.keep (fun c i h1 h2 _ => by rw [r3 c i (by omega), k3 c i (by omega) (by omega)]), fun b v hb hv => by rw [r3 15 _ (by decide), k3 15 _ (by decide) (by decide)]; exact R4 b v hb hv, V5.keep (fun c i hc => r3 c i (by omega)), fun b k hb hk hi => by rw [r3 24 _ (by decide), k3 24 _ (by decide) (by decide)]; exact N4 b k hb hk hi, r1.1, r1.2.2.1, r2⟩, ?_, F6⟩, rfl⟩
  rw [r3 0 11 (by decide), k3 0 11 (by decide) (by decide), F4 0 11 (Or.inl ⟨rfl, by decide⟩), zs_eq]
end MA
