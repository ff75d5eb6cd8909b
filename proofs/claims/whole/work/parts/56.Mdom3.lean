/-! PURE: the reference's frontier; dominance() whole -/
def zm_R14 (P : zx_S) (nb n : Nat) (s : zx_S) : Prop := ∀ a b, a < nb → b < n → s 14 (16 * a + b) = zi (zp (zq_Fr P nb a b))
section ME
variable {P s0 : zx_S} {nb : Nat}
theorem zM_dom_L259_spec (hP : P 0 0 = nI nb) (hnb : nb ≤ 16) (k : Int32 → Option zx_S) {a b : Nat} (ha : a < nb) (hb : b < nb) {s : zx_S} (hs : zq_Pg P s) (h10 : zm_R10 P nb s) (h12 : zm_R12 P nb nb s) : zM_ValueBenchModel_dominance_L259 (nI b) (nI a) s k 10000 (0 : Int32) (0 : Int32) = k (zi (zp (∃ p, zq_rc P nb p ∧ zq_ld P nb p b ∧ zq_D P nb a p))) := by
  have := zf_for (A := Int32) (L := fun n i v => zM_ValueBenchModel_dominance_L259 (nI b) (nI a) s k n v i) (k := k) nb (fun i v => v = zi (zp (∃ p, p < i ∧ zq_rc P nb p ∧ zq_ld P nb p b ∧ zq_D P nb a p))) (fun n v h => by
    show zM_ValueBenchModel_dominance_L259 (nI b) (nI a) s k (n + 1) v (nI nb) = k v
    rw [zM_ValueBenchModel_dominance_L259, if_pos (by rw [hs.1, hP]; exact Int32.le_refl _)]) (fun n c v hc h => by
    subst h
    show ∃ a', _ ∧ zM_ValueBenchModel_dominance_L259 (nI b) (nI a) s k (n + 1) _ (nI c) = zM_ValueBenchModel_dominance_L259 (nI b) (nI a) s k n a' (nI (c + 1))
    rw [zM_ValueBenchModel_dominance_L259, if_neg (by rw [hs.1, hP, nI_leI (by omega) (by omega)]; omega)]
    simp only [zM_dom1_eq h12 hnb ha hc, zM_leads_eq hs hnb hc hb, zc_ck (show c < 16 by omega) (by decide), zc_cl (show c < 2 ^ 31 by omega), h10 c hc, zc_b1, zc_lt, nI_1, zi_0]
    have split : (∃ p, p < c + 1 ∧ zq_rc P nb p ∧ zq_ld P nb p b ∧ zq_D P nb a p) ↔ (∃ p, p < c ∧ zq_rc P nb p ∧ zq_ld P nb p b ∧ zq_D P nb a p) ∨ (zq_rc P nb c ∧ zq_ld P nb c b ∧ zq_D P nb a c) := by
      constructor
      · rintro ⟨p, hp, q⟩
        by_cases e : p = c
        · rw [e] at q; exact Or.inr q
        · exact Or.inl ⟨p, by omega, q⟩
      · rintro (⟨p, hp, q⟩ | q)
        · exact ⟨p, by omega, q⟩
        · exact ⟨c, by omega, q⟩
    by_cases c0 : zp (∃ p, p < c ∧ zq_rc P nb p ∧ zq_ld P nb p b ∧ zq_D P nb a p) = false
    · rw [if_pos c0]
      have c0 := zp_f.mp c0
      by_cases c1 : zp (zq_rc P nb c) = false
      · rw [if_pos c1]
        exact ⟨0, by rw [zp_f.mpr (fun q => (split.mp q).elim c0 (fun q => zp_f.mp c1 q.1))]; rfl, rfl⟩
      · rw [if_neg c1]
        by_cases c2 : zp (zq_ld P nb c b) = false
        · rw [if_pos c2]
          exact ⟨0, by rw [zp_f.mpr (fun q => (split.mp q).elim c0 (fun q => zp_f.mp c2 q.2.1))]; rfl, rfl⟩
        · rw [if_neg c2]
          by_cases c3 : zp (zq_D P nb a c) = false
          · rw [if_pos c3]
            exact ⟨0, by rw [zp_f.mpr (fun q => (split.mp q).elim c0 (fun q => zp_f.mp c3 q.2.2))]; rfl, rfl⟩
          · rw [if_neg c3]
            exact ⟨1, by rw [zp_t.mpr (split.mpr (Or.inr ⟨zp_t.mp (by simpa using c1), zp_t.mp (by simpa using c2), zp_t.mp (by simpa using c3)⟩))]; rfl, rfl⟩
    · rw [if_neg c0]
      exact ⟨1, by rw [zp_t.mpr (split.mpr (Or.inl (zp_t.mp (by simpa using c0))))]; rfl, rfl⟩) (i := 0) (n := 10000) (Nat.zero_le nb) (a := (0 : Int32)) (by rw [zp_f.mpr (fun ⟨p, hp, _⟩ => by omega)]; rfl) (by omega)
  rw [nI_0] at this
  obtain ⟨v, h1, h2⟩ := this
  subst h1
  rw [zp_c (show (∃ p, zq_rc P nb p ∧ zq_ld P nb p b ∧ zq_D P nb a p) ↔ ∃ p, p < nb ∧ zq_rc P nb p ∧ zq_ld P nb p b ∧ zq_D P nb a p from ⟨fun ⟨p, q⟩ => ⟨p, q.1.1, q⟩, fun ⟨p, _, q⟩ => ⟨p, q⟩⟩)]
  exact h2
theorem zM_dom_L246_spec (hP : P 0 0 = nI nb) (hnb : nb ≤ 16) (k : zx_S → Option zx_S) {b : Nat} (hb : b < nb) {s : zx_S} (hB : zm_B P s0 s) (h10 : zm_R10 P nb s) (h12 : zm_R12 P nb nb s) (hF : ∀ c, c ≠ 14 → s c = s0 c) (h14 : zm_R14 P nb b s) : ∃ s', (zm_B P s0 s' ∧ (∀ c, c ≠ 14 → s' c = s0 c) ∧ zm_R14 P nb (b + 1) s') ∧ zM_ValueBenchModel_dominance_L246 (nI b) k 10000 (0 : Int32) s = k s' := by
  have := zf_for (L := fun n i s => zM_ValueBenchModel_dominance_L246 (nI b) k n i s) (k := k) nb (fun i s => (zm_B P s0 s ∧ zm_R10 P nb s ∧ zm_R12 P nb nb s) ∧ (∀ c, c ≠ 14 → s c = s0 c) ∧ zm_R14 P nb b s ∧ ∀ a, a < i → s 14 (16 * a + b) = zi (zp (zq_Fr P nb a b))) (fun n s h => by
    show zM_ValueBenchModel_dominance_L246 (nI b) k (n + 1) (nI nb) s = k s
    rw [zM_ValueBenchModel_dominance_L246, if_pos (by rw [h.1.1.1.1, hP]; exact Int32.le_refl _)]) (fun n a s ha h => by
    obtain ⟨⟨g1, g2, g3⟩, gF, g4, g5⟩ := h
    have key : ∀ v : Bool, v = zp (zq_Fr P nb a b) → (zm_B P s0 (zx_su s 14 (16 * a + b) (zi v)) ∧ zm_R10 P nb (zx_su s 14 (16 * a + b) (zi v)) ∧ zm_R12 P nb nb (zx_su s 14 (16 * a + b) (zi v))) ∧ (∀ c, c ≠ 14 → zx_su s 14 (16 * a + b) (zi v) c = s0 c) ∧ zm_R14 P nb b (zx_su s 14 (16 * a + b) (zi v)) ∧ ∀ a', a' < a + 1 → zx_su s 14 (16 * a + b) (zi v) 14 (16 * a' + b) = zi (zp (zq_Fr P nb a' b)) := by
      intro v hv
      refine ⟨⟨g1.su (by decide) (by decide), g2.su (by decide), g3.su (by decide)⟩, fun c hc => by rw [zs_c hc]; exact gF c hc, fun a' b' ha' hb' => ?_, fun a' ha' => ?_⟩
      · rw [zs_ne (Or.inr (by omega))]; exact g4 a' b' ha' hb'
      · by_cases e : a' = a
        · subst e; rw [zs_eq, hv]
        · rw [zs_ne (Or.inr (by omega))]; exact g5 a' (by omega)
    show ∃ a', _ ∧ zM_ValueBenchModel_dominance_L246 (nI b) k (n + 1) (nI a) s = _
    rw [zM_ValueBenchModel_dominance_L246, if_neg (by rw [g1.1.1, hP, nI_leI (by omega) (by omega)]; omega)]
    simp only [zM_dom_L259_spec hP hnb _ ha hb g1.1 g2 g3, nI_16, zM_dom1_eq g3 hnb ha hb, zc_ck (show a < 16 by omega) (by decide), zc_ck (show b < 16 by omega) (by decide), zc_ck (show 16 * a + b < 256 by omega) (by decide), zc_cl (show a < 2 ^ 31 by omega), zc_cl (show b < 2 ^ 31 by omega), zc_cl (show 16 * a + b < 2 ^ 31 by omega), zc_b1, zc_ls, zc_lt, nI_1, g2 a ha, g2 b hb, zi_0, zi_nar0, zi_nar1]
    by_cases c0 : zp (∃ p, zq_rc P nb p ∧ zq_ld P nb p b ∧ zq_D P nb a p) = false
    · rw [if_pos c0]
      exact ⟨_, key false (zp_f.mpr (fun q => zp_f.mp c0 q.1)).symm, rfl⟩
    · rw [if_neg c0]
      have c0' := zp_t.mp (show zp (∃ p, zq_rc P nb p ∧ zq_ld P nb p b ∧ zq_D P nb a p) = true by simpa using c0)
      obtain ⟨p, p1, p2, p3⟩ := id c0'
      rw [if_neg (by rw [zp_f]; exact fun q => q p3.rcl), if_neg (by rw [zp_f]; exact fun q => q (p1.step hnb p2))]
      by_cases c1 : nI a = nI b
      · rw [if_pos c1]
        exact ⟨_, key true (zp_t.mpr ⟨c0', Or.inl (nI_inj (by omega) (by omega) c1)⟩).symm, rfl⟩
      · rw [if_neg c1]
        have hne : a ≠ b := fun e => c1 (by rw [e])
        by_cases c2 : zp (zq_D P nb a b) = false
        · rw [if_pos c2]
          exact ⟨_, key true (zp_t.mpr ⟨c0', Or.inr (zp_f.mp c2)⟩).symm, rfl⟩
        · rw [if_neg c2]
          exact ⟨_, key false (zp_f.mpr (fun q => q.2.elim hne (fun z => z (zp_t.mp (by simpa using c2))))).symm, rfl⟩) (i := 0) (n := 10000) (Nat.zero_le nb) (a := s) ⟨⟨hB, h10, h12⟩, hF, h14, fun a ha => by omega⟩ (by omega)
  rw [nI_0] at this
  obtain ⟨s', ⟨⟨g1, -, -⟩, gF, g4, g5⟩, h2⟩ := this
  refine ⟨s', ⟨g1, gF, fun a' b' ha' hb' => ?_⟩, h2⟩
  by_cases e : b' = b
  · rw [e]; exact g5 a' ha'
  · exact g4 a' b' ha' (by omega)
/-- what the reference's world holds behind dominance() -/
def zm_Dm (P : zx_S) (nb : Nat) (s : zx_S) : Prop := zm_R10 P nb s ∧ zm_R12 P nb nb s ∧ zm_R13 P nb nb s ∧ zm_R14 P nb nb s
theorem zM_dom_L120_spec (hP : P 0 0 = nI nb) (hnb : nb ≤ 16) (k : zx_S → Option zx_S) {s : zx_S} (hB : zm_B P s0 s) (h10 : zm_R10 P nb s) (h12 : zm_R12 P nb nb s) : ∃ s', (zm_B P s0 s' ∧ zm_Dm P nb s') ∧ zM_ValueBenchModel_dominance_L120 k 10000 (0 : Int32) s = k s' := by
  have := zf_for (L := fun n i s => zM_ValueBenchModel_dominance_L120 k n i s) (k := k) nb (fun b s => zm_B P s0 s ∧ zm_R10 P nb s ∧ zm_R12 P nb nb s ∧ zm_R13 P nb b s ∧ zm_R14 P nb b s) (fun n s h => by
    show zM_ValueBenchModel_dominance_L120 k (n + 1) (nI nb) s = k s
    rw [zM_ValueBenchModel_dominance_L120, if_pos (by rw [h.1.1.1, hP]; exact Int32.le_refl _)]) (fun n b s hb h => by
    obtain ⟨g1, g2, g3, g4, g5⟩ := h
    show ∃ a', _ ∧ zM_ValueBenchModel_dominance_L120 k (n + 1) (nI b) s = _
    rw [zM_ValueBenchModel_dominance_L120, if_neg (by rw [g1.1.1, hP, nI_leI (by omega) (by omega)]; omega), zc_ck (show b < 16 by omega) (by decide), zc_cl (show b < 2 ^ 31 by omega), zc_ls]
    have B1 : zm_B P s (zx_su s 13 b (-1)) := (show zm_B P s s from ⟨g1.1, fun _ _ => rfl⟩).su (by decide) (by decide)
    obtain ⟨s1, ⟨⟨w1, w2, w3⟩, wF, w4, w5⟩, w6⟩ := zM_dom_L137_spec (s0 := s) hP hnb (fun s37 => zM_ValueBenchModel_dominance_L246 (nI b) (fun s59 => zx_lt (nI b + 1) fun v1_60 => zM_ValueBenchModel_dominance_L120 k n v1_60 s59) 10000 (0 : Int32) s37) hb B1 (g2.su (by decide)) (g3.su (by decide)) (fun c i hc => by rw [zs_ne hc]) (zs_eq _ _ _ _)
    rw [w6]
    have F14 : zm_R14 P nb b s1 := fun a' b' ha' hb' => by rw [wF 14 _ (Or.inl (by decide))]; exact g5 a' b' ha' hb'
    obtain ⟨s2, ⟨v1, vF, v2⟩, v3⟩ := zM_dom_L246_spec (s0 := s1) hP hnb (fun s59 => zx_lt (nI b + 1) fun v1_60 => zM_ValueBenchModel_dominance_L120 k n v1_60 s59) hb ⟨w1.1, fun _ _ => rfl⟩ w2 w3 (fun _ _ => rfl) F14
    rw [v3, zc_lt, nI_1]
    refine ⟨s2, ⟨⟨v1.1, fun c hc => ?_⟩, fun x hx => by rw [vF 10 (by decide)]; exact w2 x hx, fun x y hx hy => by rw [vF 12 (by decide)]; exact w3 x y hx hy, fun x hx => ?_, v2⟩, rfl⟩
    · rw [vF c (by omega)]
      funext i
      rw [wF c i (Or.inl (by omega)), g1.2 c hc]
    · rw [vF 13 (by decide)]
      by_cases e : x = b
      · rw [e]; exact ⟨w4, w5⟩
      · rw [wF 13 x (Or.inr e)]; exact g4 x (by omega)) (i := 0) (n := 10000) (Nat.zero_le nb) (a := s) ⟨hB, h10, h12, fun b hb => by omega, fun a b ha hb => by omega⟩ (by omega)
  rw [nI_0] at this
  exact this
theorem zM_dominance_spec (hP : P 0 0 = nI nb) (hnb : nb ≤ 16) {s : zx_S} (hs : zq_Pg P s) : ∃ s', (zm_B P s s' ∧ zm_Dm P nb s') ∧ zM_ValueBenchModel_dominance s = some s' := by
  unfold zM_ValueBenchModel_dominance
  obtain ⟨s1, w1, w2⟩ := zM_meet_spec (s0 := s) (w := 99) (wi := (-1 : Int32)) hP hnb (fun b hb => by
    have : ∀ b, b < 16 → (nI b = (-1 : Int32) ↔ b = 99) := by decide +kernel
    exact this b hb) hs (fun _ _ => rfl)
  rw [w2, zc_b1]
  have B1 : zm_B P s s1 := ⟨w1.1, fun c hc => w1.2.2 c (by omega)⟩
  obtain ⟨s2, ⟨v1, v2⟩, v3⟩ := zM_dom_L7_spec (s0 := s) hP hnb (fun s5 => zM_ValueBenchModel_dominance_L35 (fun s19 => zM_ValueBenchModel_dominance_L120 (fun s61 => some s61) 10000 (0 : Int32) s19) 10000 (0 : Int32) s5) B1 w1.2.1
  rw [v3]
  obtain ⟨s3, ⟨u1, u2, u3⟩, u4⟩ := zM_dom_L35_spec (s0 := s) hP hnb (fun s19 => zM_ValueBenchModel_dominance_L120 (fun s61 => some s61) 10000 (0 : Int32) s19) v1 v2
  rw [u4]
  exact zM_dom_L120_spec (s0 := s) hP hnb (fun s61 => some s61) u1 u2 u3
end ME
