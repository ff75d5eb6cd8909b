/-! PURE: the reference's dominance(): reached, dom, parent, meets -/
def zm_B (P s0 s : zx_S) : Prop := zq_Pg P s ∧ ∀ c, (c < 10 ∨ 14 < c) → s c = s0 c
theorem zm_B.su {P s0 s : zx_S} (h : zm_B P s0 s) {k i : Nat} {x : Int32} (h1 : 10 ≤ k) (h2 : k ≤ 14) : zm_B P s0 (zx_su s k i x) :=
  ⟨h.1.su (Or.inl h1), fun c hc => by rw [zs_c (by omega)]; exact h.2 c hc⟩
def zm_R10 (P : zx_S) (nb : Nat) (s : zx_S) : Prop := ∀ b, b < nb → s 10 b = zi (zp (zq_rc P nb b))
def zm_R12 (P : zx_S) (nb n : Nat) (s : zx_S) : Prop := ∀ a b, a < n → b < nb → s 12 (16 * a + b) = zi (zp (zq_D P nb a b))
theorem zm_R10.su {P : zx_S} {nb : Nat} {s : zx_S} (h : zm_R10 P nb s) {k i : Nat} {x : Int32} (hk : k ≠ 10) : zm_R10 P nb (zx_su s k i x) := fun b hb => by rw [zs_ne (Or.inl (fun e => hk e.symm))]; exact h b hb
theorem zm_R12.su {P : zx_S} {nb n : Nat} {s : zx_S} (h : zm_R12 P nb n s) {k i : Nat} {x : Int32} (hk : k ≠ 12) : zm_R12 P nb n (zx_su s k i x) := fun a b ha hb => by rw [zs_ne (Or.inl (fun e => hk e.symm))]; exact h a b ha hb
section MD
variable {P s0 : zx_S} {nb : Nat}
theorem zM_dom_L7_spec (hP : P 0 0 = nI nb) (hnb : nb ≤ 16) (k : zx_S → Option zx_S) {s : zx_S} (hB : zm_B P s0 s) (h11 : ∀ x, x < nb → s 11 x = zi (zp (zq_RA (zq_ld P nb) 99 x))) : ∃ s', (zm_B P s0 s' ∧ zm_R10 P nb s') ∧ zM_ValueBenchModel_dominance_L7 k 10000 (0 : Int32) s = k s' := by
  have := zf_for (L := fun n i a => zM_ValueBenchModel_dominance_L7 k n i a) (k := k) nb (fun i s => zm_B P s0 s ∧ (∀ x, x < nb → s 11 x = zi (zp (zq_RA (zq_ld P nb) 99 x))) ∧ ∀ b, b < i → s 10 b = zi (zp (zq_rc P nb b))) (fun n s h => by
    show zM_ValueBenchModel_dominance_L7 k (n + 1) (nI nb) s = k s
    rw [zM_ValueBenchModel_dominance_L7, if_pos (by rw [h.1.1.1, hP]; exact Int32.le_refl _)]) (fun n i s hi h => by
    show ∃ a', _ ∧ zM_ValueBenchModel_dominance_L7 k (n + 1) (nI i) s = _
    rw [zM_ValueBenchModel_dominance_L7, if_neg (by rw [h.1.1.1, hP, nI_leI (by omega) (by omega)]; omega)]
    simp only [zc_ck (show i < 16 by omega) (by decide), zc_cl (show i < 2 ^ 31 by omega), zc_ls, zc_lt, nI_1, h.2.1 i hi, zi_nar]
    refine ⟨_, ⟨h.1.su (by decide) (by decide), fun x hx => by rw [zs_ne (Or.inl (by decide))]; exact h.2.1 x hx, fun b hb => ?_⟩, rfl⟩
    by_cases e : b = i
    · subst e
      rw [zs_eq, zp_c (show zq_rc P nb b ↔ zq_RA (zq_ld P nb) 99 b from ⟨fun q => q.2, fun q => ⟨hi, q⟩⟩)]
    · rw [zs_ne (Or.inr e)]; exact h.2.2 b (by omega)) (i := 0) (n := 10000) (Nat.zero_le nb) (a := s) ⟨hB, h11, fun b hb => by omega⟩ (by omega)
  rw [nI_0] at this
  obtain ⟨s', h1, h2⟩ := this
  exact ⟨s', ⟨h1.1, h1.2.2⟩, h2⟩
theorem zM_dom_L50_spec (hP : P 0 0 = nI nb) (hnb : nb ≤ 16) (k : zx_S → Option zx_S) {a : Nat} (ha : a < nb) {s : zx_S} (hB : zm_B P s0 s) (h10 : zm_R10 P nb s) (h11 : ∀ x, x < nb → s 11 x = zi (zp (zq_RA (zq_ld P nb) a x))) (h12 : zm_R12 P nb a s) : ∃ s', (zm_B P s0 s' ∧ zm_R10 P nb s' ∧ zm_R12 P nb (a + 1) s') ∧ zM_ValueBenchModel_dominance_L50 (nI a) k 10000 (0 : Int32) s = k s' := by
  have := zf_for (L := fun n i s => zM_ValueBenchModel_dominance_L50 (nI a) k n i s) (k := k) nb (fun i s => zm_B P s0 s ∧ zm_R10 P nb s ∧ (∀ x, x < nb → s 11 x = zi (zp (zq_RA (zq_ld P nb) a x))) ∧ zm_R12 P nb a s ∧ ∀ b, b < i → s 12 (16 * a + b) = zi (zp (zq_D P nb a b))) (fun n s h => by
    show zM_ValueBenchModel_dominance_L50 (nI a) k (n + 1) (nI nb) s = k s
    rw [zM_ValueBenchModel_dominance_L50, if_pos (by rw [h.1.1.1, hP]; exact Int32.le_refl _)]) (fun n b s hb h => by
    obtain ⟨g1, g2, g3, g4, g5⟩ := h
    have key : ∀ v : Bool, v = zp (zq_D P nb a b) → zm_B P s0 (zx_su s 12 (16 * a + b) (zi v)) ∧ zm_R10 P nb (zx_su s 12 (16 * a + b) (zi v)) ∧ (∀ x, x < nb → zx_su s 12 (16 * a + b) (zi v) 11 x = zi (zp (zq_RA (zq_ld P nb) a x))) ∧ zm_R12 P nb a (zx_su s 12 (16 * a + b) (zi v)) ∧ ∀ b', b' < b + 1 → zx_su s 12 (16 * a + b) (zi v) 12 (16 * a + b') = zi (zp (zq_D P nb a b')) := by
      intro v hv
      refine ⟨g1.su (by decide) (by decide), g2.su (by decide), fun x hx => by rw [zs_ne (Or.inl (by decide))]; exact g3 x hx, fun a' b' ha' hb' => ?_, fun b' hb' => ?_⟩
      · rw [zs_ne (Or.inr (by omega))]; exact g4 a' b' ha' hb'
      · by_cases e : b' = b
        · subst e; rw [zs_eq, hv]
        · rw [zs_ne (Or.inr (by omega))]; exact g5 b' (by omega)
    show ∃ a', _ ∧ zM_ValueBenchModel_dominance_L50 (nI a) k (n + 1) (nI b) s = _
    rw [zM_ValueBenchModel_dominance_L50, if_neg (by rw [g1.1.1, hP, nI_leI (by omega) (by omega)]; omega)]
    simp only [nI_16, zc_ck (show a < 16 by omega) (by decide), zc_ck (show b < 16 by omega) (by decide), zc_ck (show 16 * a + b < 256 by omega) (by decide), zc_cl (show a < 2 ^ 31 by omega), zc_cl (show b < 2 ^ 31 by omega), zc_cl (show 16 * a + b < 2 ^ 31 by omega), zc_ls, zc_lt, nI_1, g2 a ha, g2 b hb, g3 b hb, zi_0, zi_nar0, zi_nar1]
    by_cases c1 : zp (zq_rc P nb a) = false
    · rw [if_pos c1]
      exact ⟨_, key false (zp_f.mpr (fun q => zp_f.mp c1 q.rcl)).symm, rfl⟩
    · rw [if_neg c1]
      by_cases c2 : zp (zq_rc P nb b) = false
      · rw [if_pos c2]
        exact ⟨_, key false (zp_f.mpr (fun q => zp_f.mp c2 q.rc)).symm, rfl⟩
      · rw [if_neg c2]
        have hrb : zq_rc P nb b := zp_t.mp (by simpa using c2)
        by_cases c3 : nI a = nI b
        · rw [if_pos c3]
          have e := nI_inj (by omega) (by omega) c3
          exact ⟨_, key true (zp_t.mpr (e ▸ zq_D.refl (e ▸ hrb))).symm, rfl⟩
        · rw [if_neg c3]
          by_cases c4 : zp (zq_RA (zq_ld P nb) a b) = false
          · rw [if_pos c4]
            exact ⟨_, key true (zp_t.mpr ⟨hb, hrb.2, zp_f.mp c4⟩).symm, rfl⟩
          · rw [if_neg c4]
            exact ⟨_, key false (zp_f.mpr (fun q => q.2.2 (zp_t.mp (by simpa using c4)))).symm, rfl⟩) (i := 0) (n := 10000) (Nat.zero_le nb) (a := s) ⟨hB, h10, h11, h12, fun b hb => by omega⟩ (by omega)
  rw [nI_0] at this
  obtain ⟨s', h1, h2⟩ := this
  refine ⟨s', ⟨h1.1, h1.2.1, fun a' b' ha' hb' => ?_⟩, h2⟩
  by_cases e : a' = a
  · rw [e]; exact h1.2.2.2.2 b' hb'
  · exact h1.2.2.2.1 a' b' (by omega) hb'
theorem zM_dom_L35_spec (hP : P 0 0 = nI nb) (hnb : nb ≤ 16) (k : zx_S → Option zx_S) {s : zx_S} (hB : zm_B P s0 s) (h10 : zm_R10 P nb s) : ∃ s', (zm_B P s0 s' ∧ zm_R10 P nb s' ∧ zm_R12 P nb nb s') ∧ zM_ValueBenchModel_dominance_L35 k 10000 (0 : Int32) s = k s' := by
  have := zf_for (L := fun n i s => zM_ValueBenchModel_dominance_L35 k n i s) (k := k) nb (fun a s => zm_B P s0 s ∧ zm_R10 P nb s ∧ zm_R12 P nb a s) (fun n s h => by
    show zM_ValueBenchModel_dominance_L35 k (n + 1) (nI nb) s = k s
    rw [zM_ValueBenchModel_dominance_L35, if_pos (by rw [h.1.1.1, hP]; exact Int32.le_refl _)]) (fun n a s ha h => by
    obtain ⟨g1, g2, g3⟩ := h
    show ∃ a', _ ∧ zM_ValueBenchModel_dominance_L35 k (n + 1) (nI a) s = _
    rw [zM_ValueBenchModel_dominance_L35, if_neg (by rw [g1.1.1, hP, nI_leI (by omega) (by omega)]; omega)]
    obtain ⟨s6, w1, w2⟩ := zM_meet_spec (s0 := s) (w := a) (wi := nI a) hP hnb (fun b hb => nI_eq (by omega) (by omega)) g1.1 (fun _ _ => rfl)
    rw [w2, zc_b1]
    have b6 : zm_B P s0 s6 := ⟨w1.1, fun c hc => by rw [w1.2.2 c (by omega)]; exact g1.2 c hc⟩
    obtain ⟨s7, v1, v2⟩ := zM_dom_L50_spec hP hnb (fun s17 => zx_lt (nI a + 1) fun v1_18 => zM_ValueBenchModel_dominance_L35 k n v1_18 s17) ha b6 (fun b hb => by rw [w1.2.2 10 (by decide)]; exact g2 b hb) (fun x hx => w1.2.1 x hx) (fun a' b' ha' hb' => by rw [w1.2.2 12 (by decide)]; exact g3 a' b' ha' hb')
    rw [v2, zc_lt, nI_1]
    exact ⟨s7, v1, rfl⟩) (i := 0) (n := 10000) (Nat.zero_le nb) (a := s) ⟨hB, h10, fun a b ha hb => by omega⟩ (by omega)
  rw [nI_0] at this
  exact this
theorem zM_dom1_eq {s : zx_S} (h12 : zm_R12 P nb nb s) (hnb : nb ≤ 16) {a b : Nat} (ha : a < nb) (hb : b < nb) : zM_ValueBenchModel_dominates1 (nI a) (nI b) s = some (zi (zp (zq_D P nb a b))) := by
  unfold zM_ValueBenchModel_dominates1
  rw [nI_16, zc_ck (show 16 * a + b < 256 by omega) (by decide), zc_cl (by omega), h12 a b ha hb, zc_zr (zi_01 _)]
/-- 'last': all that dominate b, but b, dominate a -/
theorem zM_dom_L167_spec (hP : P 0 0 = nI nb) (hnb : nb ≤ 16) (k : Int32 → Option zx_S) {a b : Nat} (ha : a < nb) (hb : b < nb) {s : zx_S} (hs : zq_Pg P s) (h12 : zm_R12 P nb nb s) : zM_ValueBenchModel_dominance_L167 (nI b) (nI a) s k 10000 (1 : Int32) (0 : Int32) = k (zi (zp (∀ c, c < nb → c ≠ b → zq_D P nb c b → zq_D P nb c a))) := by
  have := zf_for (A := Int32) (L := fun n i v => zM_ValueBenchModel_dominance_L167 (nI b) (nI a) s k n v i) (k := k) nb (fun i v => v = zi (zp (∀ c, c < i → c ≠ b → zq_D P nb c b → zq_D P nb c a))) (fun n v h => by
    show zM_ValueBenchModel_dominance_L167 (nI b) (nI a) s k (n + 1) v (nI nb) = k v
    rw [zM_ValueBenchModel_dominance_L167, if_pos (by rw [hs.1, hP]; exact Int32.le_refl _)]) (fun n c v hc h => by
    subst h
    show ∃ a', _ ∧ zM_ValueBenchModel_dominance_L167 (nI b) (nI a) s k (n + 1) _ (nI c) = zM_ValueBenchModel_dominance_L167 (nI b) (nI a) s k n a' (nI (c + 1))
    rw [zM_ValueBenchModel_dominance_L167, if_neg (by rw [hs.1, hP, nI_leI (by omega) (by omega)]; omega)]
    simp only [zM_dom1_eq h12 hnb hc hb, zM_dom1_eq h12 hnb hc ha, zc_b1, zc_lt, nI_1, zi_0]
    have key : (c ≠ b → zq_D P nb c b → zq_D P nb c a) → zp (∀ c, c < c → c ≠ b → zq_D P nb c b → zq_D P nb c a) = true := fun _ => zp_t.mpr (fun c q => by omega)
    have split : (∀ x, x < c + 1 → x ≠ b → zq_D P nb x b → zq_D P nb x a) ↔ (∀ x, x < c → x ≠ b → zq_D P nb x b → zq_D P nb x a) ∧ (c ≠ b → zq_D P nb c b → zq_D P nb c a) := by
      constructor
      · intro q
        exact ⟨fun x hx => q x (by omega), q c (by omega)⟩
      · rintro ⟨q1, q2⟩ x hx
        by_cases e : x = c
        · rw [e]; exact q2
        · exact q1 x (by omega)
    by_cases c0 : zp (∀ x, x < c → x ≠ b → zq_D P nb x b → zq_D P nb x a) = false
    · rw [if_pos c0]
      exact ⟨0, by rw [zp_f.mpr (fun q => zp_f.mp c0 (split.mp q).1)]; rfl, rfl⟩
    · rw [if_neg c0]
      have c0 := zp_t.mp (by simpa using c0)
      by_cases c1 : nI c = nI b
      · rw [if_pos c1]
        have e := nI_inj (by omega) (by omega) c1
        exact ⟨1, by rw [zp_t.mpr (split.mpr ⟨c0, fun q => absurd e q⟩)]; rfl, rfl⟩
      · rw [if_neg c1]
        have hne : c ≠ b := fun e => c1 (by rw [e])
        by_cases c2 : zp (zq_D P nb c b) = false
        · rw [if_pos c2]
          exact ⟨1, by rw [zp_t.mpr (split.mpr ⟨c0, fun _ q => absurd q (zp_f.mp c2)⟩)]; rfl, rfl⟩
        · rw [if_neg c2]
          by_cases c3 : zp (zq_D P nb c a) = false
          · rw [if_pos c3]
            exact ⟨0, by rw [zp_f.mpr (fun q => zp_f.mp c3 ((split.mp q).2 hne (zp_t.mp (by simpa using c2))))]; rfl, rfl⟩
          · rw [if_neg c3]
            exact ⟨1, by rw [zp_t.mpr (split.mpr ⟨c0, fun _ _ => zp_t.mp (by simpa using c3)⟩)]; rfl, rfl⟩) (i := 0) (n := 10000) (Nat.zero_le nb) (a := (1 : Int32)) (by rw [zp_t.mpr (fun c q => by omega)]; rfl) (by omega)
  rw [nI_0] at this
  obtain ⟨v, h1, h2⟩ := this
  subst h1
  exact h2
def zm_R13 (P : zx_S) (nb n : Nat) (s : zx_S) : Prop := ∀ b, b < n → (∀ a, a < nb → zq_Par P nb a b → s 13 b = nI a) ∧ ((∀ a, a < nb → ¬ zq_Par P nb a b) → s 13 b = -1)
theorem zM_dom_L137_spec (hP : P 0 0 = nI nb) (hnb : nb ≤ 16) (k : zx_S → Option zx_S) {b : Nat} (hb : b < nb) {s : zx_S} (hB : zm_B P s0 s) (h10 : zm_R10 P nb s) (h12 : zm_R12 P nb nb s) (hF : ∀ c i, c ≠ 13 ∨ i ≠ b → s c i = s0 c i) (h13 : s 13 b = -1) : ∃ s', ((zm_B P s0 s' ∧ zm_R10 P nb s' ∧ zm_R12 P nb nb s') ∧ (∀ c i, c ≠ 13 ∨ i ≠ b → s' c i = s0 c i) ∧ (∀ a, a < nb → zq_Par P nb a b → s' 13 b = nI a) ∧ ((∀ a, a < nb → ¬ zq_Par P nb a b) → s' 13 b = -1)) ∧ zM_ValueBenchModel_dominance_L137 (nI b) k 10000 (0 : Int32) s = k s' := by
  have := zf_for (L := fun n i s => zM_ValueBenchModel_dominance_L137 (nI b) k n i s) (k := k) nb (fun i s => (zm_B P s0 s ∧ zm_R10 P nb s ∧ zm_R12 P nb nb s) ∧ (∀ c j, c ≠ 13 ∨ j ≠ b → s c j = s0 c j) ∧ (∀ a, a < i → zq_Par P nb a b → s 13 b = nI a) ∧ ((∀ a, a < i → ¬ zq_Par P nb a b) → s 13 b = -1)) (fun n s h => by
    show zM_ValueBenchModel_dominance_L137 (nI b) k (n + 1) (nI nb) s = k s
    rw [zM_ValueBenchModel_dominance_L137, if_pos (by rw [h.1.1.1.1, hP]; exact Int32.le_refl _)]) (fun n a s ha h => by
    obtain ⟨⟨g1, g2, g3⟩, gF, g4, g5⟩ := h
    show ∃ a', _ ∧ zM_ValueBenchModel_dominance_L137 (nI b) k (n + 1) (nI a) s = _
    rw [zM_ValueBenchModel_dominance_L137, if_neg (by rw [g1.1.1, hP, nI_leI (by omega) (by omega)]; omega)]
    simp only [zM_dom1_eq g3 hnb ha hb, zc_b1, zc_lt, nI_1, zi_0, zM_dom_L167_spec hP hnb _ ha hb g1.1 g3, zc_ck (show b < 16 by omega) (by decide), zc_cl (show b < 2 ^ 31 by omega), zc_ls]
    have skip : ¬ zq_Par P nb a b → (zm_B P s0 s ∧ zm_R10 P nb s ∧ zm_R12 P nb nb s) ∧ (∀ c j, c ≠ 13 ∨ j ≠ b → s c j = s0 c j) ∧ (∀ a', a' < a + 1 → zq_Par P nb a' b → s 13 b = nI a') ∧ ((∀ a', a' < a + 1 → ¬ zq_Par P nb a' b) → s 13 b = -1) := by
      intro hn
      refine ⟨⟨g1, g2, g3⟩, gF, fun a' ha' hp => ?_, fun q => g5 (fun a' ha' => q a' (by omega))⟩
      by_cases e : a' = a
      · rw [e] at hp; exact absurd hp hn
      · exact g4 a' (by omega) hp
    by_cases c1 : nI a = nI b
    · rw [if_pos c1]
      exact ⟨s, skip (fun q => q.1 (nI_inj (by omega) (by omega) c1)), rfl⟩
    · rw [if_neg c1]
      have hne : a ≠ b := fun e => c1 (by rw [e])
      by_cases c2 : zp (zq_D P nb a b) = false
      · rw [if_pos c2]
        exact ⟨s, skip (fun q => zp_f.mp c2 q.2.1), rfl⟩
      · rw [if_neg c2]
        have hD : zq_D P nb a b := zp_t.mp (by simpa using c2)
        by_cases c3 : zp (∀ c, c < nb → c ≠ b → zq_D P nb c b → zq_D P nb c a) = false
        · rw [if_pos c3]
          have hn : ¬ zq_Par P nb a b := fun q => zp_f.mp c3 (fun c _ => q.2.2 c)
          have e : zx_su s 13 b (s 13 b) = s := by
            funext c j
            rw [zs_at]
            by_cases h : c = 13 ∧ j = b
            · rw [if_pos h, h.1, h.2]
            · rw [if_neg h]
          rw [e]
          exact ⟨s, skip hn, rfl⟩
        · rw [if_neg c3]
          have c3' : ∀ c, c < nb → c ≠ b → zq_D P nb c b → zq_D P nb c a := zp_t.mp (by simpa using c3)
          have hp : zq_Par P nb a b := ⟨hne, hD, fun c hc q => c3' c q.rcl.1 hc q⟩
          refine ⟨_, ⟨⟨g1.su (by decide) (by decide), g2.su (by decide), g3.su (by decide)⟩, fun c j hc => ?_, fun a' ha' hp' => ?_, fun q => absurd hp (q a (by omega))⟩, rfl⟩
          · rw [zs_ne hc]; exact gF c j hc
          · rw [zs_eq, hp.uniq hp']) (i := 0) (n := 10000) (Nat.zero_le nb) (a := s) ⟨⟨hB, h10, h12⟩, hF, fun a ha => by omega, fun _ => h13⟩ (by omega)
  rw [nI_0] at this
  exact this
end MD
