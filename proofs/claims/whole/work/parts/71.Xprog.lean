/-! PURE: the program as the class's world holds it; ENDS -/
def zX_Pe (P : zx_S) (nb : Nat) (s : zx_S) : Prop := s 1 9 = nI nb ∧ (∀ b, b < nb → s 7 b = P 6 b ∧ (P 6 b = 0 → s 8 b = P 7 b) ∧ (P 6 b = 1 → s 9 b = P 8 b ∧ s 10 b = P 8 b) ∧ (P 6 b = 2 → s 8 b = P 7 b ∧ s 9 b = P 8 b ∧ s 10 b = P 9 b)) ∧ ∀ b, nb ≤ b → b < 16 → s 7 b = 0 ∧ s 8 b = 0
/-- INSTRUCTIONS stand sorted by BLOCKS -/
def zX_Pi (P : zx_S) (nb : Nat) (sz : Nat → Nat) (s : zx_S) : Prop := (∀ b, nb ≤ b → sz b = 0) ∧ (∀ b, b ≤ 16 → s 2 b = nI (zt sz b)) ∧ ∀ b k, b < nb → k < sz b → s 3 (zt sz b + k) = P 1 (100 * b + k) ∧ (s 4 (zt sz b + k) = if P 1 (100 * b + k) = 14 then -1 else P 2 (100 * b + k)) ∧ (s 5 (zt sz b + k) = if P 1 (100 * b + k) = 14 then P 2 (100 * b + k) else P 3 (100 * b + k)) ∧ (s 6 (zt sz b + k) = if P 1 (100 * b + k) = 14 then -1 else P 4 (100 * b + k))
/-- the class's world holds the program -/
def zX_Pr (P : zx_S) (nb : Nat) (sz : Nat → Nat) (s : zx_S) : Prop := zX_Pe P nb s ∧ zX_Pi P nb sz s
theorem zX_Pr.keep {P : zx_S} {nb : Nat} {sz : Nat → Nat} {s s' : zx_S} (h : zX_Pr P nb sz s) (hk : ∀ c i, 1 ≤ c → c ≤ 10 → s' c i = s c i) : zX_Pr P nb sz s' := by
  obtain ⟨⟨a1, a2, a3⟩, b1, b2, b3⟩ := h
  refine ⟨⟨by rw [hk 1 9 (by decide) (by decide)]; exact a1, fun b hb => ?_, fun b h1 h2 => ?_⟩, b1, fun b hb => by rw [hk 2 _ (by decide) (by decide)]; exact b2 b hb, fun b k hb hk' => ?_⟩
  · rw [hk 7 _ (by decide) (by decide), hk 8 _ (by decide) (by decide), hk 9 _ (by decide) (by decide), hk 10 _ (by decide) (by decide)]; exact a2 b hb
  · rw [hk 7 _ (by decide) (by decide), hk 8 _ (by decide) (by decide)]; exact a3 b h1 h2
  · rw [hk 3 _ (by decide) (by decide), hk 4 _ (by decide) (by decide), hk 5 _ (by decide) (by decide), hk 6 _ (by decide) (by decide)]; exact b3 b k hb hk'
section XP
variable {P : zx_S} {nb : Nat} {sz : Nat → Nat} {s : zx_S}
theorem zX_has_eq (h : s 1 9 = nI nb) (hnb : nb ≤ 16) {b : Nat} (hb : b < 2 ^ 31) : zX_Program_has (nI b) s = some (zi (decide (b < nb))) := by
  unfold zX_Program_has
  rw [if_neg (nI_pos hb), h]
  by_cases q : b < nb
  · rw [if_neg (by rw [nI_leI (by omega) hb]; omega), decide_eq_true q]; rfl
  · rw [if_pos (by rw [nI_leI (by omega) hb]; omega), decide_eq_false q]; rfl
/-- how an END counts, in cases -/
theorem zq_how_cases (hW : zq_WF P nb sz) {b : Nat} (hb : b < nb) : (zq_how P b = 0 ∧ P 6 b = 0) ∨ (∃ e, e < 16 ∧ P 6 b = 1 ∧ P 8 b = nI e ∧ ((e < nb ∧ zq_how P b = 1) ∨ (¬ e < nb ∧ zq_how P b = 0))) ∨ (∃ e f, e < 16 ∧ f < 16 ∧ P 6 b = 2 ∧ P 8 b = nI e ∧ P 9 b = nI f ∧ ((e < nb ∧ f < nb ∧ zq_how P b = 2) ∨ (¬ (e < nb ∧ f < nb) ∧ zq_how P b = 0))) := by
  have hnb := hW.2.1
  have h00 := hW.1
  unfold zq_how
  rcases hW.2.2.2.1 b hb with ⟨h1, -⟩ | ⟨h1, e, he, h2⟩ | ⟨h1, -, ⟨e, he, h2⟩, f, hf, h3⟩
  · left
    rw [h1, if_neg (by decide), if_neg (by decide)]; exact ⟨rfl, rfl⟩
  · right; left
    refine ⟨e, he, h1, h2, ?_⟩
    rw [if_pos h1, h00, h2, h1]
    by_cases q : e < nb
    · left; rw [if_neg (by rw [nI_leI (by omega) (by omega)]; omega)]; exact ⟨q, rfl⟩
    · right; rw [if_pos (by rw [nI_leI (by omega) (by omega)]; omega)]; exact ⟨q, rfl⟩
  · right; right
    refine ⟨e, f, he, hf, h1, h2, h3, ?_⟩
    rw [if_neg (by rw [h1]; decide), if_pos h1, h00, h2, h3, h1]
    by_cases q : e < nb
    · rw [if_neg (by rw [nI_leI (by omega) (by omega)]; omega)]
      by_cases r : f < nb
      · left; rw [if_pos (by rw [nI_ltI (by omega) (by omega)]; omega)]; exact ⟨q, r, rfl⟩
      · right; rw [if_neg (by rw [nI_ltI (by omega) (by omega)]; omega)]; exact ⟨fun z => r z.2, rfl⟩
    · right; rw [if_pos (by rw [nI_leI (by omega) (by omega)]; omega)]; exact ⟨fun z => q z.1, rfl⟩
theorem zX_endCounts_eq (hW : zq_WF P nb sz) (h : zX_Pe P nb s) {b : Nat} (hb : b < nb) : zX_Program_endCounts (nI b) s = some (zi (zp (zq_how P b = P 6 b))) := by
  have hnb := hW.2.1
  obtain ⟨a1, a2, -⟩ := h
  have ab := a2 b hb
  unfold zX_Program_endCounts
  simp only [zc_ck (show b < 16 by omega) (by decide), zc_cl (show b < 2 ^ 31 by omega)]
  rcases zq_how_cases hW hb with ⟨h1, h2⟩ | ⟨e, he, h1, h2, h3⟩ | ⟨e, f, he, hf, h1, h2, h4, h3⟩
  · rw [if_pos (by rw [ab.1, h2]), zp_t.mpr (by rw [h1, h2])]; rfl
  · have g := ab.2.2.1 h1
    rw [if_neg (by rw [ab.1, h1]; decide), g.1, g.2, h2]
    simp only [zX_has_eq a1 hnb (show e < 2 ^ 31 by omega), zc_b1, zi_0]
    rcases h3 with ⟨q1, q2⟩ | ⟨q1, q2⟩
    · rw [decide_eq_true q1, zp_t.mpr (by rw [q2, h1])]; rfl
    · rw [decide_eq_false q1, zp_f.mpr (by rw [q2, h1]; decide)]; rfl
  · have g := ab.2.2.2 h1
    rw [if_neg (by rw [ab.1, h1]; decide), g.2.1, g.2.2, h2, h4]
    simp only [zX_has_eq a1 hnb (show e < 2 ^ 31 by omega), zX_has_eq a1 hnb (show f < 2 ^ 31 by omega), zc_b1, zi_0]
    rcases h3 with ⟨q1, q2, q3⟩ | ⟨q1, q2⟩
    · rw [decide_eq_true q1, decide_eq_true q2, zp_t.mpr (by rw [q3, h1])]; rfl
    · rw [zp_f.mpr (by rw [q2, h1]; decide)]
      by_cases q : e < nb
      · rw [decide_eq_true q, decide_eq_false (fun z => q1 ⟨q, z⟩)]; rfl
      · rw [decide_eq_false q]; rfl
theorem zX_howCounts_eq (hW : zq_WF P nb sz) (h : zX_Pe P nb s) {b : Nat} (hb : b < nb) : zX_Program_howCounts (nI b) s = some (zq_how P b) := by
  have hnb := hW.2.1
  unfold zX_Program_howCounts
  rw [zX_endCounts_eq hW h hb, zc_b1]
  simp only [zi_0, zc_ck (show b < 16 by omega) (by decide), zc_cl (show b < 2 ^ 31 by omega), (h.2.1 b hb).1]
  by_cases c : zp (zq_how P b = P 6 b) = false
  · rw [if_pos c]
    have := zp_f.mp c
    rcases zq_how_cases hW hb with ⟨h1, h2⟩ | ⟨e, he, h1, h2, h3⟩ | ⟨e, f, he, hf, h1, h2, h4, h3⟩
    · rw [h1]
    · rcases h3 with ⟨q1, q2⟩ | ⟨q1, q2⟩
      · exact absurd (by rw [q2, h1]) this
      · rw [q2]
    · rcases h3 with ⟨q1, q2, q3⟩ | ⟨q1, q2⟩
      · exact absurd (by rw [q3, h1]) this
      · rw [q2]
  · rw [if_neg c]
    rw [zp_t.mp (show zp (zq_how P b = P 6 b) = true by simpa using c)]
theorem zX_toldBlocks_eq (hW : zq_WF P nb sz) (h : zX_Pe P nb s) {b : Nat} (hb : b < nb) : ∃ r, zX_Program_toldBlocks (nI b) s = some r ∧ zx_sm r ∧ ∀ c, zb r c = true ↔ zq_ld P nb b c := by
  have hnb := hW.2.1
  have ab := h.2.1 b hb
  unfold zX_Program_toldBlocks zq_ld
  rw [zX_howCounts_eq hW h hb, zc_b1]
  simp only [zc_ck (show b < 16 by omega) (by decide), zc_cl (show b < 2 ^ 31 by omega)]
  have no : zq_how P b = 0 → ∃ r, (if zq_how P b = 0 then some (0 : Int32) else some (((1 : Int32) <<< (s 9 b &&& 31)) ||| ((1 : Int32) <<< (s 10 b &&& 31)))) = some r ∧ zx_sm r ∧ ∀ c, zb r c = true ↔ b < nb ∧ c < nb ∧ ((0 < zq_how P b ∧ P 8 b = nI c) ∨ (zq_how P b = 2 ∧ P 9 b = nI c)) := fun q => by
    refine ⟨0, if_pos q, zx_sm_0, fun c => ?_⟩
    rw [zb_0, q]
    constructor
    · intro z; cases z
    · rintro ⟨-, -, z | z⟩
      · exact absurd z.1 (by decide)
      · exact absurd z.1 (by decide)
  rcases zq_how_cases hW hb with ⟨h1, h2⟩ | ⟨e, he, h1, h2, h3⟩ | ⟨e, f, he, hf, h1, h2, h4, h3⟩
  · exact no h1
  · rcases h3 with ⟨q1, q2⟩ | ⟨q1, q2⟩
    · have g := ab.2.2.1 h1
      rw [if_neg (by rw [q2]; decide), g.1, g.2, h2, q2]
      refine ⟨_, rfl, fun c hc => ?_, fun c => ?_⟩
      · rw [zb_or, zb_shl (show e < 32 by omega)]; simp; omega
      · rw [zb_or, zb_shl (show e < 32 by omega), Bool.or_self, decide_eq_true_iff]
        constructor
        · intro q; subst q; exact ⟨hb, q1, Or.inl ⟨by decide, rfl⟩⟩
        · rintro ⟨-, z1, z | z⟩
          · exact (nI_inj (by omega) (by omega) z.2).symm
          · exact absurd z.1 (by decide)
    · exact no q2
  · rcases h3 with ⟨q1, q2, q3⟩ | ⟨q1, q2⟩
    · have g := ab.2.2.2 h1
      rw [if_neg (by rw [q3]; decide), g.2.1, g.2.2, h2, h4, q3]
      refine ⟨_, rfl, fun c hc => ?_, fun c => ?_⟩
      · rw [zb_or, zb_shl (show e < 32 by omega), zb_shl (show f < 32 by omega)]; simp; omega
      · rw [zb_or, zb_shl (show e < 32 by omega), zb_shl (show f < 32 by omega), Bool.or_eq_true, decide_eq_true_iff, decide_eq_true_iff]
        constructor
        · rintro (q | q)
          · subst q; exact ⟨hb, q1, Or.inl ⟨by decide, rfl⟩⟩
          · subst q; exact ⟨hb, q2, Or.inr ⟨rfl, rfl⟩⟩
        · rintro ⟨-, z1, z | z⟩
          · exact Or.inl (nI_inj (by omega) (by omega) z.2).symm
          · exact Or.inr (nI_inj (by omega) (by omega) z.2).symm
    · exact no q2
end XP
