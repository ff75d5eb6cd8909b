/-! PURE: what holds between the two worlds; queries -/
/-- the latest RUN, and FUEL -/
def zI_R (σ τ : zx_S) : Prop := σ 50 3 = τ 0 34 ∧ (∃ f, f ≤ 5000 ∧ 1 ≤ f ∧ τ 0 34 = nI f) ∧ σ 50 4 = τ 0 35 ∧ σ 50 5 = τ 0 36 ∧ σ 50 6 = τ 0 37 ∧ σ 50 7 = τ 0 38 ∧ (∀ i, i < 60 → nI i < τ 0 37 → σ 52 i = τ 31 i) ∧ σ 45 0 = 0 ∧ σ 48 0 = 0
def zI_P (P : zx_S) (nb : Nat) (sz : Nat → Nat) (t : zc_Tb) (σ τ : zx_S) : Prop := zq_WF P nb sz ∧ (0 < nb → zq_Tab P nb sz t) ∧ (zq_Pg P τ ∧ (τ 0 11 ≠ 0 → zm_Cb P nb sz t τ) ∧ τ 0 1 = nI (zt sz nb)) ∧ (zX_Pr P nb sz σ ∧ σ 23 0 = 0 ∧ (σ 0 9 = 0 → zX_Ca P nb sz t σ)) ∧ zI_R σ τ
def zI (σ τ : zx_S) : Prop := ∃ P nb sz t, zI_P P nb sz t σ τ
theorem zI_R.keep {σ σ' τ τ' : zx_S} (h : zI_R σ τ) (h1 : ∀ c i, 41 < c → σ' c i = σ c i) (h2 : ∀ c i, (c = 0 ∧ i ≠ 18 ∧ i ≠ 11) ∨ 30 < c → τ' c i = τ c i) : zI_R σ' τ' := by
  obtain ⟨a1, a2, a3, a4, a5, a6, a7, a8, a9⟩ := h
  refine ⟨?_, ?_, ?_, ?_, ?_, ?_, fun i hi => ?_, ?_, ?_⟩
  · rw [h1 50 3 (by decide), h2 0 34 (by decide)]; exact a1
  · rw [h2 0 34 (by decide)]; exact a2
  · rw [h1 50 4 (by decide), h2 0 35 (by decide)]; exact a3
  · rw [h1 50 5 (by decide), h2 0 36 (by decide)]; exact a4
  · rw [h1 50 6 (by decide), h2 0 37 (by decide)]; exact a5
  · rw [h1 50 7 (by decide), h2 0 38 (by decide)]; exact a6
  · rw [h1 52 i (by decide), h2 0 37 (by decide), h2 31 i (Or.inr (by decide))]; exact a7 i hi
  · rw [h1 45 0 (by decide)]; exact a8
  · rw [h1 48 0 (by decide)]; exact a9
section IV
variable {P : zx_S} {nb : Nat} {sz : Nat → Nat} {t : zc_Tb}
theorem zI_P.X {σ τ : zx_S} (h : zI_P P nb sz t σ τ) : ∃ σ1, zX_ValueBench_refresh σ = some σ1 ∧ zX_Ca P nb sz t σ1 ∧ zI_P P nb sz t σ1 τ := by
  obtain ⟨hW, ht, hM, ⟨x1, x2, x3⟩, hR⟩ := h
  obtain ⟨σ1, ⟨a1, a2, a3, a4⟩, a5⟩ := zX_refresh_spec hW ht x1 x2 x3
  exact ⟨σ1, a5, a1, hW, ht, hM, ⟨a1.1, a3, fun _ => a1⟩, hR.keep (fun c i hc => a4 c i (by omega)) (fun _ _ _ => rfl)⟩
theorem zI_P.M {σ τ : zx_S} (h : zI_P P nb sz t σ τ) : ∃ τ1, zM_ValueBenchModel_make τ = some τ1 ∧ zm_Cb P nb sz t τ1 ∧ zI_P P nb sz t σ τ1 := by
  obtain ⟨hW, ht, ⟨m1, m2, m3⟩, hX, hR⟩ := h
  obtain ⟨τ1, ⟨a1, a2, a3, a4⟩, a5⟩ := zM_make_all hW ht m1 m2
  exact ⟨τ1, a5, a2, hW, ht, ⟨a1, fun _ => a2, by rw [a4 0 1 (by decide)]; exact m3⟩, hX, hR.keep (fun _ _ _ => rfl) a4⟩
theorem zM_isBlock_eq (hW : zq_WF P nb sz) {s : zx_S} (hs : zq_Pg P s) {b : Nat} (hb : b < 2 ^ 31) : zM_ValueBenchModel_isBlock (nI b) s = some (zi (decide (b < nb))) := by
  have hnb := hW.2.1
  unfold zM_ValueBenchModel_isBlock
  rw [if_neg (nI_pos hb), hs.1, hW.1]
  by_cases q : b < nb
  · rw [if_neg (by rw [nI_leI (by omega) hb]; omega), decide_eq_true q]; rfl
  · rw [if_pos (by rw [nI_leI (by omega) hb]; omega), decide_eq_false q]; rfl
theorem zM_isBlock_neg {p : Int32} (hp : p < 0) (s : zx_S) : zM_ValueBenchModel_isBlock p s = some 0 := by unfold zM_ValueBenchModel_isBlock; rw [if_pos hp]
theorem zX_has_neg {p : Int32} (hp : p < 0) (s : zx_S) : zX_Program_has p s = some 0 := by unfold zX_Program_has; rw [if_pos hp]
theorem zX_reaches_neg {p : Int32} (hp : p < 0) (s : zx_S) : zX_Graph_reaches p s = some 0 := by unfold zX_Graph_reaches; rw [if_pos hp]
theorem zp_no {p : Int32} (h : p < 0 ∨ ∃ n, n < 2 ^ 31 ∧ p = nI n) : True := trivial
theorem zI_int (p : Int32) : p < 0 ∨ ∃ n, n < 2 ^ 31 ∧ p = nI n := by
  by_cases h : p < 0
  · exact Or.inl h
  · exact Or.inr (nI_of h)
/-- a BLOCK that is reached, for the class -/
theorem zX_reach_cases (hW : zq_WF P nb sz) {s : zx_S} (h : zX_Ca P nb sz t s) (p : Int32) : (zX_Graph_reaches p s = some 0 ∧ ¬ ∃ b, p = nI b ∧ zq_rc P nb b) ∨ ∃ b, p = nI b ∧ zq_rc P nb b ∧ zX_Graph_reaches p s = some 1 := by
  have hnb := hW.2.1
  rcases zI_int p with q | ⟨b, hb, rfl⟩
  · left
    refine ⟨zX_reaches_neg q s, ?_⟩
    rintro ⟨b, rfl, hr⟩
    have := hr.1
    exact nI_pos (by omega) q
  · rw [zX_reaches_eq hnb h.2.1.1 hb]
    by_cases c : zq_rc P nb b
    · right; exact ⟨b, rfl, c, by rw [zp_t.mpr c]; rfl⟩
    · left
      refine ⟨by rw [zp_f.mpr c]; rfl, ?_⟩
      rintro ⟨b', e, hr⟩
      have := hr.1
      rw [nI_inj hb (by omega) e] at c; exact c hr
/-- a told BLOCK, for the reference -/
theorem zM_block_cases (hW : zq_WF P nb sz) {s : zx_S} (hs : zq_Pg P s) (p : Int32) : (zM_ValueBenchModel_isBlock p s = some 0 ∧ ¬ ∃ b, p = nI b ∧ b < nb) ∨ ∃ b, p = nI b ∧ b < nb ∧ zM_ValueBenchModel_isBlock p s = some 1 := by
  have hnb := hW.2.1
  rcases zI_int p with q | ⟨b, hb, rfl⟩
  · left
    refine ⟨zM_isBlock_neg q s, ?_⟩
    rintro ⟨b, rfl, hr⟩
    exact nI_pos (by omega) q
  · rw [zM_isBlock_eq hW hs hb]
    by_cases c : b < nb
    · right; exact ⟨b, rfl, c, by rw [decide_eq_true c]; rfl⟩
    · left
      refine ⟨by rw [decide_eq_false c]; rfl, ?_⟩
      rintro ⟨b', e, hr⟩
      rw [nI_inj hb (by omega) e] at c; exact c hr
theorem zm_Cb.r10 {s : zx_S} (h : zm_Cb P nb sz t s) {b : Nat} (hb : b < nb) : s 10 b = zi (zp (zq_rc P nb b)) := (h.1 (by omega)).1.1 b hb
theorem zX_nthOf_neg {x p : Int32} (hp : p < 0) (s : zx_S) : zX_Graph_nthOf x p s = some (-1) := by
  unfold zX_Graph_nthOf
  have := zf_loop (A := Nat × Nat) (L := fun n a => zX_Graph_nthOf_L4 x p s (fun v3_5 => some v3_5) n (nI a.1) (nI a.2)) (Out := fun o => o = some (-1)) (Inv := fun m a => a.2 ≤ 16 ∧ m = 16 - a.2 ∧ a.1 ≤ a.2) (fun n m a ha => by
    obtain ⟨c, i⟩ := a
    obtain ⟨h1, h2, h3⟩ := ha
    dsimp only at h1 h2 h3
    show (zX_Graph_nthOf_L4 x p s (fun v3_5 => some v3_5) (n + 1) (nI c) (nI i) = _) ∨ ∃ m' a', _ ∧ _ ∧ zX_Graph_nthOf_L4 x p s (fun v3_5 => some v3_5) (n + 1) (nI c) (nI i) = _
    rw [zX_Graph_nthOf_L4]
    by_cases e : i = 16
    · left; rw [if_pos (by rw [e]; decide)]
    · right
      rw [if_neg (by rw [show (16 : Int32) = nI 16 by decide, nI_leI (by omega) (by omega)]; omega), zX_isIn_eq _ (show i < 32 by omega), zc_b1, zi_isin]
      simp only [zi_0, zc_lt, nI_1]
      by_cases c1 : zb x i = false
      · rw [if_pos c1]
        exact ⟨16 - (i + 1), (c, i + 1), by omega, ⟨by show i + 1 ≤ 16; omega, rfl, by show c ≤ i + 1; omega⟩, rfl⟩
      · rw [if_neg c1, if_neg (fun z => nI_pos (show c < 2 ^ 31 by omega) (by rw [z]; exact hp))]
        exact ⟨16 - (i + 1), (c + 1, i + 1), by omega, ⟨by show i + 1 ≤ 16; omega, rfl, by show c + 1 ≤ i + 1; omega⟩, rfl⟩) 10000 16 (0, 0) ⟨by decide, rfl, by decide⟩ (by decide)
  dsimp only at this
  rw [nI_0] at this
  exact this
theorem zM_predecessorAt_neg (hW : zq_WF P nb sz) {s : zx_S} (hs : zq_Pg P s) {x p : Int32} (hp : p < 0) : zM_ValueBenchModel_predecessorAt x p s = some (-1) := by
  unfold zM_ValueBenchModel_predecessorAt
  rw [zM_ValueBenchModel_predecessorAt_L5]
  by_cases c : s 0 0 ≤ 0
  · rw [if_pos c]
  · rw [if_neg c, if_pos hp]
theorem zI_pred : zp_S5 zI := by
  rintro σ τ p q ⟨P, nb, sz, t, h⟩
  have hW := h.1
  have hnb := hW.2.1
  obtain ⟨σ1, x1, x2, x3⟩ := h.X
  unfold zX_ValueBench_predecessor zM_ValueBenchModel_predecessor
  rw [x1, zc_b1]
  rcases zM_block_cases hW h.2.2.1.1 p with ⟨m1, m2⟩ | ⟨b, rfl, hb, m1⟩
  · rcases zX_reach_cases hW x2 p with ⟨r1, -⟩ | ⟨b, e, hr, -⟩
    · rw [m1, zc_b1, if_pos rfl, r1, zc_b1, if_pos rfl]
      exact ⟨_, _, _, rfl, rfl, P, nb, sz, t, x3⟩
    · exact absurd ⟨b, e, hr.1⟩ m2
  · obtain ⟨τ1, y1, y2, y3⟩ := x3.M
    rw [m1, zc_b1, if_neg (by decide), y1, zc_b1]
    simp only [zc_ck (show b < 16 by omega) (by decide), zc_cl (show b < 2 ^ 31 by omega), y2.r10 hb, zi_0]
    rcases zX_reach_cases hW x2 (nI b) with ⟨r1, r2⟩ | ⟨b', e, hr, r1⟩
    · rw [r1, zc_b1, if_pos rfl, if_pos (zp_f.mpr (fun z => r2 ⟨b, rfl, z⟩))]
      exact ⟨_, _, _, rfl, rfl, P, nb, sz, t, y3⟩
    · have hbb := hr.1
      have e' := nI_inj (by omega) (by omega) e
      subst e'
      rw [r1, zc_b1, if_neg (by decide), if_neg (by rw [zp_t.mpr hr]; decide)]
      rcases zI_int q with hq | ⟨j, hj, rfl⟩
      · rw [zX_nthOf_neg hq, zM_predecessorAt_neg hW y3.2.2.1.1 hq]
        exact ⟨_, _, _, rfl, rfl, P, nb, sz, t, y3⟩
      · rw [zX_nthOf_eq hnb (x2.2.1.2.1 b (by omega)).2 hj, zM_predecessorAt_eq hW y3.2.2.1.1 (y2.1 (by omega)).1.1 hb hj]
        exact ⟨_, _, _, rfl, rfl, P, nb, sz, t, y3⟩
end IV
