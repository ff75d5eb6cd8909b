/-! PURE: the reference's names(), first half: what each VARIABLE is at a BLOCK's begin and end, OPERANDS of INSTRUCTIONS -/
theorem zM_J158b_eq (k : Int32 → zx_S → Option zx_S) (v1 v2 v3 t1 t2 : Int32) (s : zx_S) : zM_ValueBenchModel_names_J158b k v1 v2 v3 t1 t2 s = zM_ValueBenchModel_names_J158 k v1 v2 v3 t1 t2 s := rfl
theorem zM_L95b_eq (v1 v2 : Int32) (k : zx_S → Option zx_S) : ∀ (n : Nat) (v3 : Int32) (s : zx_S), zM_ValueBenchModel_names_L95b v1 v2 k n v3 s = zM_ValueBenchModel_names_L95 v1 v2 k n v3 s := by
  intro n
  induction n with
  | zero => intro v3 s; rfl
  | succ n ih =>
    have e : zM_ValueBenchModel_names_L95b v1 v2 k n = zM_ValueBenchModel_names_L95 v1 v2 k n := by funext a b; exact ih a b
    intro v3 s
    rw [zM_ValueBenchModel_names_L95b, zM_ValueBenchModel_names_L95]
    simp only [zM_J158b_eq, e]
theorem zM_L196b_eq (v1 v2 : Int32) (k : zx_S → Option zx_S) : ∀ (n : Nat) (v3 : Int32) (s : zx_S), zM_ValueBenchModel_names_L196b v1 v2 k n v3 s = zM_ValueBenchModel_names_L196 v1 v2 k n v3 s := by
  intro n
  induction n with
  | zero => intro v3 s; rfl
  | succ n ih =>
    intro v3 s
    rw [zM_ValueBenchModel_names_L196b, zM_ValueBenchModel_names_L196]
    simp only [ih]
section NA
variable {P s0 : zx_S} {nb : Nat} {sz : Nat → Nat}
theorem zM_names_L95_spec (hW : zq_WF P nb sz) (k : zx_S → Option zx_S) {b : Nat} (hb : zq_rc P nb b) {s : zx_S} (hs : zq_Pg P s) (h15 : zm_R15 P nb sz s) (h23 : ∀ v, v < 10 → zq_HC P nb sz v b → s 23 (10 * b + v) = nI (zq_ic P nb sz b v)) (h13 : b ≠ 0 → s 13 b = nI (zq_pa P nb b)) (h26 : b ≠ 0 → ∀ v, v < 10 → s 26 (10 * zq_pa P nb b + v) = nI (zq_En P nb sz (zq_pa P nb b) v)) : ∃ s', (zq_Pg P s' ∧ (∀ v, v < 10 → s' 27 v = nI (zq_Bg P nb sz b v) ∧ s' 25 (10 * b + v) = nI (zq_Bg P nb sz b v)) ∧ (∀ c i, c ≠ 27 → (c ≠ 25 ∨ i < 10 * b ∨ 10 * b + 10 ≤ i) → s' c i = s c i)) ∧ zM_ValueBenchModel_names_L95 (1 : Int32) (nI b) k 10000 (0 : Int32) s = k s' := by
  have hnb := hW.2.1
  have hbn := hb.1
  have := zf_for (L := fun n i s => zM_ValueBenchModel_names_L95 (1 : Int32) (nI b) k n i s) (k := k) 10 (fun v t => zq_Pg P t ∧ (∀ v', v' < v → t 27 v' = nI (zq_Bg P nb sz b v') ∧ t 25 (10 * b + v') = nI (zq_Bg P nb sz b v')) ∧ (∀ c i, c ≠ 27 → (c ≠ 25 ∨ i < 10 * b ∨ 10 * b + 10 ≤ i) → t c i = s c i)) (fun n t h => by
    show zM_ValueBenchModel_names_L95 (1 : Int32) (nI b) k (n + 1) (nI 10) t = k t
    rw [zM_ValueBenchModel_names_L95, if_pos (by decide)]) (fun n v t hv h => by
    obtain ⟨g1, g2, g3⟩ := h
    show ∃ a', _ ∧ zM_ValueBenchModel_names_L95 (1 : Int32) (nI b) k (n + 1) (nI v) t = _
    rw [zM_ValueBenchModel_names_L95, if_neg (by rw [show (10 : Int32) = nI 10 by decide, nI_leI (by omega) (by omega)]; omega)]
    have fin : ∀ x : Int32, x = nI (zq_Bg P nb sz b v) → ∃ a', (zq_Pg P a' ∧ (∀ v', v' < v + 1 → a' 27 v' = nI (zq_Bg P nb sz b v') ∧ a' 25 (10 * b + v') = nI (zq_Bg P nb sz b v')) ∧ (∀ c i, c ≠ 27 → (c ≠ 25 ∨ i < 10 * b ∨ 10 * b + 10 ≤ i) → a' c i = s c i)) ∧ zM_ValueBenchModel_names_J158 (zM_ValueBenchModel_names_L95 (1 : Int32) (nI b) k n) (1 : Int32) (nI b) (nI v) (nI v) x t = zM_ValueBenchModel_names_L95 (1 : Int32) (nI b) k n (nI (v + 1)) a' := by
      intro x hx
      unfold zM_ValueBenchModel_names_J158
      rw [zc_ck hv (by decide), zc_cl (by omega), zc_ls, zc_ck hv (by decide), zs_eq, zc_lt, nI_10, zc_ck (show 10 * b + v < 160 by omega) (by decide), zc_cl (show 10 * b + v < 2 ^ 31 by omega), zc_ls, zc_lt, nI_1]
      refine ⟨_, ⟨(g1.su (Or.inl (by decide))).su (Or.inl (by decide)), fun v' hv' => ?_, fun c i h1 h2 => ?_⟩, rfl⟩
      · by_cases q : v' = v
        · subst q
          exact ⟨by rw [zs_ne (Or.inl (by decide)), zs_eq, hx], by rw [zs_eq, hx]⟩
        · have := g2 v' (by omega)
          exact ⟨by rw [zs_ne (Or.inl (by decide)), zs_ne (Or.inr q)]; exact this.1, by rw [zs_ne (Or.inr (by omega)), zs_ne (Or.inl (by decide))]; exact this.2⟩
      · rw [zs_ne (by omega), zs_ne (Or.inl h1)]; exact g3 c i h1 h2
    simp only [nI_10, zc_ck (show 10 * b + v < 160 by omega) (by decide), zc_cl (show 10 * b + v < 2 ^ 31 by omega), zc_ck (show b < 16 by omega) (by decide), zc_cl (show b < 2 ^ 31 by omega)]
    rw [g3 15 _ (by decide) (Or.inl (by decide)), h15 b v (by omega) hv]
    simp only [zi_0]
    have eB := zq_Bg_eq (sz := sz) hb v
    by_cases c1 : zp (zq_HC P nb sz v b) = false
    · rw [if_pos c1]
      rw [c1] at eB
      simp only [Bool.false_eq_true, if_false] at eB
      by_cases c2 : nI b = 0
      · rw [if_pos c2]
        have h0 : b = 0 := nI_inj (by omega) (by omega) (c2.trans nI_0.symm)
        rw [if_pos h0] at eB
        exact fin 0 (by rw [eB, nI_0])
      · rw [if_neg c2]
        have h0 : b ≠ 0 := fun q => c2 (by rw [q]; exact nI_0)
        rw [if_neg h0] at eB
        have hpa := (zq_pa_ok hb h0).2.1.rcl.1
        rw [g3 13 _ (by decide) (Or.inl (by decide)), h13 h0, nI_10, zc_ck (show 10 * zq_pa P nb b + v < 160 by omega) (by decide), zc_cl (show 10 * zq_pa P nb b + v < 2 ^ 31 by omega)]
        exact fin _ (by rw [g3 26 _ (by decide) (Or.inl (by decide)), h26 h0 v hv, eB])
    · rw [if_neg c1]
      have hH : zq_HC P nb sz v b := zp_t.mp (by simpa using c1)
      rw [zp_t.mpr hH] at eB
      simp only [if_true] at eB
      exact fin _ (by rw [g3 23 _ (by decide) (Or.inl (by decide)), h23 v hv hH, eB])) (i := 0) (n := 10000) (Nat.zero_le 10) (a := s) ⟨hs, fun v hv => by omega, fun _ _ _ _ => rfl⟩ (by omega)
  rw [nI_0] at this
  exact this
theorem zM_names_L196_spec (k : zx_S → Option zx_S) {b : Nat} (hb : b < 16) {e : Nat → Nat} {s : zx_S} (hs : zq_Pg P s) (h27 : ∀ v, v < 10 → s 27 v = nI (e v)) : ∃ s', (zq_Pg P s' ∧ (∀ v, v < 10 → s' 26 (10 * b + v) = nI (e v)) ∧ (∀ c i, (c ≠ 26 ∨ i < 10 * b ∨ 10 * b + 10 ≤ i) → s' c i = s c i)) ∧ zM_ValueBenchModel_names_L196 (1 : Int32) (nI b) k 10000 (0 : Int32) s = k s' := by
  have := zf_for (L := fun n i s => zM_ValueBenchModel_names_L196 (1 : Int32) (nI b) k n i s) (k := k) 10 (fun v t => zq_Pg P t ∧ (∀ v', v' < v → t 26 (10 * b + v') = nI (e v')) ∧ (∀ c i, (c ≠ 26 ∨ i < 10 * b ∨ 10 * b + 10 ≤ i) → t c i = s c i)) (fun n t h => by
    show zM_ValueBenchModel_names_L196 (1 : Int32) (nI b) k (n + 1) (nI 10) t = k t
    rw [zM_ValueBenchModel_names_L196, if_pos (by decide)]) (fun n v t hv h => by
    obtain ⟨g1, g2, g3⟩ := h
    show ∃ a', _ ∧ zM_ValueBenchModel_names_L196 (1 : Int32) (nI b) k (n + 1) (nI v) t = _
    rw [zM_ValueBenchModel_names_L196, if_neg (by rw [show (10 : Int32) = nI 10 by decide, nI_leI (by omega) (by omega)]; omega), zc_ck hv (by decide), zc_cl (by omega), zc_lt, nI_10, zc_ck (show 10 * b + v < 160 by omega) (by decide), zc_cl (show 10 * b + v < 2 ^ 31 by omega), zc_ls, zc_lt, nI_1]
    refine ⟨_, ⟨g1.su (Or.inl (by decide)), fun v' hv' => ?_, fun c i h2 => ?_⟩, rfl⟩
    · by_cases q : v' = v
      · subst q
        rw [zs_eq, g3 27 _ (Or.inl (by decide)), h27 _ hv]
      · rw [zs_ne (Or.inr (by omega))]; exact g2 v' (by omega)
    · rw [zs_ne (by omega)]; exact g3 c i h2) (i := 0) (n := 10000) (Nat.zero_le 10) (a := s) ⟨hs, fun v hv => by omega, fun _ _ _ => rfl⟩ (by omega)
  rw [nI_0] at this
  exact this
/-- what is given ahead of names() -/
def zk_Pre (P s0 : zx_S) (nb : Nat) (sz : Nat → Nat) : Prop := zq_Pg P s0 ∧ zm_R10 P nb s0 ∧ zm_R13 P nb nb s0 ∧ zm_R15 P nb sz s0 ∧ (∀ i b v, zq_isC P nb sz i b v → s0 23 (10 * b + v) = nI i ∧ i < 270 ∧ s0 22 i = 0) ∧ (∀ i b k, zq_isN P nb sz i b k → s0 24 (100 * b + k) = nI i ∧ i < 270 ∧ s0 22 i = 0)
/-- what is known of a BLOCK that has been met -/
def zk_F (P : zx_S) (nb : Nat) (sz : Nat → Nat) (b : Nat) (s : zx_S) : Prop := (∀ v, v < 10 → s 25 (10 * b + v) = nI (zq_Bg P nb sz b v)) ∧ (∀ v, v < 10 → s 26 (10 * b + v) = nI (zq_En P nb sz b v)) ∧ ∀ i k, zq_isN P nb sz i b k → 3 ≤ P 1 (100 * b + k) → s 22 i = 2 ∧ s 21 (20 * i) = nI (zq_At P nb sz b k (zq_y P b k)) ∧ s 21 (20 * i + 1) = nI (zq_At P nb sz b k (zq_z P b k))
def zk_W (P s0 : zx_S) (nb : Nat) (sz : Nat → Nat) (f : Nat → Bool) (s : zx_S) : Prop := zq_Pg P s ∧ (∀ b, b < nb → s 11 b = zi (f b)) ∧ (∀ c, c ≠ 11 → c ≠ 21 → c ≠ 22 → c ≠ 25 → c ≠ 26 → c ≠ 27 → s c = s0 c) ∧ (∀ b, zq_rc P nb b → f b = true → zk_F P nb sz b s) ∧ (∀ i, (∀ b k, zq_isN P nb sz i b k → f b = true → ¬ 3 ≤ P 1 (100 * b + k)) → s 22 i = s0 22 i) ∧ ∀ b, b < nb → ¬ zq_rc P nb b → f b = true
/-- one BLOCK is met -/
theorem zk_W.meet (hW : zq_WF P nb sz) (hp : zk_Pre P s0 nb sz) {b : Nat} (hb : zq_rc P nb b) {f : Nat → Bool} {s : zx_S} (h : zk_W P s0 nb sz f s) (hf : f b = false) (hpa : b ≠ 0 → f (zq_pa P nb b) = true) (k : zx_S → Option zx_S) : ∃ s', zk_W P s0 nb sz (fun x => if x = b then true else f x) s' ∧
    zM_ValueBenchModel_names_L95 (1 : Int32) (nI b) (fun s12 => zx_ck (nI b) 16 <| zx_b1 (zM_ValueBenchModel_through (nI b) (s12 5 (nI b).toNatClampNeg) (1 : Int32) s12) fun s13 => zM_ValueBenchModel_names_L196 (1 : Int32) (nI b) k 10000 (0 : Int32) s13) 10000 (0 : Int32) (zx_su s 11 b (zi true)) = k s' := by
  have hnb := hW.2.1
  have hbn := hb.1
  obtain ⟨p1, p2, p3, p4, p5, p6⟩ := hp
  obtain ⟨g1, g2, g3, g4, g5, g6⟩ := h
  have o0 : ∀ c i, c ≠ 11 → zx_su s 11 b (zi true) c i = s c i := fun c i hc => zs_ne (Or.inl hc)
  have fr : ∀ c i, c ≠ 11 → c ≠ 21 → c ≠ 22 → c ≠ 25 → c ≠ 26 → c ≠ 27 → zx_su s 11 b (zi true) c i = s0 c i := fun c i h1 h2 h3 h4 h5 h6 => by rw [o0 c i h1, g3 c h1 h2 h3 h4 h5 h6]
  obtain ⟨s1, ⟨w1, w2, w3⟩, w4⟩ := zM_names_L95_spec hW (fun s12 => zx_ck (nI b) 16 <| zx_b1 (zM_ValueBenchModel_through (nI b) (s12 5 (nI b).toNatClampNeg) (1 : Int32) s12) fun s13 => zM_ValueBenchModel_names_L196 (1 : Int32) (nI b) k 10000 (0 : Int32) s13) hb (s := zx_su s 11 b (zi true)) (g1.su (Or.inl (by decide))) (fun b' v' h1 h2 => by rw [fr 15 _ (by decide) (by decide) (by decide) (by decide) (by decide) (by decide)]; exact p4 b' v' h1 h2) (fun v hv hH => by rw [fr 23 _ (by decide) (by decide) (by decide) (by decide) (by decide) (by decide)]; exact (p5 _ b v ⟨hb, hv, hH, rfl⟩).1) (fun h0 => by
    rw [fr 13 _ (by decide) (by decide) (by decide) (by decide) (by decide) (by decide)]
    have q := zq_pa_ok hb h0
    exact (p3 b hbn).1 _ q.2.1.rcl.1 q) (fun h0 v hv => by
    rw [o0 26 _ (by decide)]
    exact (g4 _ (zq_pa_ok hb h0).2.1.rcl (hpa h0)).2.1 v hv)
  rw [w4, zc_ck (show b < 16 by omega) (by decide), zc_cl (show b < 2 ^ 31 by omega), w1.at (c := 5) (by decide) (by decide), (hW.2.2.1 b hbn).1]
  have c22 : ∀ i k, zq_isN P nb sz i b k → s 22 i = 0 := fun i k hN => by
    rw [g5 i (fun b' k' hN' q => by rw [← (hN.uniq hN').1, hf] at q; cases q)]; exact (p6 i b k hN).2.2
  obtain ⟨s2, v1, v2⟩ := zM_through_spec (s0 := s1) hW hb (Nat.le_refl (sz b)) true (e := zq_Bg P nb sz b) w1 (fun v hv => (w2 v hv).1) (fun i k hN => by
    rw [w3 24 _ (by decide) (Or.inl (by decide)), fr 24 _ (by decide) (by decide) (by decide) (by decide) (by decide) (by decide)]
    exact ⟨(p6 i b k hN).1, (p6 i b k hN).2.1⟩) (fun _ i k hN => by rw [w3 22 _ (by decide) (Or.inl (by decide)), o0 22 _ (by decide)]; exact c22 i k hN)
  rw [show (1 : Int32) = zi true from rfl] at *
  rw [v2, zc_b1]
  obtain ⟨t1, t2, t3, t4, t5⟩ := v1
  obtain ⟨s3, ⟨u1, u2, u3⟩, u4⟩ := zM_names_L196_spec k (show b < 16 by omega) t1 t2
  rw [show (1 : Int32) = zi true from rfl] at u4
  rw [u4]
  -- from s to s3
  have k25 : ∀ i, i < 10 * b ∨ 10 * b + 10 ≤ i → s3 25 i = s 25 i := fun i hi => by rw [u3 25 i (Or.inl (by decide)), t3 25 (by decide) (by decide) (by decide), w3 25 i (by decide) (Or.inr hi), o0 25 i (by decide)]
  have k26 : ∀ i, i < 10 * b ∨ 10 * b + 10 ≤ i → s3 26 i = s 26 i := fun i hi => by rw [u3 26 i (Or.inr hi), t3 26 (by decide) (by decide) (by decide), w3 26 i (by decide) (Or.inl (by decide)), o0 26 i (by decide)]
  have kop : ∀ i, (∀ k', zq_isN P nb sz i b k' → ¬ 3 ≤ P 1 (100 * b + k')) → s3 22 i = s 22 i ∧ ∀ j, j < 20 → s3 21 (20 * i + j) = s 21 (20 * i + j) := fun i hi => by
    have := t5 i (Or.inr (fun k' _ hN => hi k' hN))
    refine ⟨?_, fun j hj => ?_⟩
    · rw [u3 22 i (Or.inl (by decide)), this.1, w3 22 i (by decide) (Or.inl (by decide)), o0 22 i (by decide)]
    · rw [u3 21 _ (Or.inl (by decide)), this.2 j hj, w3 21 _ (by decide) (Or.inl (by decide)), o0 21 _ (by decide)]
  have kall : ∀ c i, c ≠ 21 → c ≠ 22 → c ≠ 25 → c ≠ 26 → c ≠ 27 → s3 c i = zx_su s 11 b (zi true) c i := fun c i h1 h2 h3 h4 h5 => by rw [u3 c i (Or.inl h4), t3 c h1 h2 h5, w3 c i h5 (Or.inl h3)]
  refine ⟨s3, ⟨u1, fun x hx => ?_, fun c h1 h2 h3 h4 h5 h6 => ?_, fun x hx hfx => ?_, fun i hi => ?_, fun x hx hr => ?_⟩, rfl⟩
  · rw [kall 11 x (by decide) (by decide) (by decide) (by decide) (by decide)]
    by_cases q : x = b
    · subst q; rw [zs_eq]; simp
    · rw [zs_ne (Or.inr q), g2 x hx]; simp [q]
  · funext i; rw [kall c i h2 h3 h4 h5 h6]; exact fr c i h1 h2 h3 h4 h5 h6
  · by_cases q : x = b
    · subst q
      refine ⟨fun v hv => ?_, fun v hv => u2 v hv, fun i k' hN h3 => ?_⟩
      · rw [u3 25 _ (Or.inl (by decide)), t3 25 (by decide) (by decide) (by decide)]; exact (w2 v hv).2
      · have := t4 i k' hN.2.1 hN rfl h3
        rw [u3 22 _ (Or.inl (by decide)), u3 21 _ (Or.inl (by decide)), u3 21 _ (Or.inl (by decide))]
        exact this
    · simp only [q, if_false] at hfx
      obtain ⟨a1, a2, a3⟩ := g4 x hx hfx
      refine ⟨fun v hv => by rw [k25 _ (by omega)]; exact a1 v hv, fun v hv => by rw [k26 _ (by omega)]; exact a2 v hv, fun i k' hN h3 => ?_⟩
      have := kop i (fun k'' hN' => absurd (hN.uniq hN').1 q)
      have e0 := this.2 0 (by decide)
      rw [this.1, this.2 1 (by decide), show 20 * i = 20 * i + 0 from rfl, e0]
      exact a3 i k' hN h3
  · rw [(kop i (fun k' hN => hi b k' hN (by simp))).1]
    refine g5 i (fun b' k' hN hf' => hi b' k' hN ?_)
    by_cases q : b' = b
    · simp [q]
    · simp [q, hf']
  · by_cases q : x = b
    · simp [q]
    · simp only [q, if_false]; exact g6 x hx hr
end NA
