/-! PURE: the reference's names(), all blocks; OPERANDS of CHOICES -/
section NB
variable {P s0 : zx_S} {nb : Nat} {sz : Nat → Nat}
theorem zM_names_L2_spec (hW : zq_WF P nb sz) (hp : zk_Pre P s0 nb sz) (k : zx_S → Option zx_S) : ∃ s', zk_W P s0 nb sz (fun b => zp (¬ zq_rc P nb b)) s' ∧ zM_ValueBenchModel_names_L2 k 10000 (0 : Int32) s0 = k s' := by
  have hnb := hW.2.1
  have hP := hW.1
  have := zf_for (L := fun n i a => zM_ValueBenchModel_names_L2 k n i a) (k := k) nb (fun i s => zq_Pg P s ∧ (∀ b, b < i → s 11 b = zi (zp (¬ zq_rc P nb b))) ∧ ∀ c, c ≠ 11 → s c = s0 c) (fun n s h => by
    show zM_ValueBenchModel_names_L2 k (n + 1) (nI nb) s = k s
    rw [zM_ValueBenchModel_names_L2, if_pos (by rw [h.1.1, hP]; exact Int32.le_refl _)]) (fun n i s hi h => by
    obtain ⟨g1, g2, g3⟩ := h
    have key : ∀ v : Bool, v = zp (¬ zq_rc P nb i) → zq_Pg P (zx_su s 11 i (zi v)) ∧ (∀ b, b < i + 1 → zx_su s 11 i (zi v) 11 b = zi (zp (¬ zq_rc P nb b))) ∧ ∀ c, c ≠ 11 → zx_su s 11 i (zi v) c = s0 c := by
      intro v hv
      refine ⟨g1.su (Or.inl (by decide)), fun b hb => ?_, fun c hc => by rw [zs_c hc]; exact g3 c hc⟩
      by_cases q : b = i
      · subst q; rw [zs_eq, hv]
      · rw [zs_ne (Or.inr q)]; exact g2 b (by omega)
    show ∃ a', _ ∧ zM_ValueBenchModel_names_L2 k (n + 1) (nI i) s = _
    rw [zM_ValueBenchModel_names_L2, if_neg (by rw [g1.1, hP, nI_leI (by omega) (by omega)]; omega)]
    simp only [zc_ck (show i < 16 by omega) (by decide), zc_cl (show i < 2 ^ 31 by omega), zc_ls, zc_lt, nI_1, zi_nar0, zi_nar1]
    rw [g3 10 (by decide), hp.2.1 i hi]
    simp only [zi_0]
    by_cases c1 : zp (zq_rc P nb i) = false
    · rw [if_pos c1]
      exact ⟨_, key true (zp_t.mpr (zp_f.mp c1)).symm, rfl⟩
    · rw [if_neg c1]
      exact ⟨_, key false (zp_f.mpr (fun q => q (zp_t.mp (by simpa using c1)))).symm, rfl⟩) (i := 0) (n := 10000) (Nat.zero_le nb) (a := s0) ⟨hp.1, fun b hb => by omega, fun _ _ => rfl⟩ (by omega)
  rw [nI_0] at this
  obtain ⟨s', ⟨g1, g2, g3⟩, h2⟩ := this
  exact ⟨s', ⟨g1, g2, fun c h _ _ _ _ _ => g3 c h, fun b hr hf => absurd hr (zp_t.mp hf), fun i _ => by rw [g3 22 (by decide)], fun b _ hr => zp_t.mpr hr⟩, h2⟩
def zk_I (P : zx_S) (nb : Nat) (f0 : Nat → Bool) (b : Nat) (mo : Bool) (f : Nat → Bool) : Prop := (∀ x, x < nb → f0 x = true → f x = true) ∧ (mo = false → (∀ x, x < nb → f x = f0 x) ∧ ∀ x, x < b → x < nb → f x = true ∨ (x ≠ 0 ∧ f (zq_pa P nb x) = false)) ∧ (mo = true → zn f0 nb < zn f nb)
theorem zM_names_L46_spec (hW : zq_WF P nb sz) (hp : zk_Pre P s0 nb sz) (k : Int32 → zx_S → Option zx_S) {f0 : Nat → Bool} {s : zx_S} (hC : zk_W P s0 nb sz f0 s) : ∃ mo' f' s', zk_W P s0 nb sz f' s' ∧ zk_I P nb f0 nb mo' f' ∧ zM_ValueBenchModel_names_L46 k 10000 (0 : Int32) (0 : Int32) s = k (zi mo') s' := by
  have hnb := hW.2.1
  have hP := hW.1
  have := zf_for (A := Int32 × zx_S) (L := fun n i q => zM_ValueBenchModel_names_L46 k n q.1 i q.2) (k := fun q => k q.1 q.2) nb (fun b q => ∃ mo f, q.1 = zi mo ∧ zk_W P s0 nb sz f q.2 ∧ zk_I P nb f0 b mo f) (fun n q h => by
    obtain ⟨mo, f, h1, h2, h3⟩ := h
    show zM_ValueBenchModel_names_L46 k (n + 1) q.1 (nI nb) q.2 = k q.1 q.2
    rw [zM_ValueBenchModel_names_L46, if_pos (by rw [h2.1.1, hP]; exact Int32.le_refl _)]) (fun n b q hb h => by
    obtain ⟨mo, f, h1, h2, h3⟩ := h
    obtain ⟨m1, s⟩ := q
    dsimp only at h1 h2
    subst h1
    show ∃ a' : Int32 × zx_S, _ ∧ zM_ValueBenchModel_names_L46 k (n + 1) (zi mo) (nI b) s = zM_ValueBenchModel_names_L46 k n a'.1 (nI (b + 1)) a'.2
    have skip : (f b = true ∨ (b ≠ 0 ∧ f (zq_pa P nb b) = false)) → zk_I P nb f0 (b + 1) mo f := by
      intro hs
      refine ⟨h3.1, fun q => ⟨(h3.2.1 q).1, fun x hx hx2 => ?_⟩, h3.2.2⟩
      by_cases e : x = b
      · rw [e]; exact hs
      · exact (h3.2.1 q).2 x (by omega) hx2
    rw [zM_ValueBenchModel_names_L46, if_neg (by rw [h2.1.1, hP, nI_leI (by omega) (by omega)]; omega), zc_ck (show b < 16 by omega) (by decide), zc_cl (show b < 2 ^ 31 by omega), h2.2.1 b hb]
    simp only [zi_0, zM_L95b_eq, zM_L196b_eq, zc_ls, zi_nar1]
    by_cases c1 : f b = false
    · rw [if_pos c1]
      have hr : zq_rc P nb b := Classical.byContradiction fun q => by
        have := h2.2.2.2.2.2 b hb q
        rw [c1] at this; cases this
      have grow : zn f0 nb < zn (fun x => if x = b then true else f x) nb := by
        refine zn_lt (fun x hx q => ?_) hb ?_ (by simp)
        · by_cases e : x = b
          · simp [e]
          · simp [e, h3.1 x hx q]
        · by_cases q : f0 b = true
          · have := h3.1 b hb q; rw [c1] at this; cases this
          · simpa using q
      have sup : ∀ x, x < nb → f0 x = true → (if x = b then true else f x) = true := fun x hx q => by
        by_cases e : x = b
        · simp [e]
        · simp [e, h3.1 x hx q]
      by_cases c2 : nI b ≤ 0
      · rw [if_pos c2]
        have h0 : b = 0 := by
          rw [← nI_0, nI_leI (by omega) (by omega)] at c2; omega
        obtain ⟨s', w1, w2⟩ := h2.meet hW hp hr c1 (fun q => absurd h0 q) (fun s29 => zx_lt (nI b + 1) fun v2_30 => zM_ValueBenchModel_names_L46 k n (1 : Int32) v2_30 s29)
        rw [zc_cl (show b < 2 ^ 31 by omega)] at w2
        rw [zc_ck (show b < 16 by omega) (by decide), w2, zc_lt, nI_1]
        exact ⟨(zi true, s'), ⟨true, _, rfl, w1, sup, fun q => (by cases q), fun _ => grow⟩, rfl⟩
      · rw [if_neg c2]
        have h0 : b ≠ 0 := fun q => c2 (by rw [q, nI_0]; decide)
        have hpa := zq_pa_ok hr h0
        have e13 : s 13 b = nI (zq_pa P nb b) := by rw [h2.2.2.1 13 (by decide) (by decide) (by decide) (by decide) (by decide) (by decide)]; exact (hp.2.2.1 b hb).1 _ hpa.2.1.rcl.1 hpa
        have hpl := hpa.2.1.rcl.1
        rw [zc_ck (show b < 16 by omega) (by decide), e13, zc_ck (show zq_pa P nb b < 16 by omega) (by decide), zc_cl (show zq_pa P nb b < 2 ^ 31 by omega), h2.2.1 _ hpl]
        simp only [zi_0]
        by_cases c3 : f (zq_pa P nb b) = false
        · rw [if_pos c3, zc_lt, nI_1]
          exact ⟨(zi mo, s), ⟨mo, f, rfl, h2, skip (Or.inr ⟨h0, c3⟩)⟩, rfl⟩
        · rw [if_neg c3]
          obtain ⟨s', w1, w2⟩ := h2.meet hW hp hr c1 (fun _ => by simpa using c3) (fun s29 => zx_lt (nI b + 1) fun v2_30 => zM_ValueBenchModel_names_L46 k n (1 : Int32) v2_30 s29)
          rw [zc_cl (show b < 2 ^ 31 by omega)] at w2
          rw [zc_ck (show b < 16 by omega) (by decide), w2, zc_lt, nI_1]
          exact ⟨(zi true, s'), ⟨true, _, rfl, w1, sup, fun q => (by cases q), fun _ => grow⟩, rfl⟩
    · rw [if_neg c1, zc_lt, nI_1]
      exact ⟨(zi mo, s), ⟨mo, f, rfl, h2, skip (Or.inl (by simpa using c1))⟩, rfl⟩) (i := 0) (n := 10000) (Nat.zero_le nb) (a := (zi false, s)) ⟨false, f0, rfl, hC, fun _ _ q => q, fun _ => ⟨fun _ _ => rfl, fun x hx => by omega⟩, fun q => (by cases q)⟩ (by omega)
  obtain ⟨⟨m1, s'⟩, ⟨mo', f', h1, h2, h3⟩, h4⟩ := this
  dsimp only at h1 h2 h4
  rw [nI_0, h1, zi_f] at h4
  exact ⟨mo', f', s', h2, h3, h4⟩
theorem zM_names_L38_spec (hW : zq_WF P nb sz) (hp : zk_Pre P s0 nb sz) (k : zx_S → Option zx_S) {f : Nat → Bool} {s : zx_S} (hC : zk_W P s0 nb sz f s) : ∃ s', zk_W P s0 nb sz (fun _ => true) s' ∧ zM_ValueBenchModel_names_L38 k 10000 (1 : Int32) s = k s' := by
  have hnb := hW.2.1
  have := zf_loop (A := Int32 × zx_S) (L := fun n a => zM_ValueBenchModel_names_L38 k n a.1 a.2) (Out := fun o => ∃ s', zk_W P s0 nb sz (fun _ => true) s' ∧ o = k s') (Inv := fun m a => ∃ mo f, a.1 = zi mo ∧ zk_W P s0 nb sz f a.2 ∧ (mo = false → ∀ x, x < nb → f x = true ∨ (x ≠ 0 ∧ f (zq_pa P nb x) = false)) ∧ (mo = true → m = 17 - zn f nb) ∧ (mo = false → m = 0)) (fun n m a h => by
    obtain ⟨mo, f, h1, h2, h5, h6, h7⟩ := h
    obtain ⟨m1, t⟩ := a
    dsimp only at h1 h2
    subst h1
    cases mo with
    | false =>
      left
      have all : ∀ d x, x < nb → zq_dep P nb x < d → f x = true := by
        intro d
        induction d with
        | zero => intro x _ q; omega
        | succ d ih =>
          intro x hx hd
          by_cases hr : zq_rc P nb x
          · rcases h5 rfl x hx with q | ⟨q1, q2⟩
            · exact q
            · have hpa := zq_pa_ok hr q1
              have := ih (zq_pa P nb x) hpa.2.1.rcl.1 (by have := hpa.dep; omega)
              rw [q2] at this; cases this
          · exact h2.2.2.2.2.2 x hx hr
      have all' : ∀ x, x < nb → f x = true := fun x hx => all _ x hx (Nat.lt_succ_self _)
      refine ⟨t, ⟨h2.1, fun b hb => by rw [h2.2.1 b hb, all' b hb], h2.2.2.1, fun b hr _ => h2.2.2.2.1 b hr (all' b hr.1), fun i hi => h2.2.2.2.2.1 i (fun b k hN _ => hi b k hN rfl), fun _ _ _ => rfl⟩, ?_⟩
      show zM_ValueBenchModel_names_L38 k (n + 1) (zi false) t = k t
      rw [zM_ValueBenchModel_names_L38, if_pos zi_f]
    | true =>
      right
      have hm := h6 rfl
      have hle := zn_le f nb
      obtain ⟨mo', f', s', g1, g2, g3⟩ := zM_names_L46_spec hW hp (fun v1_32 s33 => zM_ValueBenchModel_names_L38 k n v1_32 s33) h2
      refine ⟨if mo' = true then 17 - zn f' nb else 0, (zi mo', s'), ?_, ⟨mo', f', rfl, g1, fun q x hx => (g2.2.1 q).2 x hx hx, fun q => by simp [q], fun q => by simp [q]⟩, ?_⟩
      · cases mo' with
        | false => simp; omega
        | true =>
          have := g2.2.2 rfl
          have := zn_le f' nb
          simp; omega
      · show zM_ValueBenchModel_names_L38 k (n + 1) (zi true) t = _
        rw [zM_ValueBenchModel_names_L38, if_neg (by decide), g3]) 10000 (17 - zn f nb) (zi true, s) ⟨true, f, rfl, hC, fun q => (by cases q), fun _ => rfl, fun q => (by cases q)⟩ (by omega)
  exact this
/-- the PREDECESSORS of b -/
def zq_pr (P : zx_S) (nb b p : Nat) : Prop := zq_rc P nb p ∧ zq_ld P nb p b
noncomputable def zq_np (P : zx_S) (nb b n : Nat) : Nat := zn (fun p => zp (zq_pr P nb b p)) n
/-- how many OPERANDS a CHOICE in b has -/
noncomputable def zq_no (P : zx_S) (nb b : Nat) : Nat := zq_np P nb b nb + (if b = 0 then 1 else 0)
/-- the OPERANDS of the CHOICE i of v in b, of the first n blocks -/
def zk_O (P : zx_S) (nb : Nat) (sz : Nat → Nat) (n i b v : Nat) (s : zx_S) : Prop := ∀ p, p < n → zq_pr P nb b p → s 21 (20 * i + zq_np P nb b p) = nI (zq_En P nb sz p v)
theorem zM_names_L294_spec (hW : zq_WF P nb sz) (k : zx_S → Option zx_S) {i b v : Nat} (hb : b < nb) (hv : v < 10) (hi : i < 270) {s : zx_S} (hs : zq_Pg P s) (h10 : zm_R10 P nb s) (h26 : ∀ p, zq_rc P nb p → s 26 (10 * p + v) = nI (zq_En P nb sz p v)) (h22 : s 22 i = 0) : ∃ s', (zq_Pg P s' ∧ s' 22 i = nI (zq_np P nb b nb) ∧ zk_O P nb sz nb i b v s' ∧ (∀ c, c ≠ 21 → c ≠ 22 → s' c = s c) ∧ (∀ j, j ≠ i → s' 22 j = s 22 j ∧ ∀ r, r < 20 → s' 21 (20 * j + r) = s 21 (20 * j + r))) ∧ zM_ValueBenchModel_names_L294 (nI b) (nI v) (nI i) k 10000 (0 : Int32) s = k s' := by
  have hnb := hW.2.1
  have hP := hW.1
  have := zf_for (L := fun n p t => zM_ValueBenchModel_names_L294 (nI b) (nI v) (nI i) k n p t) (k := k) nb (fun n t => zq_Pg P t ∧ t 22 i = nI (zq_np P nb b n) ∧ zk_O P nb sz n i b v t ∧ (∀ c, c ≠ 21 → c ≠ 22 → t c = s c) ∧ (∀ j, j ≠ i → t 22 j = s 22 j ∧ ∀ r, r < 20 → t 21 (20 * j + r) = s 21 (20 * j + r))) (fun n t h => by
    show zM_ValueBenchModel_names_L294 (nI b) (nI v) (nI i) k (n + 1) (nI nb) t = k t
    rw [zM_ValueBenchModel_names_L294, if_pos (by rw [h.1.1, hP]; exact Int32.le_refl _)]) (fun n p t hp h => by
    obtain ⟨g1, g2, g3, g4, g5⟩ := h
    show ∃ a', _ ∧ zM_ValueBenchModel_names_L294 (nI b) (nI v) (nI i) k (n + 1) (nI p) t = _
    rw [zM_ValueBenchModel_names_L294, if_neg (by rw [g1.1, hP, nI_leI (by omega) (by omega)]; omega), zc_ck (show p < 16 by omega) (by decide), zc_cl (show p < 2 ^ 31 by omega), g4 10 (by decide) (by decide), h10 p hp]
    simp only [zi_0, zc_lt, nI_1, zM_leads_eq g1 hnb hp hb, zc_b1, nI_10]
    have no : ¬ zq_pr P nb b p → zq_np P nb b (p + 1) = zq_np P nb b p := fun q => by unfold zq_np; rw [zn_step, zp_f.mpr q]; simp
    have skip : ¬ zq_pr P nb b p → (zq_Pg P t ∧ t 22 i = nI (zq_np P nb b (p + 1)) ∧ zk_O P nb sz (p + 1) i b v t ∧ (∀ c, c ≠ 21 → c ≠ 22 → t c = s c) ∧ (∀ j, j ≠ i → t 22 j = s 22 j ∧ ∀ r, r < 20 → t 21 (20 * j + r) = s 21 (20 * j + r))) := fun q => by
      refine ⟨g1, by rw [no q]; exact g2, fun p' hp' hq => ?_, g4, g5⟩
      by_cases e : p' = p
      · rw [e] at hq; exact absurd hq q
      · exact g3 p' (by omega) hq
    by_cases c1 : zp (zq_rc P nb p) = false
    · rw [if_pos c1]
      exact ⟨t, skip (fun q => zp_f.mp c1 q.1), rfl⟩
    · rw [if_neg c1]
      have hr : zq_rc P nb p := zp_t.mp (by simpa using c1)
      by_cases c2 : zp (zq_ld P nb p b) = false
      · rw [if_pos c2]
        exact ⟨t, skip (fun q => zp_f.mp c2 q.2), rfl⟩
      · rw [if_neg c2]
        have hpr : zq_pr P nb b p := ⟨hr, zp_t.mp (by simpa using c2)⟩
        have yes : zq_np P nb b (p + 1) = zq_np P nb b p + 1 := by unfold zq_np; rw [zn_step, zp_t.mpr hpr]; simp
        have hle : zq_np P nb b p ≤ p := zn_le _ _
        rw [zc_ck (show 10 * p + v < 160 by omega) (by decide), zc_cl (show 10 * p + v < 2 ^ 31 by omega), g4 26 (by decide) (by decide), h26 p hr, zM_adds_eq hi g2 (by omega), zc_b1]
        refine ⟨_, ⟨(g1.su (Or.inl (by decide))).su (Or.inl (by decide)), by rw [zs_eq, yes], fun p' hp' hq => ?_, fun c h1 h2 => by rw [zs_c h2, zs_c h1]; exact g4 c h1 h2, fun j hj => ⟨?_, fun r hr' => ?_⟩⟩, rfl⟩
        · rw [zs_ne (Or.inl (by decide))]
          by_cases e : p' = p
          · subst e; rw [zs_eq]
          · have h1 : zq_np P nb b p' < zq_np P nb b p := zn_in (by omega) (zp_t.mpr hq)
            rw [zs_ne (Or.inr (by omega))]; exact g3 p' (by omega) hq
        · rw [zs_ne (Or.inr hj), zs_ne (Or.inl (by decide))]; exact (g5 j hj).1
        · rw [zs_ne (Or.inl (by decide)), zs_ne (Or.inr (by omega))]; exact (g5 j hj).2 r hr') (i := 0) (n := 10000) (Nat.zero_le nb) (a := s) ⟨hs, by rw [h22]; exact nI_0.symm, fun p hp => by omega, fun _ _ _ => rfl, fun _ _ => ⟨rfl, fun _ _ => rfl⟩⟩ (by omega)
  rw [nI_0] at this
  exact this
/-- the CHOICES of the blocks below B, and of B those of the first n variables, have their OPERANDS; others none -/
def zk_Q (P s1 : zx_S) (nb : Nat) (sz : Nat → Nat) (B n : Nat) (s : zx_S) : Prop := zq_Pg P s ∧ (∀ c, c ≠ 21 → c ≠ 22 → s c = s1 c) ∧
  (∀ i b v, (b < B ∨ b = B ∧ v < n) → zq_isC P nb sz i b v → s 22 i = nI (zq_no P nb b) ∧ zk_O P nb sz nb i b v s ∧ (b = 0 → s 21 (20 * i + zq_np P nb b nb) = 0)) ∧
  (∀ i, (∀ b v, zq_isC P nb sz i b v → ¬ (b < B ∨ b = B ∧ v < n)) → s 22 i = s1 22 i ∧ ∀ r, r < 20 → s 21 (20 * i + r) = s1 21 (20 * i + r))
theorem zM_names_L246_spec (hW : zq_WF P nb sz) {s1 : zx_S} (hp : zk_Pre P s0 nb sz) (hC : zk_W P s0 nb sz (fun _ => true) s1) (k : zx_S → Option zx_S) {b : Nat} (hb : b < nb) {s : zx_S} (hQ : zk_Q P s1 nb sz b 0 s) : ∃ s', zk_Q P s1 nb sz (b + 1) 0 s' ∧ zM_ValueBenchModel_names_L246 (nI b) k 10000 (0 : Int32) s = k s' := by
  have hnb := hW.2.1
  have fr : ∀ c, c ≠ 11 → c ≠ 21 → c ≠ 22 → c ≠ 25 → c ≠ 26 → c ≠ 27 → s1 c = s0 c := hC.2.2.1
  by_cases hr : zq_rc P nb b
  · have := zf_for (L := fun n v t => zM_ValueBenchModel_names_L246 (nI b) k n v t) (k := k) 10 (fun v t => zk_Q P s1 nb sz b v t) (fun n t h => by
      show zM_ValueBenchModel_names_L246 (nI b) k (n + 1) (nI 10) t = k t
      rw [zM_ValueBenchModel_names_L246, zc_ck (show b < 16 by omega) (by decide), zc_cl (show b < 2 ^ 31 by omega), if_neg (by rw [h.2.1 10 (by decide) (by decide), fr 10 (by decide) (by decide) (by decide) (by decide) (by decide) (by decide), hp.2.1 b hb, zi_n]; exact zp_t.mpr hr), if_pos (by decide)]) (fun n v t hv h => by
      obtain ⟨g1, g2, g3, g4⟩ := id h
      have f10 : zm_R10 P nb t := fun x hx => by rw [g2 10 (by decide) (by decide), fr 10 (by decide) (by decide) (by decide) (by decide) (by decide) (by decide)]; exact hp.2.1 x hx
      show ∃ a', _ ∧ zM_ValueBenchModel_names_L246 (nI b) k (n + 1) (nI v) t = _
      rw [zM_ValueBenchModel_names_L246, zc_ck (show b < 16 by omega) (by decide), zc_cl (show b < 2 ^ 31 by omega), if_neg (by rw [f10 b hb, zi_n]; exact zp_t.mpr hr), if_neg (by rw [show (10 : Int32) = nI 10 by decide, nI_leI (by omega) (by omega)]; omega), nI_10, zc_ck (show 10 * b + v < 160 by omega) (by decide), zc_cl (show 10 * b + v < 2 ^ 31 by omega), g2 15 (by decide) (by decide), fr 15 (by decide) (by decide) (by decide) (by decide) (by decide) (by decide), hp.2.2.2.1 b v (by omega) hv]
      simp only [zi_0, zc_lt, nI_1]
      by_cases c1 : zp (zq_HC P nb sz v b) = false
      · rw [if_pos c1]
        refine ⟨t, ⟨g1, g2, fun i b' v' hbv hc => ?_, fun i hi => g4 i (fun b' v' hc q => hi b' v' hc (by omega))⟩, rfl⟩
        refine g3 i b' v' ?_ hc
        rcases hbv with q | ⟨q1, q2⟩
        · exact Or.inl q
        · by_cases e : v' = v
          · rw [q1, e] at hc; exact absurd hc.2.2.1 (zp_f.mp c1)
          · exact Or.inr ⟨q1, by omega⟩
      · rw [if_neg c1]
        have hH : zq_HC P nb sz v b := zp_t.mp (by simpa using c1)
        have hc0 : zq_isC P nb sz (zq_ic P nb sz b v) b v := ⟨hr, hv, hH, rfl⟩
        obtain ⟨q1, q2, q3⟩ := hp.2.2.2.2.1 _ b v hc0
        have r22 : s1 22 (zq_ic P nb sz b v) = 0 := by rw [hC.2.2.2.2.1 _ (fun b' k' hN _ => absurd hN (fun z => zq_isCN hc0 z)), q3]
        have t22 : t 22 (zq_ic P nb sz b v) = 0 := by
          rw [(g4 _ (fun b' v' hc q => by
            obtain ⟨e1, e2⟩ := hc0.uniq hc
            omega)).1, r22]
        rw [zc_ck (show 10 * b + v < 160 by omega) (by decide), g2 23 (by decide) (by decide), fr 23 (by decide) (by decide) (by decide) (by decide) (by decide) (by decide), q1]
        generalize hT : zq_ic P nb sz b v = ti at *
        obtain ⟨s2, ⟨w1, w2, w3, w4, w5⟩, w6⟩ := zM_names_L294_spec hW (fun s42 => if nI b = 0 then zx_b1 (zM_ValueBenchModel_adds (nI ti) (0 : Int32) s42) fun s43 => zM_ValueBenchModel_names_L246 (nI b) k n (nI (v + 1)) s43 else zM_ValueBenchModel_names_L246 (nI b) k n (nI (v + 1)) s42) hb hv q2 g1 f10 (fun p hpr => by rw [g2 26 (by decide) (by decide)]; exact (hC.2.2.2.1 p hpr rfl).2.1 v hv) t22
        rw [w6]
        have hle : zq_np P nb b nb ≤ nb := zn_le _ _
        -- the end, with the world s3 behind
        have fin : ∀ s3 : zx_S, zq_Pg P s3 → s3 22 ti = nI (zq_no P nb b) → zk_O P nb sz nb ti b v s3 → (b = 0 → s3 21 (20 * ti + zq_np P nb b nb) = 0) → (∀ c, c ≠ 21 → c ≠ 22 → s3 c = t c) → (∀ j, j ≠ ti → s3 22 j = t 22 j ∧ ∀ r, r < 20 → s3 21 (20 * j + r) = t 21 (20 * j + r)) → zk_Q P s1 nb sz b (v + 1) s3 := by
          intro s3 a1 a2 a3 a4 a5 a6
          refine ⟨a1, fun c h1 h2 => (a5 c h1 h2).trans (g2 c h1 h2), fun i b' v' hbv hc => ?_, fun i hi => ?_⟩
          · by_cases e : i = ti
            · subst e
              obtain ⟨e1, e2⟩ := hc0.uniq hc
              subst e1 e2
              exact ⟨a2, a3, a4⟩
            · have := g3 i b' v' (by
                rcases hbv with q | ⟨q1, q2⟩
                · exact Or.inl q
                · by_cases e2 : v' = v
                  · exact absurd (by rw [hc.2.2.2, q1, e2, hT]) e
                  · exact Or.inr ⟨q1, by omega⟩) hc
              have w := a6 i e
              refine ⟨by rw [w.1]; exact this.1, fun p hp' hpr => ?_, fun h0 => ?_⟩
              · have hlt : zq_np P nb b' p < nb := Nat.lt_of_le_of_lt (zn_le _ _) hp'
                rw [w.2 _ (by omega)]; exact this.2.1 p hp' hpr
              · have hl2 : zq_np P nb b' nb ≤ nb := zn_le _ _
                rw [w.2 _ (by omega)]; exact this.2.2 h0
          · have e : i ≠ ti := fun e => by subst e; exact hi b v hc0 (Or.inr ⟨rfl, by omega⟩)
            have w := a6 i e
            have := g4 i (fun b' v' hc q => hi b' v' hc (by omega))
            exact ⟨w.1.trans this.1, fun r hr' => (w.2 r hr').trans (this.2 r hr')⟩
        by_cases c2 : nI b = 0
        · rw [if_pos c2]
          have h0 : b = 0 := nI_inj (by omega) (by omega) (c2.trans nI_0.symm)
          rw [zM_adds_eq q2 w2 (by omega), zc_b1]
          refine ⟨_, fin _ ((w1.su (Or.inl (by decide))).su (Or.inl (by decide))) (by rw [zs_eq]; unfold zq_no; rw [if_pos h0]) (fun p hp' hpr => ?_) (fun _ => by rw [zs_ne (Or.inl (by decide)), zs_eq]) (fun c h1 h2 => by rw [zs_c h2, zs_c h1]; exact w4 c h1 h2) (fun j hj => ⟨by rw [zs_ne (Or.inr hj), zs_ne (Or.inl (by decide))]; exact (w5 j hj).1, fun r hr' => by rw [zs_ne (Or.inl (by decide)), zs_ne (Or.inr (by omega))]; exact (w5 j hj).2 r hr'⟩), rfl⟩
          have hlt : zq_np P nb b p < zq_np P nb b nb := zn_in hp' (zp_t.mpr hpr)
          rw [zs_ne (Or.inl (by decide)), zs_ne (Or.inr (by omega))]; exact w3 p hp' hpr
        · rw [if_neg c2]
          have h0 : b ≠ 0 := fun q => c2 (by rw [q]; exact nI_0)
          exact ⟨_, fin _ w1 (by rw [w2]; unfold zq_no; rw [if_neg h0]; rfl) w3 (fun q => absurd q h0) w4 w5, rfl⟩) (i := 0) (n := 10000) (Nat.zero_le 10) (a := s) hQ (by omega)
    rw [nI_0] at this
    obtain ⟨s', ⟨g1, g2, g3, g4⟩, h2⟩ := this
    refine ⟨s', ⟨g1, g2, fun i b' v' hbv hc => g3 i b' v' ?_ hc, fun i hi => g4 i (fun b' v' hc q => hi b' v' hc (by omega))⟩, h2⟩
    by_cases e : b' = b
    · exact Or.inr ⟨e, hc.2.1⟩
    · left; omega
  · refine ⟨s, ⟨hQ.1, hQ.2.1, fun i b' v' hbv hc => hQ.2.2.1 i b' v' ?_ hc, fun i hi => hQ.2.2.2 i (fun b' v' hc q => hi b' v' hc (by omega))⟩, ?_⟩
    · by_cases e : b' = b
      · rw [e] at hc; exact absurd hc.1 hr
      · left; omega
    · rw [zM_ValueBenchModel_names_L246, zc_ck (show b < 16 by omega) (by decide), zc_cl (show b < 2 ^ 31 by omega), if_pos (by rw [hQ.2.1 10 (by decide) (by decide), fr 10 (by decide) (by decide) (by decide) (by decide) (by decide) (by decide), hp.2.1 b hb, zi_0]; exact zp_f.mpr hr)]
/-- names(): all of it -/
theorem zM_names_spec (hW : zq_WF P nb sz) (hp : zk_Pre P s0 nb sz) : ∃ s1 s', (zk_W P s0 nb sz (fun _ => true) s1 ∧ zk_Q P s1 nb sz nb 0 s') ∧ zM_ValueBenchModel_names s0 = some s' := by
  have hnb := hW.2.1
  have hP := hW.1
  unfold zM_ValueBenchModel_names
  obtain ⟨sa, w1, w2⟩ := zM_names_L2_spec hW hp (fun s5 => zM_ValueBenchModel_names_L38 (fun s34 => zM_ValueBenchModel_names_L236 (fun s48 => some s48) 10000 (0 : Int32) s34) 10000 (1 : Int32) s5)
  rw [w2]
  obtain ⟨s1, v1, v2⟩ := zM_names_L38_spec hW hp (fun s34 => zM_ValueBenchModel_names_L236 (fun s48 => some s48) 10000 (0 : Int32) s34) w1
  rw [v2]
  have := zf_for (L := fun n b t => zM_ValueBenchModel_names_L236 (fun s48 => some s48) n b t) (k := fun s48 => some s48) nb (fun b t => zk_Q P s1 nb sz b 0 t) (fun n t h => by
    show zM_ValueBenchModel_names_L236 (fun s48 => some s48) (n + 1) (nI nb) t = some t
    rw [zM_ValueBenchModel_names_L236, if_pos (by rw [h.1.1, hP]; exact Int32.le_refl _)]) (fun n b t hb h => by
    show ∃ a', _ ∧ zM_ValueBenchModel_names_L236 (fun s48 => some s48) (n + 1) (nI b) t = _
    rw [zM_ValueBenchModel_names_L236, if_neg (by rw [h.1.1, hP, nI_leI (by omega) (by omega)]; omega)]
    obtain ⟨s2, u1, u2⟩ := zM_names_L246_spec hW hp v1 (fun s46 => zx_lt (nI b + 1) fun v2_47 => zM_ValueBenchModel_names_L236 (fun s48 => some s48) n v2_47 s46) hb h
    rw [u2, zc_lt, nI_1]
    exact ⟨s2, u1, rfl⟩) (i := 0) (n := 10000) (Nat.zero_le nb) (a := s1) ⟨v1.1, fun _ _ _ => rfl, fun i b v q => by omega, fun _ _ => ⟨rfl, fun _ _ => rfl⟩⟩ (by omega)
  rw [nI_0] at this
  obtain ⟨s', h1, h2⟩ := this
  exact ⟨s1, s', ⟨v1, h1⟩, h2⟩
end NB
