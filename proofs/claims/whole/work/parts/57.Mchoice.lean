/-! PURE: loops that look for one; the reference's choices() -/
theorem zf_first {R : Type} {L : Nat → Int32 → Option R} {K : Nat → Option R} {E : Option R} (N a : Nat) (p : Nat → Prop) (fin : ∀ n, L (n + 1) (nI N) = E) (hit : ∀ n i, a ≤ i → i < N → p i → L (n + 1) (nI i) = K i) (miss : ∀ n i, a ≤ i → i < N → ¬ p i → L (n + 1) (nI i) = L n (nI (i + 1))) (ha : a ≤ N) {n : Nat} (hn : N - a < n) :
    (∃ i, a ≤ i ∧ i < N ∧ p i ∧ (∀ j, a ≤ j → j < i → ¬ p j) ∧ L n (nI a) = K i) ∨ ((∀ j, a ≤ j → j < N → ¬ p j) ∧ L n (nI a) = E) := by
  have := zf_loop (A := Nat) (L := fun n i => L n (nI i)) (Out := fun o => (∃ i, a ≤ i ∧ i < N ∧ p i ∧ (∀ j, a ≤ j → j < i → ¬ p j) ∧ o = K i) ∨ ((∀ j, a ≤ j → j < N → ¬ p j) ∧ o = E)) (Inv := fun m i => a ≤ i ∧ i ≤ N ∧ m = N - i ∧ ∀ j, a ≤ j → j < i → ¬ p j) (fun n m i h => by
    obtain ⟨h1, h2, h3, h4⟩ := h
    by_cases hN : i = N
    · left; right
      subst hN
      exact ⟨h4, fin n⟩
    · by_cases hp : p i
      · left; left
        exact ⟨i, h1, by omega, hp, h4, hit n i h1 (by omega) hp⟩
      · right
        refine ⟨N - (i + 1), i + 1, by omega, ⟨by omega, by omega, rfl, fun j hj1 hj2 => ?_⟩, miss n i h1 (by omega) hp⟩
        by_cases e : j = i
        · rw [e]; exact hp
        · exact h4 j hj1 (by omega)) n (N - a) a ⟨Nat.le_refl _, ha, rfl, fun j h1 h2 => by omega⟩ hn
  exact this
/-- BLOCK a has an INSTRUCTION giving v -/
def zq_gv (P : zx_S) (sz : Nat → Nat) (a v : Nat) : Prop := ∃ k, k < sz a ∧ ¬ P 1 (100 * a + k) = 14 ∧ P 2 (100 * a + k) = nI v
/-- v has a CHOICE in b -/
def zq_HC (P : zx_S) (nb : Nat) (sz : Nat → Nat) (v b : Nat) : Prop := ∀ S : Nat → Prop, (∀ a c, zq_Fr P nb a c → (a = 0 ∨ zq_gv P sz a v ∨ S a) → S c) → S b
theorem zq_HC.step {P : zx_S} {nb : Nat} {sz : Nat → Nat} {v a b : Nat} (h : zq_Fr P nb a b) (ha : a = 0 ∨ zq_gv P sz a v ∨ zq_HC P nb sz v a) : zq_HC P nb sz v b := fun S hS => hS a b h (ha.imp_right (fun q => q.imp_right (fun q => q S hS)))
theorem zq_HC.rc {P : zx_S} {nb : Nat} {sz : Nat → Nat} (hnb : nb ≤ 16) {v b : Nat} (h : zq_HC P nb sz v b) : zq_rc P nb b := h (fun x => zq_rc P nb x) (fun _ _ q _ => (q.rc hnb).2)
section MC
variable {P s0 : zx_S} {nb : Nat} {sz : Nat → Nat}
theorem zM_gives_eq (hW : zq_WF P nb sz) {a v : Nat} (ha : a < nb) {s : zx_S} (hs : zq_Pg P s) : zM_ValueBenchModel_gives (nI a) (nI v) s = some (zi (zp (zq_gv P sz a v))) := by
  have hnb := hW.2.1
  have hsz := hW.2.2.1 a ha
  unfold zM_ValueBenchModel_gives
  have := zf_first (L := fun n i => zM_ValueBenchModel_gives_L2 (nI a) (nI v) s (some 1) n i) (K := fun _ => some 1) (E := some 0) (sz a) 0 (fun k => ¬ P 1 (100 * a + k) = 14 ∧ P 2 (100 * a + k) = nI v) (fun n => by
    show zM_ValueBenchModel_gives_L2 (nI a) (nI v) s (some 1) (n + 1) (nI (sz a)) = some 0
    rw [zM_ValueBenchModel_gives_L2, zc_ck (show a < 16 by omega) (by decide), zc_cl (by omega), hs.at (by decide) (by decide), hsz.1, if_pos (Int32.le_refl _)]) (fun n k _ hk hp => by
    show zM_ValueBenchModel_gives_L2 (nI a) (nI v) s (some 1) (n + 1) (nI k) = some 1
    rw [zM_ValueBenchModel_gives_L2]
    simp only [nI_100, zc_ck (show a < 16 by omega) (by decide), zc_ck (show 100 * a + k < 1600 by omega) (by decide), zc_cl (show a < 2 ^ 31 by omega), zc_cl (show 100 * a + k < 2 ^ 31 by omega), hs.at (c := 5) (by decide) (by decide), hs.at (c := 1) (by decide) (by decide), hs.at (c := 2) (by decide) (by decide), hsz.1]
    rw [if_neg (by rw [nI_leI (by omega) (by omega)]; omega), if_neg hp.1, if_pos hp.2]) (fun n k _ hk hp => by
    show zM_ValueBenchModel_gives_L2 (nI a) (nI v) s (some 1) (n + 1) (nI k) = zM_ValueBenchModel_gives_L2 (nI a) (nI v) s (some 1) n (nI (k + 1))
    rw [zM_ValueBenchModel_gives_L2]
    simp only [nI_100, zc_ck (show a < 16 by omega) (by decide), zc_ck (show 100 * a + k < 1600 by omega) (by decide), zc_cl (show a < 2 ^ 31 by omega), zc_cl (show 100 * a + k < 2 ^ 31 by omega), hs.at (c := 5) (by decide) (by decide), hs.at (c := 1) (by decide) (by decide), hs.at (c := 2) (by decide) (by decide), hsz.1, zc_lt, nI_1]
    rw [if_neg (by rw [nI_leI (by omega) (by omega)]; omega)]
    by_cases c1 : P 1 (100 * a + k) = 14
    · rw [if_pos c1]
    · rw [if_neg c1, if_neg (fun q => hp ⟨c1, q⟩)]) (Nat.zero_le _) (n := 10000) (by omega)
  rw [nI_0] at this
  rcases this with ⟨i, -, hi, hp, -, e⟩ | ⟨hno, e⟩
  · rw [e, zp_t.mpr ⟨i, hi, hp⟩]; rfl
  · rw [e, zp_f.mpr (fun ⟨k, hk, hp⟩ => hno k (Nat.zero_le _) hk hp)]; rfl
/-- the world behind choices(): all but cell 15 is as before -/
def zc_W (P s0 : zx_S) (f : Nat → Bool) (s : zx_S) : Prop := zm_W P s0 15 160 f s
theorem zM_choices_L2_spec (k : zx_S → Option zx_S) {s : zx_S} (hs : zq_Pg P s) (hf : ∀ c, c ≠ 15 → s c = s0 c) : ∃ s', zc_W P s0 (fun _ => false) s' ∧ zM_ValueBenchModel_choices_L2 k 10000 (0 : Int32) s = k s' := by
  have := zf_for (L := fun n i a => zM_ValueBenchModel_choices_L2 k n i a) (k := k) 160 (fun i s => zm_W P s0 15 i (fun _ => false) s) (fun n s h => by
    show zM_ValueBenchModel_choices_L2 k (n + 1) (nI 160) s = k s
    rw [zM_ValueBenchModel_choices_L2, if_pos (by decide)]) (fun n i s hi h => by
    show ∃ a', _ ∧ zM_ValueBenchModel_choices_L2 k (n + 1) (nI i) s = _
    rw [zM_ValueBenchModel_choices_L2, if_neg (by rw [show (160 : Int32) = nI 160 by decide, nI_leI (by omega) (by omega)]; omega)]
    simp only [zc_ck (show i < 160 by omega) (by decide), zc_cl (show i < 2 ^ 31 by omega), zc_ls, zc_lt, nI_1, zi_nar0]
    refine ⟨_, ⟨h.1.su (Or.inl (by decide)), fun x hx => ?_, fun c hc => by rw [zs_c hc]; exact h.2.2 c hc⟩, rfl⟩
    by_cases e : x = i
    · subst e; rw [zs_eq]
    · rw [zs_ne (Or.inr e)]; exact h.2.1 x (by omega)) (i := 0) (n := 10000) (Nat.zero_le 160) (a := s) ⟨hs, fun x hx => by omega, hf⟩ (by omega)
  rw [nI_0] at this
  exact this
def zc_I (P : zx_S) (nb : Nat) (sz : Nat → Nat) (f0 : Nat → Bool) (Q : Nat → Nat → Nat → Prop) (mo : Bool) (f : Nat → Bool) : Prop :=
  (∀ x, x < 160 → f0 x = true → f x = true) ∧ (∀ b v, b < 16 → v < 10 → f (10 * b + v) = true → zq_HC P nb sz v b) ∧ (mo = false → (∀ x, x < 160 → f x = f0 x) ∧ ∀ a b v, v < 10 → Q a b v → zq_Fr P nb a b → (a = 0 ∨ zq_gv P sz a v ∨ f (10 * a + v) = true) → f (10 * b + v) = true) ∧ (mo = true → zn f0 160 < zn f 160)
theorem zc_I.weak {f0 f : Nat → Bool} {Q Q' : Nat → Nat → Nat → Prop} {mo : Bool} (h : zc_I P nb sz f0 Q mo f) (hQ : ∀ a b v, v < 10 → Q' a b v → zq_Fr P nb a b → (a = 0 ∨ zq_gv P sz a v ∨ f (10 * a + v) = true) → Q a b v ∨ f (10 * b + v) = true) : zc_I P nb sz f0 Q' mo f := by
  refine ⟨h.1, h.2.1, fun hm => ⟨(h.2.2.1 hm).1, fun a b v hv q hF ha => ?_⟩, h.2.2.2⟩
  rcases hQ a b v hv q hF ha with z | z
  · exact (h.2.2.1 hm).2 a b v hv z hF ha
  · exact z
theorem zM_choices_L70_spec (hW : zq_WF P nb sz) (k : Int32 → zx_S → Option zx_S) {a b : Nat} (ha : a < nb) (hb : b < nb) (hFr : zq_Fr P nb a b) {f0 f : Nat → Bool} {Q : Nat → Nat → Nat → Prop} {mo : Bool} {s : zx_S} (hC : zc_W P s0 f s) (hI : zc_I P nb sz f0 Q mo f) : ∃ mo' f' s', zc_W P s0 f' s' ∧ zc_I P nb sz f0 (fun a' b' v' => Q a' b' v' ∨ (a' = a ∧ b' = b)) mo' f' ∧ zM_ValueBenchModel_choices_L70 (nI a) (nI b) k 10000 (zi mo) (0 : Int32) s = k (zi mo') s' := by
  have hnb := hW.2.1
  have := zf_for (A := Int32 × zx_S) (L := fun n i q => zM_ValueBenchModel_choices_L70 (nI a) (nI b) k n q.1 i q.2) (k := fun q => k q.1 q.2) 10 (fun v q => ∃ mo f, q.1 = zi mo ∧ zc_W P s0 f q.2 ∧ zc_I P nb sz f0 (fun a' b' v' => Q a' b' v' ∨ (a' = a ∧ b' = b ∧ v' < v)) mo f) (fun n q h => by
    show zM_ValueBenchModel_choices_L70 (nI a) (nI b) k (n + 1) q.1 (nI 10) q.2 = k q.1 q.2
    rw [zM_ValueBenchModel_choices_L70, if_pos (by decide)]) (fun n v q hv h => by
    obtain ⟨mo, f, h1, h2, h3⟩ := h
    obtain ⟨m1, s⟩ := q
    dsimp only at h1 h2
    subst h1
    show ∃ a' : Int32 × zx_S, _ ∧ zM_ValueBenchModel_choices_L70 (nI a) (nI b) k (n + 1) (zi mo) (nI v) s = zM_ValueBenchModel_choices_L70 (nI a) (nI b) k n a'.1 (nI (v + 1)) a'.2
    rw [zM_ValueBenchModel_choices_L70, if_neg (by rw [show (10 : Int32) = nI 10 by decide, nI_leI (by omega) (by omega)]; omega)]
    simp only [nI_10, zc_ck (show 10 * b + v < 160 by omega) (by decide), zc_ck (show 10 * a + v < 160 by omega) (by decide), zc_cl (show 10 * b + v < 2 ^ 31 by omega), zc_cl (show 10 * a + v < 2 ^ 31 by omega), zc_ls, zc_lt, nI_1, zi_nar1, h2.2.1 (10 * b + v) (by omega), h2.2.1 (10 * a + v) (by omega), zi_0, zM_gives_eq hW ha h2.1, zc_b1]
    have skip : ((a = 0 ∨ zq_gv P sz a v ∨ f (10 * a + v) = true) → f (10 * b + v) = true) → zc_I P nb sz f0 (fun a' b' v' => Q a' b' v' ∨ (a' = a ∧ b' = b ∧ v' < v + 1)) mo f := by
      intro hk
      refine h3.weak (fun a' b' v' hv' q hF hh => ?_)
      rcases q with q | ⟨e1, e2, q⟩
      · exact Or.inl (Or.inl q)
      · by_cases e : v' = v
        · subst e1 e2 e; exact Or.inr (hk hh)
        · exact Or.inl (Or.inr ⟨e1, e2, by omega⟩)
    have put : f (10 * b + v) = false → (a = 0 ∨ zq_gv P sz a v ∨ f (10 * a + v) = true) → ∃ a' : Int32 × zx_S, (∃ mo f, a'.1 = zi mo ∧ zc_W P s0 f a'.2 ∧ zc_I P nb sz f0 (fun a' b' v' => Q a' b' v' ∨ (a' = a ∧ b' = b ∧ v' < v + 1)) mo f) ∧ zM_ValueBenchModel_choices_L70 (nI a) (nI b) k n 1 (nI (v + 1)) (zx_su s 15 (10 * b + v) (zi true)) = zM_ValueBenchModel_choices_L70 (nI a) (nI b) k n a'.1 (nI (v + 1)) a'.2 := by
      intro hn hh
      refine ⟨(zi true, zx_su s 15 (10 * b + v) (zi true)), ⟨true, fun x => if x = 10 * b + v then true else f x, rfl, h2.set (by decide) _ true, fun x hx q => ?_, fun b' v' hb' hv' q => ?_, fun q => (by cases q), fun _ => ?_⟩, rfl⟩
      · by_cases e : x = 10 * b + v
        · simp [e]
        · simp [e, h3.1 x hx q]
      · by_cases e : 10 * b' + v' = 10 * b + v
        · have e1 : b' = b := by omega
          have e2 : v' = v := by omega
          subst e1 e2
          refine zq_HC.step hFr (hh.imp_right (fun z => z.imp_right (fun z => h3.2.1 a v' (by omega) hv z)))
        · simp only [e, if_false] at q
          exact h3.2.1 b' v' hb' hv' q
      · refine zn_lt (fun x hx q => ?_) (show 10 * b + v < 160 by omega) ?_ (by simp)
        · by_cases e : x = 10 * b + v
          · simp [e]
          · simp [e, h3.1 x hx q]
        · by_cases q : f0 (10 * b + v) = true
          · have := h3.1 _ (by omega) q; rw [hn] at this; cases this
          · simpa using q
    by_cases c1 : f (10 * b + v) = false
    · rw [if_pos c1]
      by_cases c2 : nI a = 0
      · rw [if_pos c2]
        exact put c1 (Or.inl (nI_inj (by omega) (by omega) (c2.trans nI_0.symm)))
      · rw [if_neg c2]
        by_cases c3 : zp (zq_gv P sz a v) = false
        · rw [if_pos c3]
          by_cases c4 : f (10 * a + v) = false
          · rw [if_pos c4]
            refine ⟨(zi mo, s), ⟨mo, f, rfl, h2, skip (fun q => ?_)⟩, rfl⟩
            rcases q with q | q | q
            · exact absurd (by rw [q]; exact nI_0) c2
            · exact absurd q (zp_f.mp c3)
            · rw [c4] at q; cases q
          · rw [if_neg c4]
            exact put c1 (Or.inr (Or.inr (by simpa using c4)))
        · rw [if_neg c3]
          exact put c1 (Or.inr (Or.inl (zp_t.mp (by simpa using c3))))
    · rw [if_neg c1]
      exact ⟨(zi mo, s), ⟨mo, f, rfl, h2, skip (fun _ => by simpa using c1)⟩, rfl⟩) (i := 0) (n := 10000) (Nat.zero_le 10) (a := (zi mo, s)) ⟨mo, f, rfl, hC, hI.weak (fun a' b' v' _ q _ _ => q.elim (fun z => Or.inl z) (fun z => by omega))⟩ (by omega)
  obtain ⟨⟨m1, s'⟩, ⟨mo', f', h1, h2, h3⟩, h4⟩ := this
  dsimp only at h1 h2 h4
  rw [nI_0, h1] at h4
  exact ⟨mo', f', s', h2, h3.weak (fun a' b' v' hv' q _ _ => Or.inl (q.imp_right (fun z => ⟨z.1, z.2, hv'⟩))), h4⟩
theorem zM_choices_L42_spec (hW : zq_WF P nb sz) (k : Int32 → zx_S → Option zx_S) {a : Nat} (ha : a < nb) {f0 f : Nat → Bool} {Q : Nat → Nat → Nat → Prop} {mo : Bool} {s : zx_S} (h14 : zm_R14 P nb nb s0) (hC : zc_W P s0 f s) (hI : zc_I P nb sz f0 Q mo f) : ∃ mo' f' s', zc_W P s0 f' s' ∧ zc_I P nb sz f0 (fun a' b' v' => Q a' b' v' ∨ (a' = a ∧ b' < nb)) mo' f' ∧ zM_ValueBenchModel_choices_L42 (nI a) k 10000 (zi mo) (0 : Int32) s = k (zi mo') s' := by
  have hnb := hW.2.1
  have hP := hW.1
  have := zf_for (A := Int32 × zx_S) (L := fun n i q => zM_ValueBenchModel_choices_L42 (nI a) k n q.1 i q.2) (k := fun q => k q.1 q.2) nb (fun b q => ∃ mo f, q.1 = zi mo ∧ zc_W P s0 f q.2 ∧ zc_I P nb sz f0 (fun a' b' v' => Q a' b' v' ∨ (a' = a ∧ b' < b)) mo f) (fun n q h => by
    obtain ⟨mo, f, h1, h2, h3⟩ := h
    show zM_ValueBenchModel_choices_L42 (nI a) k (n + 1) q.1 (nI nb) q.2 = k q.1 q.2
    rw [zM_ValueBenchModel_choices_L42, if_pos (by rw [h2.1.1, hP]; exact Int32.le_refl _)]) (fun n b q hb h => by
    obtain ⟨mo, f, h1, h2, h3⟩ := h
    obtain ⟨m1, s⟩ := q
    dsimp only at h1 h2
    subst h1
    show ∃ a' : Int32 × zx_S, _ ∧ zM_ValueBenchModel_choices_L42 (nI a) k (n + 1) (zi mo) (nI b) s = zM_ValueBenchModel_choices_L42 (nI a) k n a'.1 (nI (b + 1)) a'.2
    rw [zM_ValueBenchModel_choices_L42, if_neg (by rw [h2.1.1, hP, nI_leI (by omega) (by omega)]; omega)]
    simp only [nI_16, zc_ck (show 16 * a + b < 256 by omega) (by decide), zc_cl (show 16 * a + b < 2 ^ 31 by omega), zc_lt, nI_1, h2.2.2 14 (by decide), h14 a b ha hb, zi_0]
    by_cases c1 : zp (zq_Fr P nb a b) = false
    · rw [if_pos c1]
      refine ⟨(zi mo, s), ⟨mo, f, rfl, h2, h3.weak (fun a' b' v' _ q hF _ => ?_)⟩, rfl⟩
      rcases q with q | ⟨e1, q⟩
      · exact Or.inl (Or.inl q)
      · by_cases e : b' = b
        · subst e1 e; exact absurd hF (zp_f.mp c1)
        · exact Or.inl (Or.inr ⟨e1, by omega⟩)
    · rw [if_neg c1]
      obtain ⟨mo', f', s', g1, g2, g3⟩ := zM_choices_L70_spec hW (fun v1_14 s15 => zM_ValueBenchModel_choices_L42 (nI a) k n v1_14 (nI (b + 1)) s15) ha hb (zp_t.mp (by simpa using c1)) h2 h3
      rw [g3]
      refine ⟨(zi mo', s'), ⟨mo', f', rfl, g1, g2.weak (fun a' b' v' _ q _ _ => Or.inl ?_)⟩, rfl⟩
      rcases q with q | ⟨e1, q⟩
      · exact Or.inl (Or.inl q)
      · by_cases e : b' = b
        · exact Or.inr ⟨e1, e⟩
        · exact Or.inl (Or.inr ⟨e1, by omega⟩)) (i := 0) (n := 10000) (Nat.zero_le nb) (a := (zi mo, s)) ⟨mo, f, rfl, hC, hI.weak (fun a' b' v' _ q _ _ => q.elim (fun z => Or.inl z) (fun z => by omega))⟩ (by omega)
  obtain ⟨⟨m1, s'⟩, ⟨mo', f', h1, h2, h3⟩, h4⟩ := this
  dsimp only at h1 h2 h4
  rw [nI_0, h1] at h4
  exact ⟨mo', f', s', h2, h3, h4⟩
theorem zM_choices_L32_spec (hW : zq_WF P nb sz) (k : Int32 → zx_S → Option zx_S) {f0 : Nat → Bool} {s : zx_S} (h14 : zm_R14 P nb nb s0) (hC : zc_W P s0 f0 s) (hR : ∀ b v, b < 16 → v < 10 → f0 (10 * b + v) = true → zq_HC P nb sz v b) : ∃ mo' f' s', zc_W P s0 f' s' ∧ zc_I P nb sz f0 (fun a' b' v' => a' < nb ∧ b' < nb) mo' f' ∧ zM_ValueBenchModel_choices_L32 k 10000 (0 : Int32) (0 : Int32) s = k (zi mo') s' := by
  have hnb := hW.2.1
  have hP := hW.1
  have := zf_for (A := Int32 × zx_S) (L := fun n i q => zM_ValueBenchModel_choices_L32 k n q.1 i q.2) (k := fun q => k q.1 q.2) nb (fun a q => ∃ mo f, q.1 = zi mo ∧ zc_W P s0 f q.2 ∧ zc_I P nb sz f0 (fun a' b' v' => a' < a ∧ b' < nb) mo f) (fun n q h => by
    obtain ⟨mo, f, h1, h2, h3⟩ := h
    show zM_ValueBenchModel_choices_L32 k (n + 1) q.1 (nI nb) q.2 = k q.1 q.2
    rw [zM_ValueBenchModel_choices_L32, if_pos (by rw [h2.1.1, hP]; exact Int32.le_refl _)]) (fun n a q ha h => by
    obtain ⟨mo, f, h1, h2, h3⟩ := h
    obtain ⟨m1, s⟩ := q
    dsimp only at h1 h2
    subst h1
    show ∃ a' : Int32 × zx_S, _ ∧ zM_ValueBenchModel_choices_L32 k (n + 1) (zi mo) (nI a) s = zM_ValueBenchModel_choices_L32 k n a'.1 (nI (a + 1)) a'.2
    rw [zM_ValueBenchModel_choices_L32, if_neg (by rw [h2.1.1, hP, nI_leI (by omega) (by omega)]; omega)]
    obtain ⟨mo', f', s', g1, g2, g3⟩ := zM_choices_L42_spec hW (fun v1_17 s18 => zx_lt (nI a + 1) fun v2_19 => zM_ValueBenchModel_choices_L32 k n v1_17 v2_19 s18) ha h14 h2 h3
    rw [g3, zc_lt, nI_1]
    refine ⟨(zi mo', s'), ⟨mo', f', rfl, g1, g2.weak (fun a' b' v' _ q _ _ => Or.inl ?_)⟩, rfl⟩
    by_cases e : a' = a
    · exact Or.inr ⟨e, q.2⟩
    · exact Or.inl ⟨by omega, q.2⟩) (i := 0) (n := 10000) (Nat.zero_le nb) (a := (zi false, s)) ⟨false, f0, rfl, hC, fun _ _ q => q, hR, fun _ => ⟨fun _ _ => rfl, fun a b v _ q => by omega⟩, fun q => (by cases q)⟩ (by omega)
  obtain ⟨⟨m1, s'⟩, ⟨mo', f', h1, h2, h3⟩, h4⟩ := this
  dsimp only at h1 h2 h4
  rw [nI_0, h1, zi_f] at h4
  exact ⟨mo', f', s', h2, h3, h4⟩
/-- what the reference's world holds behind choices() -/
def zm_R15 (P : zx_S) (nb : Nat) (sz : Nat → Nat) (s : zx_S) : Prop := ∀ b v, b < 16 → v < 10 → s 15 (10 * b + v) = zi (zp (zq_HC P nb sz v b))
theorem zM_choices_spec (hW : zq_WF P nb sz) {s : zx_S} (hs : zq_Pg P s) (h14 : zm_R14 P nb nb s) : ∃ s', (zq_Pg P s' ∧ (∀ c, c ≠ 15 → s' c = s c) ∧ zm_R15 P nb sz s') ∧ zM_ValueBenchModel_choices s = some s' := by
  have hnb := hW.2.1
  unfold zM_ValueBenchModel_choices
  obtain ⟨s1, w1, w2⟩ := zM_choices_L2_spec (s0 := s) (fun s3 => zM_ValueBenchModel_choices_L24 (fun s22 => some s22) 10000 (1 : Int32) s3) hs (fun _ _ => rfl)
  rw [w2]
  have := zf_loop (A := Int32 × zx_S) (L := fun n a => zM_ValueBenchModel_choices_L24 (fun s22 => some s22) n a.1 a.2) (Out := fun o => ∃ s', (zq_Pg P s' ∧ (∀ c, c ≠ 15 → s' c = s c) ∧ zm_R15 P nb sz s') ∧ o = some s') (Inv := fun m a => ∃ mo f, a.1 = zi mo ∧ zc_W P s f a.2 ∧ (∀ b v, b < 16 → v < 10 → f (10 * b + v) = true → zq_HC P nb sz v b) ∧ (mo = false → ∀ a b v, a < nb → b < nb → v < 10 → zq_Fr P nb a b → (a = 0 ∨ zq_gv P sz a v ∨ f (10 * a + v) = true) → f (10 * b + v) = true) ∧ (mo = true → m = 161 - zn f 160) ∧ (mo = false → m = 0)) (fun n m a h => by
    obtain ⟨mo, f, h1, h2, h3, h5, h6, h7⟩ := h
    obtain ⟨m1, t⟩ := a
    dsimp only at h1 h2
    subst h1
    cases mo with
    | false =>
      left
      refine ⟨t, ⟨h2.1, h2.2.2, fun b v hb hv => ?_⟩, ?_⟩
      · rw [h2.2.1 _ (by omega)]
        by_cases hf : f (10 * b + v) = true
        · rw [hf, zp_t.mpr (h3 b v hb hv hf)]
        · have hf : f (10 * b + v) = false := by simpa using hf
          rw [hf, zp_f.mpr (fun q => ?_)]
          have := q (fun x => x < nb ∧ f (10 * x + v) = true) (fun a c hF ha => ⟨(hF.rc hnb).2.1, h5 rfl a c v (hF.rc hnb).1.1 (hF.rc hnb).2.1 hv hF (ha.imp_right (fun z => z.imp_right (fun z => z.2)))⟩)
          rw [hf] at this; cases this.2
      · show zM_ValueBenchModel_choices_L24 (fun s22 => some s22) (n + 1) (zi false) t = some t
        rw [zM_ValueBenchModel_choices_L24, if_pos zi_f]
    | true =>
      right
      have hm := h6 rfl
      have hle := zn_le f 160
      obtain ⟨mo', f', s', g1, g2, g3⟩ := zM_choices_L32_spec (s0 := s) hW (fun v1_20 s21 => zM_ValueBenchModel_choices_L24 (fun s22 => some s22) n v1_20 s21) h14 h2 h3
      refine ⟨if mo' = true then 161 - zn f' 160 else 0, (zi mo', s'), ?_, ⟨mo', f', rfl, g1, g2.2.1, fun q a b v ha hb hv => (g2.2.2.1 q).2 a b v hv ⟨ha, hb⟩, fun q => by simp [q], fun q => by simp [q]⟩, ?_⟩
      · cases mo' with
        | false => simp; omega
        | true =>
          have := g2.2.2.2 rfl
          have := zn_le f' 160
          simp; omega
      · show zM_ValueBenchModel_choices_L24 (fun s22 => some s22) (n + 1) (zi true) t = _
        rw [zM_ValueBenchModel_choices_L24, if_neg (by decide), g3]) 10000 (161 - zn (fun _ => false) 160) (zi true, s1) ⟨true, fun _ => false, rfl, w1, fun _ _ _ _ q => (by cases q), fun q => (by cases q), fun _ => rfl, fun q => (by cases q)⟩ (by omega)
  exact this
end MC
