/-! PURE: the reference's meet: what is reached avoiding one -/
/-- s holds the program; the booleans of cell k below n are f; all but cell k is as in s0 -/
def zm_W (P s0 : zx_S) (k n : Nat) (f : Nat → Bool) (s : zx_S) : Prop := zq_Pg P s ∧ (∀ x, x < n → s k x = zi (f x)) ∧ ∀ c, c ≠ k → s c = s0 c
theorem zm_W.set {P s0 s : zx_S} {k n : Nat} {f : Nat → Bool} (h : zm_W P s0 k n f s) (hk : 10 ≤ k) (i : Nat) (v : Bool) : zm_W P s0 k n (fun x => if x = i then v else f x) (zx_su s k i (zi v)) := by
  refine ⟨h.1.su (Or.inl hk), fun x hx => ?_, fun c hc => ?_⟩
  · by_cases hxi : x = i
    · subst hxi; rw [zs_eq]; simp
    · rw [zs_ne (Or.inr hxi), h.2.1 x hx]; simp [hxi]
  · rw [zs_c hc]; exact h.2.2 c hc
section MM
variable {P s0 : zx_S} {nb w : Nat} {wi : Int32}
theorem zM_meet_L2_spec (hP : P 0 0 = nI nb) (hnb : nb ≤ 16) (hw : ∀ b, b < 16 → (nI b = wi ↔ b = w)) {R : Type} (k : zx_S → Option zx_S) {s : zx_S} (hs : zq_Pg P s) (hf : ∀ c, c ≠ 11 → s c = s0 c) : ∃ s', zm_W P s0 11 nb (fun x => decide (x = 0 ∧ w ≠ 0)) s' ∧ zM_ValueBenchModel_meet_L2 wi k 10000 (0 : Int32) s = k s' := by
  have := zf_for (L := fun n i a => zM_ValueBenchModel_meet_L2 wi k n i a) (k := k) nb (fun i s => zm_W P s0 11 i (fun x => decide (x = 0 ∧ w ≠ 0)) s) (fun n s h => by
    show zM_ValueBenchModel_meet_L2 wi k (n + 1) (nI nb) s = k s
    rw [zM_ValueBenchModel_meet_L2, if_pos (by rw [h.1.1, hP]; exact Int32.le_refl _)]) (fun n i s hi h => by
    have key : ∀ v : Bool, v = decide (i = 0 ∧ w ≠ 0) → zm_W P s0 11 (i + 1) (fun x => decide (x = 0 ∧ w ≠ 0)) (zx_su s 11 i (zi v)) := by
      intro v hv
      have h2 := h.set (by decide) i v
      refine ⟨h2.1, fun x hx => ?_, h2.2.2⟩
      by_cases hxi : x = i
      · subst hxi; rw [zs_eq, hv]
      · rw [zs_ne (Or.inr hxi)]; exact h.2.1 x (by omega)
    show ∃ a', _ ∧ zM_ValueBenchModel_meet_L2 wi k (n + 1) (nI i) s = _
    rw [zM_ValueBenchModel_meet_L2, if_neg (by rw [h.1.1, hP, nI_leI (by omega) (by omega)]; omega)]
    simp only [zc_ck (show i < 16 by omega) (by decide), zc_cl (show i < 2 ^ 31 by omega), zc_ls, zc_lt, nI_1, zi_nar0, zi_nar1]
    by_cases h0 : i = 0
    · subst h0
      rw [if_pos nI_0]
      by_cases hw0 : w = 0
      · rw [if_pos (by rw [← (hw 0 (by omega)).mpr hw0.symm]; exact nI_0)]
        exact ⟨_, key false (by simp [hw0]), rfl⟩
      · rw [if_neg (fun e => hw0 ((hw 0 (by omega)).mp (nI_0.trans e.symm)).symm)]
        exact ⟨_, key true (by simp [hw0]), rfl⟩
    · rw [if_neg (nI_ne0 (by omega) (by omega))]
      exact ⟨_, key false (by simp [h0]), rfl⟩) (i := 0) (n := 10000) (Nat.zero_le nb) (a := s) ⟨hs, fun x hx => by omega, hf⟩ (by omega)
  rw [nI_0] at this
  exact this
def zm_I (P : zx_S) (nb w : Nat) (f0 : Nat → Bool) (b c : Nat) (mo : Bool) (f : Nat → Bool) : Prop :=
  (∀ x, x < nb → f0 x = true → f x = true) ∧ (∀ x, x < nb → f x = true → zq_RA (zq_ld P nb) w x) ∧ (mo = false → (∀ x, x < nb → f x = f0 x) ∧ ∀ x y, x < nb → y < nb → (x < b ∨ x = b ∧ y < c) → f x = true → zq_ld P nb x y → y ≠ w → f y = true) ∧ (mo = true → zn f0 nb < zn f nb)
theorem zm_I.next {f0 f : Nat → Bool} {b c : Nat} {mo : Bool} (h : zm_I P nb w f0 b c mo f) (hn : f b = true → zq_ld P nb b c → c ≠ w → f c = true) : zm_I P nb w f0 b (c + 1) mo f := by
  refine ⟨h.1, h.2.1, fun hm => ⟨(h.2.2.1 hm).1, fun x y hx hy hxy => ?_⟩, h.2.2.2⟩
  by_cases hc : x = b ∧ y = c
  · rw [hc.1, hc.2]; exact hn
  · exact (h.2.2.1 hm).2 x y hx hy (by omega)
theorem zM_meet_L56_spec (hP : P 0 0 = nI nb) (hnb : nb ≤ 16) (hw : ∀ b, b < 16 → (nI b = wi ↔ b = w)) (k : Int32 → zx_S → Option zx_S) {b : Nat} (hb : b < nb) {f0 f : Nat → Bool} {mo : Bool} {s : zx_S} (hW : zm_W P s0 11 nb f s) (hI : zm_I P nb w f0 b 0 mo f) : ∃ mo' f' s', zm_W P s0 11 nb f' s' ∧ zm_I P nb w f0 b nb mo' f' ∧ zM_ValueBenchModel_meet_L56 wi (nI b) k 10000 (zi mo) (0 : Int32) s = k (zi mo') s' := by
  have := zf_for (A := Int32 × zx_S) (L := fun n i a => zM_ValueBenchModel_meet_L56 wi (nI b) k n a.1 i a.2) (k := fun a => k a.1 a.2) nb (fun c a => ∃ mo f, a.1 = zi mo ∧ zm_W P s0 11 nb f a.2 ∧ zm_I P nb w f0 b c mo f) (fun n a h => by
    obtain ⟨mo, f, h1, h2, h3⟩ := h
    show zM_ValueBenchModel_meet_L56 wi (nI b) k (n + 1) a.1 (nI nb) a.2 = k a.1 a.2
    rw [zM_ValueBenchModel_meet_L56, if_pos (by rw [h2.1.1, hP]; exact Int32.le_refl _)]) (fun n c a hc h => by
    obtain ⟨mo, f, h1, h2, h3⟩ := h
    obtain ⟨m1, s⟩ := a
    dsimp only at h1 h2
    subst h1
    show ∃ a' : Int32 × zx_S, _ ∧ zM_ValueBenchModel_meet_L56 wi (nI b) k (n + 1) (zi mo) (nI c) s = zM_ValueBenchModel_meet_L56 wi (nI b) k n a'.1 (nI (c + 1)) a'.2
    rw [zM_ValueBenchModel_meet_L56, if_neg (by rw [h2.1.1, hP, nI_leI (by omega) (by omega)]; omega)]
    simp only [zc_ck (show b < 16 by omega) (by decide), zc_ck (show c < 16 by omega) (by decide), zc_cl (show b < 2 ^ 31 by omega), zc_cl (show c < 2 ^ 31 by omega), zc_ls, zc_lt, nI_1, zi_nar1, h2.2.1 b hb, h2.2.1 c hc, zi_0, zM_leads_eq h2.1 hnb hb hc, zc_b1]
    by_cases c1 : f b = false
    · rw [if_pos c1]
      exact ⟨(zi mo, s), ⟨mo, f, rfl, h2, h3.next (fun q => by rw [c1] at q; cases q)⟩, rfl⟩
    · rw [if_neg c1]
      by_cases c2 : f c = false
      · rw [if_pos c2]
        by_cases c3 : nI c = wi
        · rw [if_pos c3]
          exact ⟨(zi mo, s), ⟨mo, f, rfl, h2, h3.next (fun _ _ q => absurd ((hw c (by omega)).mp c3) q)⟩, rfl⟩
        · rw [if_neg c3]
          have hcw : c ≠ w := fun e => c3 ((hw c (by omega)).mpr e)
          by_cases c4 : zp (zq_ld P nb b c) = false
          · rw [if_pos c4]
            exact ⟨(zi mo, s), ⟨mo, f, rfl, h2, h3.next (fun _ q _ => absurd q (zp_f.mp c4))⟩, rfl⟩
          · rw [if_neg c4]
            have hl : zq_ld P nb b c := zp_t.mp (by simpa using c4)
            have hfb : f b = true := by simpa using c1
            refine ⟨(zi true, zx_su s 11 c (zi true)), ⟨true, fun x => if x = c then true else f x, rfl, h2.set (by decide) c true, fun x hx q => ?_, fun x hx q => ?_, fun q => (by cases q), fun _ => ?_⟩, rfl⟩
            · by_cases hxc : x = c
              · simp [hxc]
              · simp [hxc, h3.1 x hx q]
            · by_cases hxc : x = c
              · subst hxc; exact (h3.2.1 b hb hfb).step hl hcw
              · simp only [hxc, if_false] at q; exact h3.2.1 x hx q
            · refine zn_lt (fun x hx q => ?_) hc ?_ (by simp)
              · by_cases hxc : x = c
                · simp [hxc]
                · simp [hxc, h3.1 x hx q]
              · by_cases q : f0 c = true
                · have := h3.1 c hc q; rw [c2] at this; cases this
                · simpa using q
      · rw [if_neg c2]
        exact ⟨(zi mo, s), ⟨mo, f, rfl, h2, h3.next (fun _ _ _ => by simpa using c2)⟩, rfl⟩) (i := 0) (n := 10000) (Nat.zero_le nb) (a := (zi mo, s)) ⟨mo, f, rfl, hW, hI⟩ (by omega)
  obtain ⟨⟨m1, s'⟩, ⟨mo', f', h1, h2, h3⟩, h4⟩ := this
  dsimp only at h1 h2 h4
  rw [nI_0, h1] at h4
  exact ⟨mo', f', s', h2, h3, h4⟩
theorem zM_meet_L45_spec (hP : P 0 0 = nI nb) (hnb : nb ≤ 16) (hw : ∀ b, b < 16 → (nI b = wi ↔ b = w)) (k : Int32 → zx_S → Option zx_S) {f0 : Nat → Bool} {s : zx_S} (hW : zm_W P s0 11 nb f0 s) (hR : ∀ x, x < nb → f0 x = true → zq_RA (zq_ld P nb) w x) : ∃ mo' f' s', zm_W P s0 11 nb f' s' ∧ zm_I P nb w f0 nb 0 mo' f' ∧ zM_ValueBenchModel_meet_L45 wi k 10000 (0 : Int32) (0 : Int32) s = k (zi mo') s' := by
  have := zf_for (A := Int32 × zx_S) (L := fun n i a => zM_ValueBenchModel_meet_L45 wi k n a.1 i a.2) (k := fun a => k a.1 a.2) nb (fun b a => ∃ mo f, a.1 = zi mo ∧ zm_W P s0 11 nb f a.2 ∧ zm_I P nb w f0 b 0 mo f) (fun n a h => by
    obtain ⟨mo, f, h1, h2, h3⟩ := h
    show zM_ValueBenchModel_meet_L45 wi k (n + 1) a.1 (nI nb) a.2 = k a.1 a.2
    rw [zM_ValueBenchModel_meet_L45, if_pos (by rw [h2.1.1, hP]; exact Int32.le_refl _)]) (fun n b a hb h => by
    obtain ⟨mo, f, h1, h2, h3⟩ := h
    obtain ⟨m1, s⟩ := a
    dsimp only at h1 h2
    subst h1
    show ∃ a' : Int32 × zx_S, _ ∧ zM_ValueBenchModel_meet_L45 wi k (n + 1) (zi mo) (nI b) s = zM_ValueBenchModel_meet_L45 wi k n a'.1 (nI (b + 1)) a'.2
    rw [zM_ValueBenchModel_meet_L45, if_neg (by rw [h2.1.1, hP, nI_leI (by omega) (by omega)]; omega)]
    obtain ⟨mo', f', s', g1, g2, g3⟩ := zM_meet_L56_spec hP hnb hw (fun v2 s16 => zx_lt (nI b + 1) fun v3 => zM_ValueBenchModel_meet_L45 wi k n v2 v3 s16) hb h2 h3
    rw [g3, zc_lt, nI_1]
    refine ⟨(zi mo', s'), ⟨mo', f', rfl, g1, g2.1, g2.2.1, fun q => ⟨(g2.2.2.1 q).1, fun x y hx hy hxy => (g2.2.2.1 q).2 x y hx hy (by omega)⟩, g2.2.2.2⟩, rfl⟩) (i := 0) (n := 10000) (Nat.zero_le nb) (a := (zi false, s)) ⟨false, f0, rfl, hW, fun _ _ q => q, hR, fun _ => ⟨fun _ _ => rfl, fun x y _ _ q => by omega⟩, fun q => (by cases q)⟩ (by omega)
  obtain ⟨⟨m1, s'⟩, ⟨mo', f', h1, h2, h3⟩, h4⟩ := this
  dsimp only at h1 h2 h4
  rw [nI_0, h1, zi_f] at h4
  exact ⟨mo', f', s', h2, h3, h4⟩
theorem zM_meet_L37_spec (hP : P 0 0 = nI nb) (hnb : nb ≤ 16) (hw : ∀ b, b < 16 → (nI b = wi ↔ b = w)) (k : zx_S → Option zx_S) {f : Nat → Bool} {s : zx_S} (hW : zm_W P s0 11 nb f s) (hR : ∀ x, x < nb → f x = true → zq_RA (zq_ld P nb) w x) (h0 : 0 < nb → w ≠ 0 → f 0 = true) : ∃ s', zm_W P s0 11 nb (fun x => zp (zq_RA (zq_ld P nb) w x)) s' ∧ zM_ValueBenchModel_meet_L37 wi k 10000 (1 : Int32) s = k s' := by
  have := zf_loop (A := Int32 × zx_S) (L := fun n a => zM_ValueBenchModel_meet_L37 wi k n a.1 a.2) (Out := fun o => ∃ s', zm_W P s0 11 nb (fun x => zp (zq_RA (zq_ld P nb) w x)) s' ∧ o = k s') (Inv := fun m a => ∃ mo f, a.1 = zi mo ∧ zm_W P s0 11 nb f a.2 ∧ (∀ x, x < nb → f x = true → zq_RA (zq_ld P nb) w x) ∧ (0 < nb → w ≠ 0 → f 0 = true) ∧ (mo = false → ∀ x y, x < nb → y < nb → f x = true → zq_ld P nb x y → y ≠ w → f y = true) ∧ (mo = true → m = 17 - zn f nb) ∧ (mo = false → m = 0)) (fun n m a h => by
    obtain ⟨mo, f, h1, h2, h3, h4, h5, h6, h7⟩ := h
    obtain ⟨m1, s⟩ := a
    dsimp only at h1 h2
    subst h1
    cases mo with
    | false =>
      left
      refine ⟨s, ⟨h2.1, fun x hx => ?_, h2.2.2⟩, ?_⟩
      · rw [h2.2.1 x hx]
        dsimp only
        by_cases hf : f x = true
        · rw [hf, zp_t.mpr (h3 x hx hf)]
        · have hf : f x = false := by simpa using hf
          rw [hf, zp_f.mpr (fun q => ?_)]
          have := (q (fun y => y < nb ∧ f y = true) (fun hw0 => ⟨by omega, h4 (by omega) hw0⟩) (fun a c ha hl hc => ⟨hl.2.1, h5 rfl a c ha.1 hl.2.1 ha.2 hl hc⟩)).2
          rw [hf] at this; cases this
      · show zM_ValueBenchModel_meet_L37 wi k (n + 1) (zi false) s = k s
        rw [zM_ValueBenchModel_meet_L37, if_pos zi_f]
    | true =>
      right
      have hm := h6 rfl
      have hle := zn_le f nb
      obtain ⟨mo', f', s', g1, g2, g3⟩ := zM_meet_L45_spec hP hnb hw (fun v2 s19 => zM_ValueBenchModel_meet_L37 wi k n v2 s19) h2 h3
      refine ⟨if mo' = true then 17 - zn f' nb else 0, (zi mo', s'), ?_, ⟨mo', f', rfl, g1, g2.2.1, fun a b => g2.1 0 a (h4 a b), fun q x y hx hy => (g2.2.2.1 q).2 x y hx hy (Or.inl hx), fun q => by simp [q], fun q => by simp [q]⟩, ?_⟩
      · cases mo' with
        | false => simp; omega
        | true =>
          have := g2.2.2.2 rfl
          have := zn_le f' nb
          simp; omega
      · show zM_ValueBenchModel_meet_L37 wi k (n + 1) (zi true) s = _
        rw [zM_ValueBenchModel_meet_L37, if_neg (by decide), g3]) 10000 (17 - zn f nb) (zi true, s) ⟨true, f, rfl, hW, hR, h0, fun q => by (cases q), fun _ => rfl, fun q => by (cases q)⟩ (by omega)
  exact this
theorem zM_meet_spec (hP : P 0 0 = nI nb) (hnb : nb ≤ 16) (hw : ∀ b, b < 16 → (nI b = wi ↔ b = w)) {s : zx_S} (hs : zq_Pg P s) (hf : ∀ c, c ≠ 11 → s c = s0 c) : ∃ s', zm_W P s0 11 nb (fun x => zp (zq_RA (zq_ld P nb) w x)) s' ∧ zM_ValueBenchModel_meet wi s = some s' := by
  unfold zM_ValueBenchModel_meet
  obtain ⟨s1, h1, h2⟩ := zM_meet_L2_spec (R := Nat) hP hnb hw (fun s7 => zM_ValueBenchModel_meet_L37 wi (fun s20 => some s20) 10000 (1 : Int32) s7) hs hf
  rw [h2]
  exact zM_meet_L37_spec hP hnb hw (fun s20 => some s20) h1 (fun x hx q => by
    have q : x = 0 ∧ w ≠ 0 := by simpa using q
    rw [q.1]; exact zq_RA.zero q.2) (fun _ q => by simp [q])
end MM
