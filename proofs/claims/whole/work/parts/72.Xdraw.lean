/-! PURE: the class's Graph.draw -/
section XD
variable {P : zx_S} {nb : Nat} {sz : Nat → Nat}
/-- what the class's graph holds -/
def zX_Gr (P : zx_S) (nb : Nat) (s : zx_S) : Prop := (zx_sm (s 11 6) ∧ ∀ b, zb (s 11 6) b = true ↔ zq_rc P nb b) ∧ (∀ b, b < 16 → zx_sm (s 13 b) ∧ ∀ p, zb (s 13 b) p = true ↔ zq_pr P nb b p) ∧ (∀ a, a < 16 → zx_sm (s 14 a) ∧ ∀ b, zb (s 14 a) b = true ↔ zq_D P nb a b) ∧ (∀ b, b < 16 → zx_sm (s 15 b) ∧ ∀ a, zb (s 15 b) a = true ↔ zq_D P nb a b) ∧ (∀ b, b < 16 → (zq_rc P nb b → b ≠ 0 → s 16 b = nI (zq_pa P nb b)) ∧ ((¬ zq_rc P nb b ∨ b = 0) → s 16 b = -1)) ∧ ∀ a, a < 16 → zx_sm (s 17 a) ∧ ∀ b, zb (s 17 a) b = true ↔ zq_Fr P nb a b
theorem zX_draw_L2_spec (hW : zq_WF P nb sz) (k : zx_S → Option zx_S) {s : zx_S} (hP : zX_Pr P nb sz s) : ∃ s', ((∀ b, b < 16 → zx_sm (s' 12 b) ∧ ∀ c, zb (s' 12 b) c = true ↔ zq_ld P nb b c) ∧ ∀ c i, c ≠ 12 → s' c i = s c i) ∧ zX_Graph_draw_L2 k 10000 (0 : Int32) s = k s' := by
  have hnb := hW.2.1
  have := zf_for (L := fun n i t => zX_Graph_draw_L2 k n i t) (k := k) 16 (fun n t => (∀ b, b < n → zx_sm (t 12 b) ∧ ∀ c, zb (t 12 b) c = true ↔ zq_ld P nb b c) ∧ ∀ c i, c ≠ 12 → t c i = s c i) (fun n t _ => by
    show zX_Graph_draw_L2 k (n + 1) (nI 16) t = k t
    rw [zX_Graph_draw_L2, if_pos (by decide)]) (fun n b t hb h => by
    obtain ⟨g1, g2⟩ := h
    have hPt : zX_Pr P nb sz t := hP.keep (fun c i h1 h2 => g2 c i (by omega))
    show ∃ a', _ ∧ zX_Graph_draw_L2 k (n + 1) (nI b) t = _
    rw [zX_Graph_draw_L2, if_neg (by rw [show (16 : Int32) = nI 16 by decide, nI_leI (by omega) (by omega)]; omega), zX_has_eq hPt.1.1 hnb (show b < 2 ^ 31 by omega), zc_b1]
    simp only [zi_0, zc_ck hb (by decide), zc_cl (show b < 2 ^ 31 by omega), zc_ls, zc_lt, nI_1]
    have fin : ∀ r : Int32, zx_sm r → (∀ c, zb r c = true ↔ zq_ld P nb b c) → (∀ x, x < b + 1 → zx_sm (zx_su t 12 b r 12 x) ∧ ∀ c, zb (zx_su t 12 b r 12 x) c = true ↔ zq_ld P nb x c) ∧ ∀ c i, c ≠ 12 → zx_su t 12 b r c i = s c i := fun r r1 r2 => by
      refine ⟨fun x hx => ?_, fun c i hc => by rw [zs_ne (Or.inl hc)]; exact g2 c i hc⟩
      by_cases e : x = b
      · subst e; rw [zs_eq]; exact ⟨r1, r2⟩
      · rw [zs_ne (Or.inr e)]; exact g1 x (by omega)
    by_cases c1 : b < nb
    · rw [if_neg (by rw [decide_eq_true c1]; decide)]
      obtain ⟨r, r1, r2, r3⟩ := zX_toldBlocks_eq hW hPt.1 c1
      rw [r1, zc_b1]
      exact ⟨_, fin r r2 r3, rfl⟩
    · rw [if_pos (decide_eq_false c1)]
      exact ⟨_, fin 0 zx_sm_0 (fun c => by rw [zb_0]; exact ⟨fun q => (by cases q), fun q => absurd q.1 c1⟩), rfl⟩) (i := 0) (n := 10000) (Nat.zero_le _) (a := s) ⟨fun b hb => by omega, fun _ _ _ => rfl⟩ (by decide)
  rw [nI_0] at this
  exact this
/-- the class's closure from the ENTRY, never through w, is what is reached avoiding w -/
theorem zq_Cl_RA (hnb : nb ≤ 16) {w : Nat} {seed : Nat → Prop} {nx : Nat → Nat → Prop} {bar : Nat → Prop} (hs : ∀ a, seed a ↔ a = 0) (hx : ∀ a c, zq_rc P nb a → (nx a c ↔ zq_ld P nb a c)) (hx2 : ∀ a c, nx a c → zq_rc P nb a ∨ zq_ld P nb a c) (hb : ∀ a, a < 16 → (bar a ↔ a = w)) (hn : 0 < nb) (b : Nat) : zq_Cl seed nx bar b ↔ zq_RA (zq_ld P nb) w b := by
  constructor
  · intro h
    refine (h (fun x => zq_RA (zq_ld P nb) w x ∧ zq_rc P nb x) (fun a ha hb' => ?_) (fun a c ha hn' hb' => ?_)).1
    · rw [(hs a).mp ha]
      exact ⟨zq_RA.zero (fun e => hb' ((hb a (by rw [(hs a).mp ha]; decide)).mpr ((hs a).mp ha |>.trans e.symm))), zq_rc.zero hn⟩
    · have hl := (hx a c ha.2).mp hn'
      have hc := hl.2.1
      exact ⟨ha.1.step hl (fun e => hb' ((hb c (by omega)).mpr e)), ha.2.step hnb hl⟩
  · intro h
    refine (h (fun x => zq_Cl seed nx bar x ∧ zq_rc P nb x) (fun hw => ⟨zq_Cl.seed ((hs 0).mpr rfl) (fun z => hw ((hb 0 (by decide)).mp z).symm), zq_rc.zero hn⟩) (fun a c ha hl hc => ?_)).1
    have hc' := hl.2.1
    exact ⟨ha.1.step ((hx a c ha.2).mpr hl) (fun z => hc ((hb c (by omega)).mp z)), ha.2.step hnb hl⟩
theorem zX_draw_L64_spec (hnb : nb ≤ 16) (k : zx_S → Option zx_S) {s : zx_S} (h12 : ∀ b, b < 16 → zx_sm (s 12 b) ∧ ∀ c, zb (s 12 b) c = true ↔ zq_ld P nb b c) (h11 : ∀ b, b < 16 → (zb (s 11 6) b = true ↔ zq_rc P nb b)) : ∃ s', ((∀ b, b < 16 → zx_sm (s' 12 b) ∧ ∀ c, zb (s' 12 b) c = true ↔ zq_rc P nb b ∧ zq_ld P nb b c) ∧ ∀ c i, c ≠ 12 → s' c i = s c i) ∧ zX_Graph_draw_L64 k 10000 (0 : Int32) s = k s' := by
  have := zf_for (L := fun n i t => zX_Graph_draw_L64 k n i t) (k := k) 16 (fun n t => (∀ b, b < n → zx_sm (t 12 b) ∧ ∀ c, zb (t 12 b) c = true ↔ zq_rc P nb b ∧ zq_ld P nb b c) ∧ (∀ b, n ≤ b → t 12 b = s 12 b) ∧ ∀ c i, c ≠ 12 → t c i = s c i) (fun n t _ => by
    show zX_Graph_draw_L64 k (n + 1) (nI 16) t = k t
    rw [zX_Graph_draw_L64, if_pos (by decide)]) (fun n b t hb h => by
    obtain ⟨g1, g0, g2⟩ := h
    show ∃ a', _ ∧ zX_Graph_draw_L64 k (n + 1) (nI b) t = _
    rw [zX_Graph_draw_L64, if_neg (by rw [show (16 : Int32) = nI 16 by decide, nI_leI (by omega) (by omega)]; omega), zX_isIn_eq _ (show b < 32 by omega), zc_b1, zi_isin, g2 11 6 (by decide)]
    simp only [zi_0, zc_ck hb (by decide), zc_cl (show b < 2 ^ 31 by omega), zc_ls, zc_lt, nI_1]
    by_cases c1 : zb (s 11 6) b = false
    · rw [if_pos c1]
      have hr : ¬ zq_rc P nb b := fun q => by rw [(h11 b hb).mpr q] at c1; cases c1
      refine ⟨_, ⟨fun x hx => ?_, fun x hx => by rw [zs_ne (Or.inr (by omega))]; exact g0 x (by omega), fun c i hc => by rw [zs_ne (Or.inl hc)]; exact g2 c i hc⟩, rfl⟩
      by_cases e : x = b
      · subst e; rw [zs_eq]
        exact ⟨zx_sm_0, fun c => by rw [zb_0]; exact ⟨fun q => (by cases q), fun q => absurd q.1 hr⟩⟩
      · rw [zs_ne (Or.inr e)]; exact g1 x (by omega)
    · rw [if_neg c1]
      have hr : zq_rc P nb b := (h11 b hb).mp (by simpa using c1)
      refine ⟨t, ⟨fun x hx => ?_, fun x hx => g0 x (by omega), g2⟩, rfl⟩
      by_cases e : x = b
      · subst e; rw [g0 x (Nat.le_refl _)]
        exact ⟨(h12 x hb).1, fun c => by rw [(h12 x hb).2 c]; exact ⟨fun q => ⟨hr, q⟩, fun q => q.2⟩⟩
      · exact g1 x (by omega)) (i := 0) (n := 10000) (Nat.zero_le _) (a := s) ⟨fun b hb => by omega, fun _ _ => rfl, fun _ _ _ => rfl⟩ (by decide)
  rw [nI_0] at this
  obtain ⟨s', ⟨h1, -, h2⟩, h3⟩ := this
  exact ⟨s', ⟨h1, h2⟩, h3⟩
theorem zX_draw_L107_spec (hnb : nb ≤ 16) (k : zx_S → Option zx_S) {s : zx_S} (h12 : ∀ b, b < 16 → zx_sm (s 12 b) ∧ ∀ c, zb (s 12 b) c = true ↔ zq_rc P nb b ∧ zq_ld P nb b c) (h11 : zx_sm (s 11 6) ∧ ∀ b, zb (s 11 6) b = true ↔ zq_rc P nb b) : ∃ s', ((∀ a, a < 16 → zx_sm (s' 14 a) ∧ ∀ b, zb (s' 14 a) b = true ↔ zq_D P nb a b) ∧ ∀ c i, c ≠ 14 → s' c i = s c i) ∧ zX_Graph_draw_L107 k 10000 (0 : Int32) s = k s' := by
  have := zf_for (L := fun n i t => zX_Graph_draw_L107 k n i t) (k := k) 16 (fun n t => (∀ a, a < n → zx_sm (t 14 a) ∧ ∀ b, zb (t 14 a) b = true ↔ zq_D P nb a b) ∧ ∀ c i, c ≠ 14 → t c i = s c i) (fun n t _ => by
    show zX_Graph_draw_L107 k (n + 1) (nI 16) t = k t
    rw [zX_Graph_draw_L107, if_pos (by decide)]) (fun n a t ha h => by
    obtain ⟨g1, g2⟩ := h
    show ∃ a', _ ∧ zX_Graph_draw_L107 k (n + 1) (nI a) t = _
    rw [zX_Graph_draw_L107, if_neg (by rw [show (16 : Int32) = nI 16 by decide, nI_leI (by omega) (by omega)]; omega), g2 11 6 (by decide)]
    obtain ⟨r, r1, r2, r3⟩ := zX_closure_eq (s := t) (fun j hj => by rw [g2 12 j (by decide)]; exact (h12 j hj).1) (p0 := s 11 6 &&& 1) (p2 := (1 : Int32) <<< (nI a &&& 31)) (fun b hb => by rw [zb_and, h11.1 b hb]; rfl)
    rw [r1, zc_b1]
    simp only [zc_ck ha (by decide), zc_cl (show a < 2 ^ 31 by omega), zc_ls, zc_lt, nI_1]
    refine ⟨_, ⟨fun x hx => ?_, fun c i hc => by rw [zs_ne (Or.inl hc)]; exact g2 c i hc⟩, rfl⟩
    by_cases e : x = a
    · subst e; rw [zs_eq]
      refine ⟨fun b hb => by rw [zb_and, h11.1 b hb]; rfl, fun b => ?_⟩
      by_cases hb : b < 32
      · rw [zb_and, zb_not _ hb, Bool.and_eq_true, h11.2 b]
        constructor
        · rintro ⟨q1, q2⟩
          have hn : 0 < nb := by have := q1.1; omega
          refine ⟨q1.1, q1.2, fun z => ?_⟩
          have : zb r b = true := (r3 b).mpr ((zq_Cl_RA hnb (w := x) (fun a' => by
              rw [zb_and, zb_one, Bool.and_eq_true, h11.2 a', decide_eq_true_iff]
              exact ⟨fun q => q.2, fun q => ⟨by rw [q]; exact zq_rc.zero hn, q⟩⟩) (fun a' c' hr => by
              have := hr.1
              rw [g2 12 a' (by decide), (h12 a' (by omega)).2 c']
              exact ⟨fun q => q.2.2, fun q => ⟨by omega, hr, q⟩⟩) (fun a' c' q => by
              rw [g2 12 a' (by decide), (h12 a' q.1).2 c'] at q; exact Or.inl q.2.1) (fun a' ha' => by rw [zb_shl (show x < 32 by omega), decide_eq_true_iff]) hn b).mpr z)
          rw [this] at q2; cases q2
        · rintro ⟨q0, q1, q2⟩
          have hn : 0 < nb := by omega
          refine ⟨⟨q0, q1⟩, ?_⟩
          rw [Bool.not_eq_true', zb_t]
          intro z
          exact q2 ((zq_Cl_RA hnb (w := x) (fun a' => by
              rw [zb_and, zb_one, Bool.and_eq_true, h11.2 a', decide_eq_true_iff]
              exact ⟨fun q => q.2, fun q => ⟨by rw [q]; exact zq_rc.zero hn, q⟩⟩) (fun a' c' hr => by
              have := hr.1
              rw [g2 12 a' (by decide), (h12 a' (by omega)).2 c']
              exact ⟨fun q => q.2.2, fun q => ⟨by omega, hr, q⟩⟩) (fun a' c' q => by
              rw [g2 12 a' (by decide), (h12 a' q.1).2 c'] at q; exact Or.inl q.2.1) (fun a' ha' => by rw [zb_shl (show x < 32 by omega), decide_eq_true_iff]) hn b).mp ((r3 b).mp z))
      · rw [zb_big _ (by omega)]
        exact ⟨fun q => (by cases q), fun q => by have := q.1; omega⟩
    · rw [zs_ne (Or.inr e)]; exact g1 x (by omega)) (i := 0) (n := 10000) (Nat.zero_le _) (a := s) ⟨fun a ha => by omega, fun _ _ _ => rfl⟩ (by decide)
  rw [nI_0] at this
  exact this
theorem zX_parentOf_eq (hnb : nb ≤ 16) {s : zx_S} (h15 : ∀ b, b < 16 → zx_sm (s 15 b) ∧ ∀ a, zb (s 15 b) a = true ↔ zq_D P nb a b) {b : Nat} (hb : b < 16) : ∃ r, zX_Graph_parentOf (nI b) s = some r ∧ (zq_rc P nb b → b ≠ 0 → r = nI (zq_pa P nb b)) ∧ ((¬ zq_rc P nb b ∨ b = 0) → r = -1) := by
  unfold zX_Graph_parentOf
  rw [zc_ck hb (by decide), zc_cl (by omega), zc_lt]
  have bt : ∀ a, zb (s 15 b &&& (((1 : Int32) <<< (nI b &&& 31)) ^^^ (-1 : Int32))) a = true ↔ zq_D P nb a b ∧ a ≠ b := fun a => by
    by_cases ha : a < 32
    · rw [zb_and, zb_not _ ha, zb_shl (show b < 32 by omega), Bool.and_eq_true, (h15 b hb).2 a]; simp
    · rw [zb_big _ (by omega)]
      exact ⟨fun q => (by cases q), fun q => by have := q.1.rcl.1; omega⟩
  have sm : zx_sm (s 15 b &&& (((1 : Int32) <<< (nI b &&& 31)) ^^^ (-1 : Int32))) := fun a ha => by rw [zb_and, (h15 b hb).1 a ha]; rfl
  generalize (s 15 b &&& (((1 : Int32) <<< (nI b &&& 31)) ^^^ (-1 : Int32))) = x at bt sm ⊢
  have := zf_first (L := fun n i => zX_Graph_parentOf_L15 x s (fun v3_5 => some v3_5) n i) (K := fun i => some (nI i)) (E := some (-1 : Int32)) 16 0 (fun a => zb x a = true ∧ s 15 a = x) (fun n => by
    show zX_Graph_parentOf_L15 x s (fun v3_5 => some v3_5) (n + 1) (nI 16) = some (-1)
    rw [zX_Graph_parentOf_L15, if_pos (by decide)]) (fun n i _ hi hp => by
    show zX_Graph_parentOf_L15 x s (fun v3_5 => some v3_5) (n + 1) (nI i) = some (nI i)
    rw [zX_Graph_parentOf_L15, if_neg (by rw [show (16 : Int32) = nI 16 by decide, nI_leI (by omega) (by omega)]; omega), zX_isIn_eq _ (show i < 32 by omega), zc_b1, if_pos hp.1, if_neg (by decide), zc_ck hi (by decide), zc_cl (by omega), if_pos hp.2]) (fun n i _ hi hp => by
    show zX_Graph_parentOf_L15 x s (fun v3_5 => some v3_5) (n + 1) (nI i) = zX_Graph_parentOf_L15 x s (fun v3_5 => some v3_5) n (nI (i + 1))
    rw [zX_Graph_parentOf_L15, if_neg (by rw [show (16 : Int32) = nI 16 by decide, nI_leI (by omega) (by omega)]; omega), zX_isIn_eq _ (show i < 32 by omega), zc_b1]
    simp only [zc_lt, nI_1, zc_ck hi (by decide), zc_cl (show i < 2 ^ 31 by omega)]
    by_cases c1 : zb x i = true
    · rw [if_pos c1, if_neg (by decide), if_neg (fun q => hp ⟨c1, q⟩)]
    · rw [if_neg c1, if_pos rfl]) (Nat.zero_le _) (n := 10000) (by decide)
  rw [nI_0] at this
  -- such an a is the parent
  have par : ∀ a, a < 16 → ((zb x a = true ∧ s 15 a = x) ↔ zq_Par P nb a b) := fun a ha => by
    constructor
    · rintro ⟨q1, q2⟩
      have d := (bt a).mp q1
      refine ⟨d.2, d.1, fun c hc hD => ?_⟩
      exact ((h15 a ha).2 c).mp (by rw [q2]; exact (bt c).mpr ⟨hD, hc⟩)
    · intro q
      refine ⟨(bt a).mpr ⟨q.2.1, q.1⟩, zx_sm_ext (h15 a ha).1 sm (fun c _ => ?_)⟩
      rw [(h15 a ha).2 c, bt c]
      constructor
      · exact fun z => ⟨z.trans q.2.1, fun e => q.1 (zq_D.anti q.2.1 (e ▸ z))⟩
      · exact fun z => q.2.2 c z.2 z.1
  rcases this with ⟨i, -, hi, hp, -, e⟩ | ⟨hno, e⟩
  · have q := (par i hi).mp hp
    refine ⟨_, e, fun hr h0 => by rw [q.uniq (zq_pa_ok hr h0)], fun hc => ?_⟩
    rcases hc with z | z
    · exact absurd q.2.1.rc z
    · subst z; exact absurd (zq_D.anti q.2.1 (zq_D.zero q.2.1.rcl)) q.1
  · refine ⟨_, e, fun hr h0 => ?_, fun _ => rfl⟩
    have q := zq_pa_ok hr h0
    have hl := q.2.1.rcl.1
    exact absurd ((par _ (by omega)).mpr q) (hno _ (Nat.zero_le _) (by omega))
theorem zX_frontierOf_eq {s : zx_S} (h13 : ∀ b, b < 16 → zx_sm (s 13 b) ∧ ∀ p, zb (s 13 b) p = true ↔ zq_pr P nb b p) (h14 : ∀ a, a < 16 → zx_sm (s 14 a) ∧ ∀ b, zb (s 14 a) b = true ↔ zq_D P nb a b) {a : Nat} (ha : a < 16) : ∃ r, zX_Graph_frontierOf (nI a) s = some r ∧ zx_sm r ∧ ∀ b, zb r b = true ↔ b < 16 ∧ zq_Fr P nb a b := by
  unfold zX_Graph_frontierOf
  have := zf_for (A := Int32) (L := fun n i v => zX_Graph_frontierOf_L4 (nI a) s (fun v2_6 => some v2_6) n v i) (k := fun v => some v) 16 (fun i v => zx_sm v ∧ ∀ b, zb v b = true ↔ b < i ∧ zq_Fr P nb a b) (fun n v _ => by
    show zX_Graph_frontierOf_L4 (nI a) s (fun v2_6 => some v2_6) (n + 1) v (nI 16) = some v
    rw [zX_Graph_frontierOf_L4, if_pos (by decide)]) (fun n b v hb h => by
    obtain ⟨g1, g2⟩ := h
    show ∃ a', _ ∧ zX_Graph_frontierOf_L4 (nI a) s (fun v2_6 => some v2_6) (n + 1) v (nI b) = zX_Graph_frontierOf_L4 (nI a) s (fun v2_6 => some v2_6) n a' (nI (b + 1))
    rw [zX_Graph_frontierOf_L4, if_neg (by rw [show (16 : Int32) = nI 16 by decide, nI_leI (by omega) (by omega)]; omega)]
    have tail : ∀ t0 : Bool, (t0 = true ↔ a ≠ b ∧ zq_D P nb a b) → ∃ a', (zx_sm a' ∧ ∀ x, zb a' x = true ↔ x < b + 1 ∧ zq_Fr P nb a x) ∧ zX_Graph_frontierOf_J33 (zX_Graph_frontierOf_L4 (nI a) s (fun v2_6 => some v2_6) n) (nI a) v (nI b) (zi t0) s = zX_Graph_frontierOf_L4 (nI a) s (fun v2_6 => some v2_6) n a' (nI (b + 1)) := by
      intro t0 ht
      unfold zX_Graph_frontierOf_J33
      simp only [zc_ck ha (by decide), zc_ck hb (by decide), zc_cl (show a < 2 ^ 31 by omega), zc_cl (show b < 2 ^ 31 by omega), zc_lt, nI_1, zi_0]
      have meet : ¬ (s 14 a &&& s 13 b) = 0 ↔ ∃ p, zq_rc P nb p ∧ zq_ld P nb p b ∧ zq_D P nb a p := by
        rw [zb_eq0]
        constructor
        · intro q
          have : ∃ p, zb (s 14 a &&& s 13 b) p = true := Classical.byContradiction fun z => q (fun p _ => zb_t.mpr (fun y => z ⟨p, y⟩))
          obtain ⟨p, hp⟩ := this
          rw [zb_and, Bool.and_eq_true, (h14 a ha).2 p, (h13 b hb).2 p] at hp
          exact ⟨p, hp.2.1, hp.2.2, hp.1⟩
        · rintro ⟨p, q1, q2, q3⟩ z
          have hp : zb (s 14 a &&& s 13 b) p = true := by rw [zb_and, Bool.and_eq_true, (h14 a ha).2 p, (h13 b hb).2 p]; exact ⟨q3, q1, q2⟩
          have hl : p < 16 := (show zx_sm (s 14 a &&& s 13 b) from fun x hx => by rw [zb_and, (h14 a ha).1 x hx]; rfl).lt hp
          rw [z p (by omega)] at hp; cases hp
      have skip : ¬ zq_Fr P nb a b → ∃ a', (zx_sm a' ∧ ∀ x, zb a' x = true ↔ x < b + 1 ∧ zq_Fr P nb a x) ∧ zX_Graph_frontierOf_L4 (nI a) s (fun v2_6 => some v2_6) n v (nI (b + 1)) = zX_Graph_frontierOf_L4 (nI a) s (fun v2_6 => some v2_6) n a' (nI (b + 1)) := fun hno => by
        refine ⟨v, ⟨g1, fun x => ?_⟩, rfl⟩
        rw [g2 x]
        constructor
        · exact fun q => ⟨by omega, q.2⟩
        · rintro ⟨q1, q2⟩
          by_cases e : x = b
          · rw [e] at q2; exact absurd q2 hno
          · exact ⟨by omega, q2⟩
      by_cases c1 : (s 14 a &&& s 13 b) = 0
      · rw [if_pos c1]
        exact skip (fun q => meet.mpr q.1 c1)
      · rw [if_neg c1]
        by_cases c2 : t0 = false
        · rw [if_pos c2]
          have hF : zq_Fr P nb a b := by
            refine ⟨meet.mp c1, ?_⟩
            by_cases e : a = b
            · exact Or.inl e
            · exact Or.inr (fun z => by have := ht.mpr ⟨e, z⟩; rw [c2] at this; cases this)
          refine ⟨_, ⟨fun x hx => ?_, fun x => ?_⟩, rfl⟩
          · rw [zb_or, g1 x hx, zb_shl (show b < 32 by omega)]; simp; omega
          · rw [zb_or, Bool.or_eq_true, g2 x, zb_shl (show b < 32 by omega), decide_eq_true_iff]
            constructor
            · rintro (q | q)
              · exact ⟨by omega, q.2⟩
              · exact ⟨by omega, q ▸ hF⟩
            · rintro ⟨q1, q2⟩
              by_cases e : x = b
              · exact Or.inr e
              · exact Or.inl ⟨by omega, q2⟩
        · rw [if_neg c2]
          have h2 := ht.mp (by simpa using c2)
          exact skip (fun q => q.2.elim h2.1 (fun z => z h2.2))
    by_cases c0 : nI a = nI b
    · rw [if_pos c0]
      exact tail false ⟨fun z => (by cases z), fun z => absurd (nI_inj (by omega) (by omega) c0) z.1⟩
    · rw [if_neg c0, zc_ck ha (by decide), zc_cl (show a < 2 ^ 31 by omega), zX_isIn_eq _ (show b < 32 by omega), zc_b1, zi_isin]
      simp only [zi_0]
      have hne : a ≠ b := fun e => c0 (by rw [e])
      by_cases c1 : zb (s 14 a) b = false
      · rw [if_pos c1]
        exact tail false ⟨fun z => (by cases z), fun z => by rw [((h14 a ha).2 b).mpr z.2] at c1; cases c1⟩
      · rw [if_neg c1]
        exact tail true ⟨fun _ => ⟨hne, ((h14 a ha).2 b).mp (by simpa using c1)⟩, fun _ => rfl⟩) (i := 0) (n := 10000) (Nat.zero_le _) (a := (0 : Int32)) ⟨zx_sm_0, fun b => by rw [zb_0]; exact ⟨fun q => (by cases q), fun q => by omega⟩⟩ (by decide)
  rw [nI_0] at this
  obtain ⟨r, ⟨h1, h2⟩, h3⟩ := this
  exact ⟨r, h3, h1, h2⟩
theorem zX_draw_spec (hW : zq_WF P nb sz) {s : zx_S} (hP : zX_Pr P nb sz s) : ∃ s', zX_Graph_draw s = some s' ∧ zX_Gr P nb s' ∧ ∀ c i, (c < 11 ∨ 17 < c) → s' c i = s c i := by
  have hnb := hW.2.1
  unfold zX_Graph_draw
  obtain ⟨s1, ⟨a1, a2⟩, a3⟩ := zX_draw_L2_spec hW (fun s7 => zx_b1 (zX_Program_has (0 : Int32) s7) fun r8 => if r8 = 0 then zX_Graph_draw_J59 (0 : Int32) s7 else zx_b1 (zX_Graph_closure (1 : Int32) (0 : Int32) s7) fun r28 => zX_Graph_draw_J59 r28 s7) hP
  rw [a3]
  -- the rest, given what is reached
  have rest : ∀ r : Int32, zx_sm r → (∀ b, zb r b = true ↔ zq_rc P nb b) → ∃ s', zX_Graph_draw_J59 r s1 = some s' ∧ zX_Gr P nb s' ∧ ∀ c i, (c < 11 ∨ 17 < c) → s' c i = s c i := by
    intro r r1 r2
    unfold zX_Graph_draw_J59
    rw [zc_ls]
    obtain ⟨s2, ⟨b1, b2⟩, b3⟩ := zX_draw_L64_spec (P := P) (nb := nb) hnb (fun s14 => zx_b1 (zX_Graph_turnAround s14) fun s15 => zX_Graph_draw_L107 (fun s20 => zx_b1 (zX_Graph_turnAround_2 s20) fun s21 => zX_Graph_draw_L161 (fun s27 => some s27) 10000 (0 : Int32) s21) 10000 (0 : Int32) s15) (s := zx_su s1 11 6 r) (fun b hb => by rw [zs_ne (Or.inl (by decide))]; exact a1 b hb) (fun b _ => by rw [zs_eq]; exact r2 b)
    rw [b3]
    obtain ⟨s3, c1, c2, c3⟩ := zX_turnAround_eq s2
    rw [c1, zc_b1]
    have h11 : s3 11 6 = r := by rw [c3 11 6 (by decide), b2 11 6 (by decide), zs_eq]
    obtain ⟨s4, ⟨d1, d2⟩, d3⟩ := zX_draw_L107_spec (P := P) (nb := nb) hnb (fun s20 => zx_b1 (zX_Graph_turnAround_2 s20) fun s21 => zX_Graph_draw_L161 (fun s27 => some s27) 10000 (0 : Int32) s21) (s := s3) (fun b hb => by rw [c3 12 b (by decide)]; exact b1 b hb) (by rw [h11]; exact ⟨r1, r2⟩)
    rw [d3]
    obtain ⟨s5, e1, e2, e3⟩ := zX_turnAround_2_eq s4
    rw [e1, zc_b1]
    have f13 : ∀ b, b < 16 → zx_sm (s5 13 b) ∧ ∀ p, zb (s5 13 b) p = true ↔ zq_pr P nb b p := fun b hb => by
      rw [e3 13 b (by decide), d2 13 b (by decide)]
      refine ⟨(c2 b hb).1, fun p => ?_⟩
      rw [(c2 b hb).2 p]
      constructor
      · exact fun q => ((b1 p q.1).2 b).mp q.2
      · exact fun q => by
          have := q.1.1
          exact ⟨by omega, ((b1 p (by omega)).2 b).mpr q⟩
    have f14 : ∀ a, a < 16 → zx_sm (s5 14 a) ∧ ∀ b, zb (s5 14 a) b = true ↔ zq_D P nb a b := fun a ha => by
      rw [e3 14 a (by decide)]; exact d1 a ha
    have f15 : ∀ b, b < 16 → zx_sm (s5 15 b) ∧ ∀ a, zb (s5 15 b) a = true ↔ zq_D P nb a b := fun b hb => by
      refine ⟨(e2 b hb).1, fun a => ?_⟩
      rw [(e2 b hb).2 a]
      constructor
      · exact fun q => ((d1 a q.1).2 b).mp q.2
      · exact fun q => by
          have := q.rcl.1
          exact ⟨by omega, ((d1 a (by omega)).2 b).mpr q⟩
    have := zf_for (L := fun n i t => zX_Graph_draw_L161 (fun s27 => some s27) n i t) (k := fun s27 => some s27) 16 (fun n t => ((∀ b, b < n → (zq_rc P nb b → b ≠ 0 → t 16 b = nI (zq_pa P nb b)) ∧ ((¬ zq_rc P nb b ∨ b = 0) → t 16 b = -1)) ∧ ∀ a, a < n → zx_sm (t 17 a) ∧ ∀ b, zb (t 17 a) b = true ↔ zq_Fr P nb a b) ∧ ∀ c i, c ≠ 16 → c ≠ 17 → t c i = s5 c i) (fun n t _ => by
      show zX_Graph_draw_L161 (fun s27 => some s27) (n + 1) (nI 16) t = some t
      rw [zX_Graph_draw_L161, if_pos (by decide)]) (fun n b t hb h => by
      obtain ⟨⟨g1, g2⟩, g3⟩ := h
      show ∃ a', _ ∧ zX_Graph_draw_L161 (fun s27 => some s27) (n + 1) (nI b) t = _
      rw [zX_Graph_draw_L161, if_neg (by rw [show (16 : Int32) = nI 16 by decide, nI_leI (by omega) (by omega)]; omega)]
      obtain ⟨x, x1, x2, x3⟩ := zX_parentOf_eq (P := P) hnb (s := t) (fun b' hb' => by rw [g3 15 b' (by decide) (by decide)]; exact f15 b' hb') hb
      rw [x1, zc_b1, zc_ck hb (by decide), zc_cl (show b < 2 ^ 31 by omega), zc_ls]
      obtain ⟨y, y1, y2, y3⟩ := zX_frontierOf_eq (P := P) (nb := nb) (s := zx_su t 16 b x) (fun b' hb' => by rw [zs_ne (Or.inl (by decide)), g3 13 b' (by decide) (by decide)]; exact f13 b' hb') (fun b' hb' => by rw [zs_ne (Or.inl (by decide)), g3 14 b' (by decide) (by decide)]; exact f14 b' hb') hb
      rw [y1, zc_b1, zc_ck hb (by decide), zc_ls, zc_lt, nI_1]
      refine ⟨_, ⟨⟨fun b' hb' => ?_, fun a' ha' => ?_⟩, fun c i h1 h2 => by rw [zs_ne (Or.inl h2), zs_ne (Or.inl h1)]; exact g3 c i h1 h2⟩, rfl⟩
      · rw [zs_ne (Or.inl (by decide))]
        by_cases e : b' = b
        · subst e; rw [zs_eq]; exact ⟨x2, x3⟩
        · rw [zs_ne (Or.inr e)]; exact g1 b' (by omega)
      · by_cases e : a' = b
        · subst e; rw [zs_eq]
          refine ⟨y2, fun z => ?_⟩
          rw [y3 z]
          exact ⟨fun q => q.2, fun q => ⟨by have := (q.rc hnb).2.1; omega, q⟩⟩
        · rw [zs_ne (Or.inr e), zs_ne (Or.inl (by decide))]; exact g2 a' (by omega)) (i := 0) (n := 10000) (Nat.zero_le _) (a := s5) ⟨⟨fun b hb => by omega, fun a ha => by omega⟩, fun _ _ _ _ => rfl⟩ (by decide)
    rw [nI_0] at this
    obtain ⟨s6, ⟨⟨g1, g2⟩, g3⟩, g4⟩ := this
    refine ⟨s6, g4, ⟨by rw [g3 11 6 (by decide) (by decide), e3 11 6 (by decide), d2 11 6 (by decide), h11]; exact ⟨r1, r2⟩, fun b hb => by rw [g3 13 b (by decide) (by decide)]; exact f13 b hb, fun b hb => by rw [g3 14 b (by decide) (by decide)]; exact f14 b hb, fun b hb => by rw [g3 15 b (by decide) (by decide)]; exact f15 b hb, g1, g2⟩, fun c i hc => ?_⟩
    rw [g3 c i (by omega) (by omega), e3 c i (by omega), d2 c i (by omega), c3 c i (by omega), b2 c i (by omega), zs_ne (Or.inl (by omega)), a2 c i (by omega)]
  have hs1 : s1 1 9 = nI nb := by rw [a2 1 9 (by decide)]; exact hP.1.1
  have h0 := zX_has_eq hs1 hnb (show 0 < 2 ^ 31 by decide)
  rw [nI_0] at h0
  rw [h0, zc_b1]
  simp only [zi_0]
  by_cases c1 : 0 < nb
  · rw [if_neg (by rw [decide_eq_true c1]; decide)]
    obtain ⟨r, r1, r2, r3⟩ := zX_closure_eq (s := s1) (fun j hj => (a1 j hj).1) (p0 := 1) (p2 := 0) (fun b hb => by rw [zb_one]; simp; omega)
    rw [r1, zc_b1]
    refine rest r r2 (fun b => ?_)
    rw [r3 b, zq_Cl_RA hnb (P := P) (w := 99) (fun a => by rw [zb_one, decide_eq_true_iff]) (fun a c hr => by
      have := hr.1
      rw [(a1 a (by omega)).2 c]; exact ⟨fun q => q.2, fun q => ⟨by omega, q⟩⟩) (fun a c q => Or.inr (((a1 a q.1).2 c).mp q.2)) (fun a ha => by rw [zb_0]; exact ⟨fun q => (by cases q), fun q => by omega⟩) c1 b]
    constructor
    · intro q
      refine ⟨?_, q⟩
      rcases zq_RA_lt q with e | e
      · omega
      · exact e
    · exact fun q => q.2
  · rw [if_pos (decide_eq_false c1)]
    exact rest 0 zx_sm_0 (fun b => by rw [zb_0]; exact ⟨fun q => (by cases q), fun q => by have := q.1; omega⟩)
end XD
