/-! PURE: the class's sets of BLOCKS: union, closure, turnAround -/
def zx_sm (x : Int32) : Prop := ∀ b, 16 ≤ b → zb x b = false
theorem zx_sm.lt {x : Int32} (h : zx_sm x) {b : Nat} (hb : zb x b = true) : b < 16 := by
  apply Classical.byContradiction
  intro q
  rw [h b (by omega)] at hb; cases hb
theorem zx_sm_0 : zx_sm 0 := fun b _ => zb_0 b
theorem zx_sm_ext {x y : Int32} (hx : zx_sm x) (hy : zx_sm y) (h : ∀ b, b < 16 → (zb x b = true ↔ zb y b = true)) : x = y := by
  refine zb_ext (fun b _ => ?_)
  by_cases hb : b < 16
  · have := h b hb
    cases h1 : zb x b <;> cases h2 : zb y b <;> simp_all
  · rw [hx b (by omega), hy b (by omega)]
def zq_Cl (seed : Nat → Prop) (nx : Nat → Nat → Prop) (bar : Nat → Prop) (b : Nat) : Prop := ∀ S : Nat → Prop, (∀ a, seed a → ¬ bar a → S a) → (∀ a c, S a → nx a c → ¬ bar c → S c) → S b
theorem zq_Cl.seed {seed : Nat → Prop} {nx : Nat → Nat → Prop} {bar : Nat → Prop} {a : Nat} (h : seed a) (hb : ¬ bar a) : zq_Cl seed nx bar a := fun _ h0 _ => h0 a h hb
theorem zq_Cl.step {seed : Nat → Prop} {nx : Nat → Nat → Prop} {bar : Nat → Prop} {a c : Nat} (h : zq_Cl seed nx bar a) (hn : nx a c) (hb : ¬ bar c) : zq_Cl seed nx bar c := fun S h0 h1 => h1 a c (h S h0 h1) hn hb
theorem zb_t {x : Int32} {b : Nat} : zb x b = false ↔ ¬ zb x b = true := by cases zb x b <;> simp
theorem zi_isin (x : Int32) (b : Nat) : (if zb x b = true then (1 : Int32) else 0) = zi (zb x b) := rfl
theorem zX_union_eq {s : zx_S} (hrow : ∀ j, j < 16 → zx_sm (s 12 j)) (x : Int32) : ∃ r, zX_Graph_union x s = some r ∧ zx_sm r ∧ ∀ b, zb r b = true ↔ ∃ j, j < 16 ∧ zb x j = true ∧ zb (s 12 j) b = true := by
  unfold zX_Graph_union
  have := zf_for (A := Int32) (L := fun n i v => zX_Graph_union_L4 x s (fun v2_5 => some v2_5) n v i) (k := fun v => some v) 16 (fun i v => zx_sm v ∧ ∀ b, zb v b = true ↔ ∃ j, j < i ∧ zb x j = true ∧ zb (s 12 j) b = true) (fun n v _ => by
    show zX_Graph_union_L4 x s (fun v2_5 => some v2_5) (n + 1) v (nI 16) = some v
    rw [zX_Graph_union_L4, if_pos (by decide)]) (fun n i v hi h => by
    obtain ⟨g1, g2⟩ := h
    show ∃ a', _ ∧ zX_Graph_union_L4 x s (fun v2_5 => some v2_5) (n + 1) v (nI i) = zX_Graph_union_L4 x s (fun v2_5 => some v2_5) n a' (nI (i + 1))
    rw [zX_Graph_union_L4, if_neg (by rw [show (16 : Int32) = nI 16 by decide, nI_leI (by omega) (by omega)]; omega), zX_isIn_eq x (show i < 32 by omega), zc_b1, zi_isin]
    simp only [zi_0, zc_lt, nI_1, zc_ck hi (by decide), zc_cl (show i < 2 ^ 31 by omega)]
    by_cases c1 : zb x i = false
    · rw [if_pos c1]
      refine ⟨v, ⟨g1, fun b => ?_⟩, rfl⟩
      rw [g2 b]
      constructor
      · rintro ⟨j, h1, h2⟩; exact ⟨j, by omega, h2⟩
      · rintro ⟨j, h1, h2, h3⟩
        by_cases e : j = i
        · rw [e, c1] at h2; cases h2
        · exact ⟨j, by omega, h2, h3⟩
    · rw [if_neg c1]
      have c1 : zb x i = true := by simpa using c1
      refine ⟨_, ⟨fun b hb => by rw [zb_or, g1 b hb, hrow i hi b hb]; rfl, fun b => ?_⟩, rfl⟩
      rw [zb_or, Bool.or_eq_true, g2 b]
      constructor
      · rintro (⟨j, h1, h2⟩ | h)
        · exact ⟨j, by omega, h2⟩
        · exact ⟨i, by omega, c1, h⟩
      · rintro ⟨j, h1, h2, h3⟩
        by_cases e : j = i
        · rw [e] at h3; exact Or.inr h3
        · exact Or.inl ⟨j, by omega, h2, h3⟩) (i := 0) (n := 10000) (Nat.zero_le _) (a := (0 : Int32)) ⟨zx_sm_0, fun b => by rw [zb_0]; exact ⟨fun q => (by cases q), fun ⟨j, h, _⟩ => by omega⟩⟩ (by decide)
  rw [nI_0] at this
  obtain ⟨r, ⟨h1, h2⟩, h3⟩ := this
  exact ⟨r, h3, h1, h2⟩
theorem zX_closure_eq {s : zx_S} (hrow : ∀ j, j < 16 → zx_sm (s 12 j)) {p0 p2 : Int32} (h0 : zx_sm p0) : ∃ r, zX_Graph_closure p0 p2 s = some r ∧ zx_sm r ∧ ∀ b, zb r b = true ↔ zq_Cl (fun a => zb p0 a = true) (fun a c => a < 16 ∧ zb (s 12 a) c = true) (fun a => zb p2 a = true) b := by
  unfold zX_Graph_closure
  rw [zc_lt]
  have := zf_loop (A := Nat × Int32 × Int32) (L := fun n q => zX_Graph_closure_L12 p2 s (fun v3_5 => some v3_5) n q.2.1 q.2.2 (nI q.1)) (Out := fun o => ∃ r, o = some r ∧ zx_sm r ∧ ∀ b, zb r b = true ↔ zq_Cl (fun a => zb p0 a = true) (fun a c => a < 16 ∧ zb (s 12 a) c = true) (fun a => zb p2 a = true) b) (Inv := fun m q => q.1 ≤ 16 ∧ m = 16 - q.1 ∧ zx_sm q.2.1 ∧ (∀ b, zb q.2.2 b = true → zb q.2.1 b = true) ∧ (∀ b, zb q.2.1 b = true → zq_Cl (fun a => zb p0 a = true) (fun a c => a < 16 ∧ zb (s 12 a) c = true) (fun a => zb p2 a = true) b) ∧ (∀ a, zb p0 a = true → ¬ zb p2 a = true → zb q.2.1 a = true) ∧ (∀ a c, zb q.2.2 a = true → a < 16 → zb (s 12 a) c = true → ¬ zb p2 c = true → zb q.2.1 c = true) ∧ q.1 ≤ zn (zb q.2.2) 16) (fun n m q h => by
    obtain ⟨i, v, w⟩ := q
    obtain ⟨g0, g1, g2, g3, g4, g5, g6, g7⟩ := h
    dsimp only at g0 g1 g2 g3 g4 g5 g6 g7
    -- when nothing comes any more
    have done : (∀ b, zb v b = true → zb w b = true) → ∃ r, some v = some r ∧ zx_sm r ∧ ∀ b, zb r b = true ↔ zq_Cl (fun a => zb p0 a = true) (fun a c => a < 16 ∧ zb (s 12 a) c = true) (fun a => zb p2 a = true) b := fun hvw => ⟨v, rfl, g2, fun b => ⟨g4 b, fun hc => hc (fun x => zb v x = true) g5 (fun a c ha hn hb => g6 a c (hvw a ha) hn.1 hn.2 hb)⟩⟩
    dsimp only
    rw [zX_Graph_closure_L12]
    by_cases c0 : (16 : Int32) ≤ nI i
    · rw [if_pos c0]
      left
      rw [show (16 : Int32) = nI 16 by decide, nI_leI (by omega) (by omega)] at c0
      have all := zn_all (f := zb w) (n := 16) (by omega)
      exact done (fun b hb => all b (g2.lt hb))
    · rw [if_neg c0]
      rw [show (16 : Int32) = nI 16 by decide, nI_leI (by omega) (by omega)] at c0
      by_cases c1 : v = w
      · rw [if_pos c1]
        left
        exact done (fun b hb => c1 ▸ hb)
      · rw [if_neg c1]
        right
        obtain ⟨r, r1, r2, r3⟩ := zX_union_eq hrow v
        rw [r1, zc_b1, zc_lt, zc_lt, nI_1]
        have bt : ∀ b, zb (v ||| (r &&& (p2 ^^^ (-1 : Int32)))) b = true ↔ zb v b = true ∨ (zb r b = true ∧ ¬ zb p2 b = true) := fun b => by
          rw [zb_or, zb_and, Bool.or_eq_true, Bool.and_eq_true]
          by_cases hb : b < 32
          · rw [zb_not _ hb]; simp
          · rw [zb_big r (by omega), zb_big v (by omega)]; simp
        have hex : ∃ b, b < 32 ∧ zb v b ≠ zb w b := Classical.byContradiction fun q => c1 (zb_ext (fun b hb => Classical.byContradiction fun z => q ⟨b, hb, z⟩))
        obtain ⟨x, hx, hne⟩ := hex
        have hvx : zb v x = true := by
          by_cases q : zb v x = true
          · exact q
          · have q2 : zb w x = true := by
              cases h1 : zb v x <;> cases h2 : zb w x <;> simp_all
            exact g3 x q2
        have hwx : zb w x = false := by
          cases h2 : zb w x
          · rfl
          · exact absurd (hvx.trans h2.symm) hne
        have up : zn (zb w) 16 < zn (zb v) 16 := zn_lt (fun b _ q => g3 b q) (g2.lt hvx) hwx hvx
        refine ⟨16 - (i + 1), (i + 1, v ||| (r &&& (p2 ^^^ (-1 : Int32))), v), by omega, ⟨by show i + 1 ≤ 16; omega, rfl, fun b hb => ?_, fun b hb => (bt b).mpr (Or.inl hb), fun b hb => ?_, fun a ha hb => (bt a).mpr (Or.inl (g5 a ha hb)), fun a c ha ha2 hc hb => (bt c).mpr (Or.inr ⟨(r3 c).mpr ⟨a, ha2, ha, hc⟩, hb⟩), by show i + 1 ≤ zn (zb v) 16; omega⟩, rfl⟩
        · rw [zb_t, bt b]
          rintro (q | q)
          · rw [g2 b hb] at q; cases q
          · rw [r2 b hb] at q; cases q.1
        · rcases (bt b).mp hb with q | q
          · exact g4 b q
          · obtain ⟨j, j1, j2, j3⟩ := (r3 b).mp q.1
            exact (g4 j j2).step ⟨j1, j3⟩ q.2) 10000 16 (0, p0 &&& (p2 ^^^ (-1 : Int32)), (0 : Int32)) (by
    have bt : ∀ b, zb (p0 &&& (p2 ^^^ (-1 : Int32))) b = true ↔ zb p0 b = true ∧ ¬ zb p2 b = true := fun b => by
      rw [zb_and, Bool.and_eq_true]
      by_cases hb : b < 32
      · rw [zb_not _ hb]; simp
      · rw [zb_big p0 (by omega)]; simp
    refine ⟨Nat.zero_le _, rfl, fun b hb => ?_, fun b q => ?_, fun b q => zq_Cl.seed ((bt b).mp q).1 ((bt b).mp q).2, fun a ha hb => (bt a).mpr ⟨ha, hb⟩, fun a c q => ?_, Nat.zero_le _⟩
    · rw [zb_t, bt b, h0 b hb]; exact fun q => (by cases q.1)
    · rw [zb_0] at q; cases q
    · rw [zb_0] at q; cases q) (by decide)
  rw [show nI (0, p0 &&& (p2 ^^^ (-1 : Int32)), (0 : Int32)).1 = (0 : Int32) from nI_0] at this
  exact this
theorem zX_union_2_eq {s : zx_S} (hrow : ∀ j, j < 16 → zx_sm (s 17 j)) (x : Int32) : ∃ r, zX_Graph_union_2 x s = some r ∧ zx_sm r ∧ ∀ b, zb r b = true ↔ ∃ j, j < 16 ∧ zb x j = true ∧ zb (s 17 j) b = true := by
  unfold zX_Graph_union_2
  have := zf_for (A := Int32) (L := fun n i v => zX_Graph_union_2_L4 x s (fun v2_5 => some v2_5) n v i) (k := fun v => some v) 16 (fun i v => zx_sm v ∧ ∀ b, zb v b = true ↔ ∃ j, j < i ∧ zb x j = true ∧ zb (s 17 j) b = true) (fun n v _ => by
    show zX_Graph_union_2_L4 x s (fun v2_5 => some v2_5) (n + 1) v (nI 16) = some v
    rw [zX_Graph_union_2_L4, if_pos (by decide)]) (fun n i v hi h => by
    obtain ⟨g1, g2⟩ := h
    show ∃ a', _ ∧ zX_Graph_union_2_L4 x s (fun v2_5 => some v2_5) (n + 1) v (nI i) = zX_Graph_union_2_L4 x s (fun v2_5 => some v2_5) n a' (nI (i + 1))
    rw [zX_Graph_union_2_L4, if_neg (by rw [show (16 : Int32) = nI 16 by decide, nI_leI (by omega) (by omega)]; omega), zX_isIn_eq x (show i < 32 by omega), zc_b1, zi_isin]
    simp only [zi_0, zc_lt, nI_1, zc_ck hi (by decide), zc_cl (show i < 2 ^ 31 by omega)]
    by_cases c1 : zb x i = false
    · rw [if_pos c1]
      refine ⟨v, ⟨g1, fun b => ?_⟩, rfl⟩
      rw [g2 b]
      constructor
      · rintro ⟨j, h1, h2⟩; exact ⟨j, by omega, h2⟩
      · rintro ⟨j, h1, h2, h3⟩
        by_cases e : j = i
        · rw [e, c1] at h2; cases h2
        · exact ⟨j, by omega, h2, h3⟩
    · rw [if_neg c1]
      have c1 : zb x i = true := by simpa using c1
      refine ⟨_, ⟨fun b hb => by rw [zb_or, g1 b hb, hrow i hi b hb]; rfl, fun b => ?_⟩, rfl⟩
      rw [zb_or, Bool.or_eq_true, g2 b]
      constructor
      · rintro (⟨j, h1, h2⟩ | h)
        · exact ⟨j, by omega, h2⟩
        · exact ⟨i, by omega, c1, h⟩
      · rintro ⟨j, h1, h2, h3⟩
        by_cases e : j = i
        · rw [e] at h3; exact Or.inr h3
        · exact Or.inl ⟨j, by omega, h2, h3⟩) (i := 0) (n := 10000) (Nat.zero_le _) (a := (0 : Int32)) ⟨zx_sm_0, fun b => by rw [zb_0]; exact ⟨fun q => (by cases q), fun ⟨j, h, _⟩ => by omega⟩⟩ (by decide)
  rw [nI_0] at this
  obtain ⟨r, ⟨h1, h2⟩, h3⟩ := this
  exact ⟨r, h3, h1, h2⟩
theorem zX_closure_2_eq {s : zx_S} (hrow : ∀ j, j < 16 → zx_sm (s 17 j)) {p0 p2 : Int32} (h0 : zx_sm p0) : ∃ r, zX_Graph_closure_2 p0 p2 s = some r ∧ zx_sm r ∧ ∀ b, zb r b = true ↔ zq_Cl (fun a => zb p0 a = true) (fun a c => a < 16 ∧ zb (s 17 a) c = true) (fun a => zb p2 a = true) b := by
  unfold zX_Graph_closure_2
  rw [zc_lt]
  have := zf_loop (A := Nat × Int32 × Int32) (L := fun n q => zX_Graph_closure_2_L12 p2 s (fun v3_5 => some v3_5) n q.2.1 q.2.2 (nI q.1)) (Out := fun o => ∃ r, o = some r ∧ zx_sm r ∧ ∀ b, zb r b = true ↔ zq_Cl (fun a => zb p0 a = true) (fun a c => a < 16 ∧ zb (s 17 a) c = true) (fun a => zb p2 a = true) b) (Inv := fun m q => q.1 ≤ 16 ∧ m = 16 - q.1 ∧ zx_sm q.2.1 ∧ (∀ b, zb q.2.2 b = true → zb q.2.1 b = true) ∧ (∀ b, zb q.2.1 b = true → zq_Cl (fun a => zb p0 a = true) (fun a c => a < 16 ∧ zb (s 17 a) c = true) (fun a => zb p2 a = true) b) ∧ (∀ a, zb p0 a = true → ¬ zb p2 a = true → zb q.2.1 a = true) ∧ (∀ a c, zb q.2.2 a = true → a < 16 → zb (s 17 a) c = true → ¬ zb p2 c = true → zb q.2.1 c = true) ∧ q.1 ≤ zn (zb q.2.2) 16) (fun n m q h => by
    obtain ⟨i, v, w⟩ := q
    obtain ⟨g0, g1, g2, g3, g4, g5, g6, g7⟩ := h
    dsimp only at g0 g1 g2 g3 g4 g5 g6 g7
    -- when nothing comes any more
    have done : (∀ b, zb v b = true → zb w b = true) → ∃ r, some v = some r ∧ zx_sm r ∧ ∀ b, zb r b = true ↔ zq_Cl (fun a => zb p0 a = true) (fun a c => a < 16 ∧ zb (s 17 a) c = true) (fun a => zb p2 a = true) b := fun hvw => ⟨v, rfl, g2, fun b => ⟨g4 b, fun hc => hc (fun x => zb v x = true) g5 (fun a c ha hn hb => g6 a c (hvw a ha) hn.1 hn.2 hb)⟩⟩
    dsimp only
    rw [zX_Graph_closure_2_L12]
    by_cases c0 : (16 : Int32) ≤ nI i
    · rw [if_pos c0]
      left
      rw [show (16 : Int32) = nI 16 by decide, nI_leI (by omega) (by omega)] at c0
      have all := zn_all (f := zb w) (n := 16) (by omega)
      exact done (fun b hb => all b (g2.lt hb))
    · rw [if_neg c0]
      rw [show (16 : Int32) = nI 16 by decide, nI_leI (by omega) (by omega)] at c0
      by_cases c1 : v = w
      · rw [if_pos c1]
        left
        exact done (fun b hb => c1 ▸ hb)
      · rw [if_neg c1]
        right
        obtain ⟨r, r1, r2, r3⟩ := zX_union_2_eq hrow v
        rw [r1, zc_b1, zc_lt, zc_lt, nI_1]
        have bt : ∀ b, zb (v ||| (r &&& (p2 ^^^ (-1 : Int32)))) b = true ↔ zb v b = true ∨ (zb r b = true ∧ ¬ zb p2 b = true) := fun b => by
          rw [zb_or, zb_and, Bool.or_eq_true, Bool.and_eq_true]
          by_cases hb : b < 32
          · rw [zb_not _ hb]; simp
          · rw [zb_big r (by omega), zb_big v (by omega)]; simp
        have hex : ∃ b, b < 32 ∧ zb v b ≠ zb w b := Classical.byContradiction fun q => c1 (zb_ext (fun b hb => Classical.byContradiction fun z => q ⟨b, hb, z⟩))
        obtain ⟨x, hx, hne⟩ := hex
        have hvx : zb v x = true := by
          by_cases q : zb v x = true
          · exact q
          · have q2 : zb w x = true := by
              cases h1 : zb v x <;> cases h2 : zb w x <;> simp_all
            exact g3 x q2
        have hwx : zb w x = false := by
          cases h2 : zb w x
          · rfl
          · exact absurd (hvx.trans h2.symm) hne
        have up : zn (zb w) 16 < zn (zb v) 16 := zn_lt (fun b _ q => g3 b q) (g2.lt hvx) hwx hvx
        refine ⟨16 - (i + 1), (i + 1, v ||| (r &&& (p2 ^^^ (-1 : Int32))), v), by omega, ⟨by show i + 1 ≤ 16; omega, rfl, fun b hb => ?_, fun b hb => (bt b).mpr (Or.inl hb), fun b hb => ?_, fun a ha hb => (bt a).mpr (Or.inl (g5 a ha hb)), fun a c ha ha2 hc hb => (bt c).mpr (Or.inr ⟨(r3 c).mpr ⟨a, ha2, ha, hc⟩, hb⟩), by show i + 1 ≤ zn (zb v) 16; omega⟩, rfl⟩
        · rw [zb_t, bt b]
          rintro (q | q)
          · rw [g2 b hb] at q; cases q
          · rw [r2 b hb] at q; cases q.1
        · rcases (bt b).mp hb with q | q
          · exact g4 b q
          · obtain ⟨j, j1, j2, j3⟩ := (r3 b).mp q.1
            exact (g4 j j2).step ⟨j1, j3⟩ q.2) 10000 16 (0, p0 &&& (p2 ^^^ (-1 : Int32)), (0 : Int32)) (by
    have bt : ∀ b, zb (p0 &&& (p2 ^^^ (-1 : Int32))) b = true ↔ zb p0 b = true ∧ ¬ zb p2 b = true := fun b => by
      rw [zb_and, Bool.and_eq_true]
      by_cases hb : b < 32
      · rw [zb_not _ hb]; simp
      · rw [zb_big p0 (by omega)]; simp
    refine ⟨Nat.zero_le _, rfl, fun b hb => ?_, fun b q => ?_, fun b q => zq_Cl.seed ((bt b).mp q).1 ((bt b).mp q).2, fun a ha hb => (bt a).mpr ⟨ha, hb⟩, fun a c q => ?_, Nat.zero_le _⟩
    · rw [zb_t, bt b, h0 b hb]; exact fun q => (by cases q.1)
    · rw [zb_0] at q; cases q
    · rw [zb_0] at q; cases q) (by decide)
  rw [show nI (0, p0 &&& (p2 ^^^ (-1 : Int32)), (0 : Int32)).1 = (0 : Int32) from nI_0] at this
  exact this
theorem zX_turnAround_L14_eq (k : zx_S → Option zx_S) {a : Nat} (ha : a < 16) {s : zx_S} (h0 : s 13 a = 0) : ∃ s', (zx_sm (s' 13 a) ∧ (∀ b, zb (s' 13 a) b = true ↔ b < 16 ∧ zb (s 12 b) a = true) ∧ ∀ c i, (c ≠ 13 ∨ i ≠ a) → s' c i = s c i) ∧ zX_Graph_turnAround_L14 (nI a) k 10000 (0 : Int32) s = k s' := by
  have := zf_for (L := fun n i t => zX_Graph_turnAround_L14 (nI a) k n i t) (k := k) 16 (fun n t => (zx_sm (t 13 a) ∧ (∀ b, zb (t 13 a) b = true ↔ b < n ∧ zb (s 12 b) a = true)) ∧ ∀ c i, (c ≠ 13 ∨ i ≠ a) → t c i = s c i) (fun n t _ => by
    show zX_Graph_turnAround_L14 (nI a) k (n + 1) (nI 16) t = k t
    rw [zX_Graph_turnAround_L14, if_pos (by decide)]) (fun n b t hb h => by
    obtain ⟨⟨g1, g2⟩, g3⟩ := h
    show ∃ a', _ ∧ zX_Graph_turnAround_L14 (nI a) k (n + 1) (nI b) t = _
    rw [zX_Graph_turnAround_L14, if_neg (by rw [show (16 : Int32) = nI 16 by decide, nI_leI (by omega) (by omega)]; omega), zc_ck hb (by decide), zc_cl (show b < 2 ^ 31 by omega), zX_isIn_eq _ (show a < 32 by omega), zc_b1, zi_isin, g3 12 b (Or.inl (by decide))]
    simp only [zi_0, zc_lt, zc_ls, nI_1, zc_ck ha (by decide), zc_cl (show a < 2 ^ 31 by omega)]
    by_cases c1 : zb (s 12 b) a = false
    · rw [if_pos c1]
      refine ⟨t, ⟨⟨g1, fun x => ?_⟩, g3⟩, rfl⟩
      rw [g2 x]
      constructor
      · exact fun q => ⟨by omega, q.2⟩
      · rintro ⟨q1, q2⟩
        by_cases e : x = b
        · rw [e, c1] at q2; cases q2
        · exact ⟨by omega, q2⟩
    · rw [if_neg c1]
      have c1 : zb (s 12 b) a = true := by simpa using c1
      refine ⟨_, ⟨⟨fun x hx => ?_, fun x => ?_⟩, fun c i hc => by rw [zs_ne hc]; exact g3 c i hc⟩, rfl⟩
      · rw [zs_eq, zb_or, g1 x hx, zb_shl (show b < 32 by omega)]; simp; omega
      · rw [zs_eq, zb_or, Bool.or_eq_true, g2 x, zb_shl (show b < 32 by omega), decide_eq_true_iff]
        constructor
        · rintro (q | q)
          · exact ⟨by omega, q.2⟩
          · exact ⟨by omega, q ▸ c1⟩
        · rintro ⟨q1, q2⟩
          by_cases e : x = b
          · exact Or.inr e
          · exact Or.inl ⟨by omega, q2⟩) (i := 0) (n := 10000) (Nat.zero_le _) (a := s) ⟨⟨by rw [h0]; exact zx_sm_0, fun b => by rw [h0, zb_0]; exact ⟨fun q => (by cases q), fun q => by omega⟩⟩, fun _ _ _ => rfl⟩ (by decide)
  rw [nI_0] at this
  obtain ⟨s', ⟨⟨h1, h2⟩, h3⟩, h4⟩ := this
  exact ⟨s', ⟨h1, h2, h3⟩, h4⟩
theorem zX_turnAround_eq (s : zx_S) : ∃ s', zX_Graph_turnAround s = some s' ∧ (∀ a, a < 16 → zx_sm (s' 13 a) ∧ ∀ b, zb (s' 13 a) b = true ↔ b < 16 ∧ zb (s 12 b) a = true) ∧ ∀ c i, c ≠ 13 → s' c i = s c i := by
  unfold zX_Graph_turnAround
  have := zf_for (L := fun n i t => zX_Graph_turnAround_L2 (fun s9 => some s9) n i t) (k := fun s9 => some s9) 16 (fun n t => (∀ a, a < n → zx_sm (t 13 a) ∧ ∀ b, zb (t 13 a) b = true ↔ b < 16 ∧ zb (s 12 b) a = true) ∧ ∀ c i, c ≠ 13 → t c i = s c i) (fun n t _ => by
    show zX_Graph_turnAround_L2 (fun s9 => some s9) (n + 1) (nI 16) t = some t
    rw [zX_Graph_turnAround_L2, if_pos (by decide)]) (fun n a t ha h => by
    obtain ⟨g1, g2⟩ := h
    show ∃ a', _ ∧ zX_Graph_turnAround_L2 (fun s9 => some s9) (n + 1) (nI a) t = _
    rw [zX_Graph_turnAround_L2, if_neg (by rw [show (16 : Int32) = nI 16 by decide, nI_leI (by omega) (by omega)]; omega), zc_ck ha (by decide), zc_cl (show a < 2 ^ 31 by omega), zc_ls]
    obtain ⟨s1, ⟨w1, w2, w3⟩, w4⟩ := zX_turnAround_L14_eq (fun s7 => zx_lt (nI a + 1) fun v2_8 => zX_Graph_turnAround_L2 (fun s9 => some s9) n v2_8 s7) ha (s := zx_su t 13 a 0) (zs_eq _ _ _ _)
    rw [w4, zc_lt, nI_1]
    refine ⟨s1, ⟨fun x hx => ?_, fun c i hc => by rw [w3 c i (Or.inl hc), zs_ne (Or.inl hc)]; exact g2 c i hc⟩, rfl⟩
    by_cases e : x = a
    · subst e
      refine ⟨w1, fun b => ?_⟩
      rw [w2 b, zs_ne (Or.inl (by decide)), g2 12 b (by decide)]
    · rw [w3 13 x (Or.inr e), zs_ne (Or.inr e)]; exact g1 x (by omega)) (i := 0) (n := 10000) (Nat.zero_le _) (a := s) ⟨fun a ha => by omega, fun _ _ _ => rfl⟩ (by decide)
  rw [nI_0] at this
  obtain ⟨s', ⟨h1, h2⟩, h3⟩ := this
  exact ⟨s', h3, h1, h2⟩
theorem zX_turnAround_2_L14_eq (k : zx_S → Option zx_S) {a : Nat} (ha : a < 16) {s : zx_S} (h0 : s 15 a = 0) : ∃ s', (zx_sm (s' 15 a) ∧ (∀ b, zb (s' 15 a) b = true ↔ b < 16 ∧ zb (s 14 b) a = true) ∧ ∀ c i, (c ≠ 15 ∨ i ≠ a) → s' c i = s c i) ∧ zX_Graph_turnAround_2_L14 (nI a) k 10000 (0 : Int32) s = k s' := by
  have := zf_for (L := fun n i t => zX_Graph_turnAround_2_L14 (nI a) k n i t) (k := k) 16 (fun n t => (zx_sm (t 15 a) ∧ (∀ b, zb (t 15 a) b = true ↔ b < n ∧ zb (s 14 b) a = true)) ∧ ∀ c i, (c ≠ 15 ∨ i ≠ a) → t c i = s c i) (fun n t _ => by
    show zX_Graph_turnAround_2_L14 (nI a) k (n + 1) (nI 16) t = k t
    rw [zX_Graph_turnAround_2_L14, if_pos (by decide)]) (fun n b t hb h => by
    obtain ⟨⟨g1, g2⟩, g3⟩ := h
    show ∃ a', _ ∧ zX_Graph_turnAround_2_L14 (nI a) k (n + 1) (nI b) t = _
    rw [zX_Graph_turnAround_2_L14, if_neg (by rw [show (16 : Int32) = nI 16 by decide, nI_leI (by omega) (by omega)]; omega), zc_ck hb (by decide), zc_cl (show b < 2 ^ 31 by omega), zX_isIn_eq _ (show a < 32 by omega), zc_b1, zi_isin, g3 14 b (Or.inl (by decide))]
    simp only [zi_0, zc_lt, zc_ls, nI_1, zc_ck ha (by decide), zc_cl (show a < 2 ^ 31 by omega)]
    by_cases c1 : zb (s 14 b) a = false
    · rw [if_pos c1]
      refine ⟨t, ⟨⟨g1, fun x => ?_⟩, g3⟩, rfl⟩
      rw [g2 x]
      constructor
      · exact fun q => ⟨by omega, q.2⟩
      · rintro ⟨q1, q2⟩
        by_cases e : x = b
        · rw [e, c1] at q2; cases q2
        · exact ⟨by omega, q2⟩
    · rw [if_neg c1]
      have c1 : zb (s 14 b) a = true := by simpa using c1
      refine ⟨_, ⟨⟨fun x hx => ?_, fun x => ?_⟩, fun c i hc => by rw [zs_ne hc]; exact g3 c i hc⟩, rfl⟩
      · rw [zs_eq, zb_or, g1 x hx, zb_shl (show b < 32 by omega)]; simp; omega
      · rw [zs_eq, zb_or, Bool.or_eq_true, g2 x, zb_shl (show b < 32 by omega), decide_eq_true_iff]
        constructor
        · rintro (q | q)
          · exact ⟨by omega, q.2⟩
          · exact ⟨by omega, q ▸ c1⟩
        · rintro ⟨q1, q2⟩
          by_cases e : x = b
          · exact Or.inr e
          · exact Or.inl ⟨by omega, q2⟩) (i := 0) (n := 10000) (Nat.zero_le _) (a := s) ⟨⟨by rw [h0]; exact zx_sm_0, fun b => by rw [h0, zb_0]; exact ⟨fun q => (by cases q), fun q => by omega⟩⟩, fun _ _ _ => rfl⟩ (by decide)
  rw [nI_0] at this
  obtain ⟨s', ⟨⟨h1, h2⟩, h3⟩, h4⟩ := this
  exact ⟨s', ⟨h1, h2, h3⟩, h4⟩
theorem zX_turnAround_2_eq (s : zx_S) : ∃ s', zX_Graph_turnAround_2 s = some s' ∧ (∀ a, a < 16 → zx_sm (s' 15 a) ∧ ∀ b, zb (s' 15 a) b = true ↔ b < 16 ∧ zb (s 14 b) a = true) ∧ ∀ c i, c ≠ 15 → s' c i = s c i := by
  unfold zX_Graph_turnAround_2
  have := zf_for (L := fun n i t => zX_Graph_turnAround_2_L2 (fun s9 => some s9) n i t) (k := fun s9 => some s9) 16 (fun n t => (∀ a, a < n → zx_sm (t 15 a) ∧ ∀ b, zb (t 15 a) b = true ↔ b < 16 ∧ zb (s 14 b) a = true) ∧ ∀ c i, c ≠ 15 → t c i = s c i) (fun n t _ => by
    show zX_Graph_turnAround_2_L2 (fun s9 => some s9) (n + 1) (nI 16) t = some t
    rw [zX_Graph_turnAround_2_L2, if_pos (by decide)]) (fun n a t ha h => by
    obtain ⟨g1, g2⟩ := h
    show ∃ a', _ ∧ zX_Graph_turnAround_2_L2 (fun s9 => some s9) (n + 1) (nI a) t = _
    rw [zX_Graph_turnAround_2_L2, if_neg (by rw [show (16 : Int32) = nI 16 by decide, nI_leI (by omega) (by omega)]; omega), zc_ck ha (by decide), zc_cl (show a < 2 ^ 31 by omega), zc_ls]
    obtain ⟨s1, ⟨w1, w2, w3⟩, w4⟩ := zX_turnAround_2_L14_eq (fun s7 => zx_lt (nI a + 1) fun v2_8 => zX_Graph_turnAround_2_L2 (fun s9 => some s9) n v2_8 s7) ha (s := zx_su t 15 a 0) (zs_eq _ _ _ _)
    rw [w4, zc_lt, nI_1]
    refine ⟨s1, ⟨fun x hx => ?_, fun c i hc => by rw [w3 c i (Or.inl hc), zs_ne (Or.inl hc)]; exact g2 c i hc⟩, rfl⟩
    by_cases e : x = a
    · subst e
      refine ⟨w1, fun b => ?_⟩
      rw [w2 b, zs_ne (Or.inl (by decide)), g2 14 b (by decide)]
    · rw [w3 15 x (Or.inr e), zs_ne (Or.inr e)]; exact g1 x (by omega)) (i := 0) (n := 10000) (Nat.zero_le _) (a := s) ⟨fun a ha => by omega, fun _ _ _ => rfl⟩ (by decide)
  rw [nI_0] at this
  obtain ⟨s', ⟨h1, h2⟩, h3⟩ := this
  exact ⟨s', h3, h1, h2⟩
