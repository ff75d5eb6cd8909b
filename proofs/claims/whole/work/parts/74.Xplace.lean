/-! PURE: counting bits; Values.placeChoices -/
theorem zy_c_zn : ∀ f n, zy_c f n = zn (fun i => n.testBit i) f := by
  intro f
  induction f with
  | zero => intro n; rfl
  | succ f ih =>
    intro n
    have e : ∀ g : Nat → Bool, ∀ m, zn g (m + 1) = (if g 0 then 1 else 0) + zn (fun i => g (i + 1)) m := by
      intro g m
      induction m with
      | zero => show 0 + (if g 0 then 1 else 0) = (if g 0 then 1 else 0) + 0; rw [Nat.zero_add]; rfl
      | succ m ih' => rw [zn_step, ih', zn_step]; omega
    rw [zy_c, ih (n / 2), e]
    have h0 : (if n.testBit 0 then 1 else 0) = n % 2 := by
      rw [Nat.testBit_zero]
      by_cases q : n % 2 = 1
      · rw [if_pos (by simpa using q)]; omega
      · rw [if_neg (by simpa using q)]; omega
    rw [h0]
    congr 1
    apply zn_congr
    intro i _
    rw [Nat.testBit_succ]
theorem zx_sm.nat {x : Int32} (h : zx_sm x) : ∃ n, n < 65536 ∧ x = nI n := by
  refine ⟨x.toBitVec.toNat, ?_, ?_⟩
  · apply Nat.lt_pow_two_of_testBit (n := 16)
    intro i hi
    have := h i hi
    unfold zb at this
    rw [BitVec.getLsbD] at this
    exact this
  · apply Int32.toBitVec_inj.mp
    show x.toBitVec = BitVec.ofNat 32 x.toBitVec.toNat
    simp
theorem zX_bitCount_eq {x : Int32} (h : zx_sm x) (s : zx_S) : zX_Integer_bitCount x s = some (nI (zn (zb x) 16)) := by
  obtain ⟨n, hn, rfl⟩ := h.nat
  have := zy_all (n / 1024) (by omega) (n / 64 % 16) (by omega) (n % 64) (by omega)
  unfold zy_T at this
  rw [show 64 * (16 * (n / 1024) + n / 64 % 16) + n % 64 = n by omega, zy_c_zn] at this
  refine Eq.trans this ?_
  congr 2
  apply zn_congr
  intro i hi
  show n.testBit i = (BitVec.ofNat 32 n).getLsbD i
  rw [BitVec.getLsbD_ofNat]
  simp; omega
/-- for (i = B; i < B + N; i++) -/
theorem zf_off {A R : Type} {L : Nat → Int32 → A → Option R} {k : A → Option R} (B N : Nat) (Inv : Nat → A → Prop) (fin : ∀ n a, Inv N a → L (n + 1) (nI (B + N)) a = k a) (step : ∀ n j a, j < N → Inv j a → ∃ a', Inv (j + 1) a' ∧ L (n + 1) (nI (B + j)) a = L n (nI (B + j + 1)) a') {a : A} {n : Nat} (h : Inv 0 a) (hn : N < n) : ∃ a', Inv N a' ∧ L n (nI B) a = k a' := by
  have := zf_for (L := L) (k := k) (B + N) (fun i a => B ≤ i ∧ Inv (i - B) a) (fun n a h => fin n a (by have := h.2; rwa [show B + N - B = N by omega] at this)) (fun n i a hi h => by
    obtain ⟨j, rfl⟩ : ∃ j, i = B + j := ⟨i - B, by have := h.1; omega⟩
    have h2 := h.2
    rw [show B + j - B = j by omega] at h2
    obtain ⟨a', g1, g2⟩ := step n j a (by omega) h2
    exact ⟨a', ⟨by omega, by rw [show B + j + 1 - B = j + 1 by omega]; exact g1⟩, g2⟩) (i := B) (a := a) (n := n) (by omega) ⟨Nat.le_refl _, by rw [Nat.sub_self]; exact h⟩ (by omega)
  obtain ⟨a', ⟨-, g1⟩, g2⟩ := this
  exact ⟨a', by rwa [show B + N - B = N by omega] at g1, g2⟩
section XV
variable {P : zx_S} {nb : Nat} {sz : Nat → Nat}
theorem zX_Pi.tot (hW : zq_WF P nb sz) {s : zx_S} (h : zX_Pi P nb sz s) {b : Nat} : zt sz b ≤ 100 := by
  by_cases q : b ≤ nb
  · exact Nat.le_trans (zt_up q) hW.2.2.2.2.2
  · have : zt sz b = zt sz nb := by
      have hx : ∀ d, zt sz (nb + d) = zt sz nb := fun d => by
        induction d with
        | zero => rfl
        | succ d ih =>
          show zt sz (nb + d) + sz (nb + d) = zt sz nb
          rw [ih, h.1 (nb + d) (by omega)]; rfl
      have := hx (b - nb)
      rwa [show nb + (b - nb) = b by omega] at this
    rw [this]; exact hW.2.2.2.2.2
theorem zX_Pi.bnd (hW : zq_WF P nb sz) {s : zx_S} (h : zX_Pi P nb sz s) {b k : Nat} (hk : k < sz b) : b < nb ∧ zt sz b + k < 100 := by
  constructor
  · apply Classical.byContradiction
    intro q
    have := h.1 b (by omega); omega
  · have := h.tot hW (b := b + 1)
    have e : zt sz (b + 1) = zt sz b + sz b := rfl
    omega
/-- the loop over the INSTRUCTIONS of one BLOCK, for what is gathered -/
theorem zX_giving_L18_spec (hW : zq_WF P nb sz) {s : zx_S} (hP : zX_Pi P nb sz s) (k : Int32 → Option Int32) {b v : Nat} (hb : b < 16) (hv : v < 10) {x : Int32} (hx : zx_sm x) : ∃ r, (zx_sm r ∧ ∀ c, zb r c = true ↔ zb x c = true ∨ (c = b ∧ zq_gv P sz b v)) ∧ zX_Values_givingBlocks_L18 (nI v) (nI b) s k 10000 x (nI (zt sz b)) = k r := by
  have ht := hP.tot hW (b := b + 1)
  have e1 : zt sz (b + 1) = zt sz b + sz b := rfl
  have := zf_off (A := Int32) (L := fun n i r => zX_Values_givingBlocks_L18 (nI v) (nI b) s k n r i) (k := k) (zt sz b) (sz b) (fun i r => zx_sm r ∧ ∀ c, zb r c = true ↔ zb x c = true ∨ (c = b ∧ ∃ j, j < i ∧ ¬ P 1 (100 * b + j) = 14 ∧ P 2 (100 * b + j) = nI v)) (fun n r _ => by
    show zX_Values_givingBlocks_L18 (nI v) (nI b) s k (n + 1) r (nI (zt sz b + sz b)) = k r
    rw [zX_Values_givingBlocks_L18, nI_1, zc_ck (show b + 1 < 17 by omega) (by decide), zc_cl (by omega), hP.2.1 (b + 1) (by omega), e1, if_pos (Int32.le_refl _)]) (fun n j r hj h => by
    obtain ⟨g1, g2⟩ := h
    show ∃ a', _ ∧ zX_Values_givingBlocks_L18 (nI v) (nI b) s k (n + 1) r (nI (zt sz b + j)) = zX_Values_givingBlocks_L18 (nI v) (nI b) s k n a' (nI (zt sz b + j + 1))
    have hbd := hP.bnd hW (show j < sz b by omega)
    rw [zX_Values_givingBlocks_L18]
    simp only [nI_1, zc_ck (show b + 1 < 17 by omega) (by decide), zc_cl (show b + 1 < 2 ^ 31 by omega), hP.2.1 (b + 1) (by omega), e1]
    rw [if_neg (by rw [nI_leI (by omega) (by omega)]; omega), zc_ck hbd.2 (by decide), zc_cl (by omega)]
    simp only [zc_lt]
    have hx4 := (hP.2.2 b j hbd.1 hj).2.1
    have iff4 : s 4 (zt sz b + j) = nI v ↔ ¬ P 1 (100 * b + j) = 14 ∧ P 2 (100 * b + j) = nI v := by
      rw [hx4]
      by_cases q : P 1 (100 * b + j) = 14
      · rw [if_pos q]
        constructor
        · intro z
          exact absurd z (by have : ∀ v, v < 10 → ¬ (-1 : Int32) = nI v := by decide
                             exact this v hv)
        · intro z; exact absurd q z.1
      · rw [if_neg q]; exact ⟨fun z => ⟨q, z⟩, fun z => z.2⟩
    by_cases c1 : s 4 (zt sz b + j) = nI v
    · rw [if_pos c1]
      refine ⟨_, ⟨fun c hc => ?_, fun c => ?_⟩, rfl⟩
      · rw [zb_or, g1 c hc, zb_shl (show b < 32 by omega)]; simp; omega
      · rw [zb_or, Bool.or_eq_true, g2 c, zb_shl (show b < 32 by omega), decide_eq_true_iff]
        constructor
        · rintro ((q | ⟨q, j', q1, q2⟩) | q)
          · exact Or.inl q
          · exact Or.inr ⟨q, j', by omega, q2⟩
          · exact Or.inr ⟨q, j, by omega, iff4.mp c1⟩
        · rintro (q | ⟨q, -⟩)
          · exact Or.inl (Or.inl q)
          · exact Or.inr q
    · rw [if_neg c1]
      refine ⟨r, ⟨g1, fun c => ?_⟩, rfl⟩
      rw [g2 c]
      constructor
      · rintro (q | ⟨q, j', q1, q2⟩)
        · exact Or.inl q
        · exact Or.inr ⟨q, j', by omega, q2⟩
      · rintro (q | ⟨q, j', q1, q2⟩)
        · exact Or.inl q
        · by_cases e : j' = j
          · rw [e] at q2; exact absurd (iff4.mpr q2) c1
          · exact Or.inr ⟨q, j', by omega, q2⟩) (n := 10000) (a := x) ⟨hx, fun c => ⟨fun q => Or.inl q, fun q => q.elim id (fun z => by obtain ⟨-, j, h1, -⟩ := z; omega)⟩⟩ (by omega)
  obtain ⟨r, ⟨h1, h2⟩, h3⟩ := this
  refine ⟨r, ⟨h1, fun c => ?_⟩, h3⟩
  rw [h2 c]
  constructor
  · rintro (q | ⟨q, j, q1, q2⟩)
    · exact Or.inl q
    · exact Or.inr ⟨q, j, by omega, q2⟩
  · rintro (q | ⟨q, j, q1, q2⟩)
    · exact Or.inl q
    · exact Or.inr ⟨q, j, by omega, q2⟩
theorem zX_giving_eq (hW : zq_WF P nb sz) {s : zx_S} (hP : zX_Pi P nb sz s) {v : Nat} (hv : v < 10) : ∃ r, (zx_sm r ∧ ∀ c, zb r c = true ↔ c < 16 ∧ zq_gv P sz c v) ∧ zX_Values_givingBlocks (nI v) s = some r := by
  unfold zX_Values_givingBlocks
  have := zf_for (A := Int32) (L := fun n i r => zX_Values_givingBlocks_L4 (nI v) s (fun v2_7 => some v2_7) n r i) (k := fun r => some r) 16 (fun i r => zx_sm r ∧ ∀ c, zb r c = true ↔ c < i ∧ zq_gv P sz c v) (fun n r _ => by
    show zX_Values_givingBlocks_L4 (nI v) s (fun v2_7 => some v2_7) (n + 1) r (nI 16) = some r
    rw [zX_Values_givingBlocks_L4, if_pos (by decide)]) (fun n b r hb h => by
    obtain ⟨g1, g2⟩ := h
    show ∃ a', _ ∧ zX_Values_givingBlocks_L4 (nI v) s (fun v2_7 => some v2_7) (n + 1) r (nI b) = zX_Values_givingBlocks_L4 (nI v) s (fun v2_7 => some v2_7) n a' (nI (b + 1))
    rw [zX_Values_givingBlocks_L4, if_neg (by rw [show (16 : Int32) = nI 16 by decide, nI_leI (by omega) (by omega)]; omega), zc_ck (show b < 17 by omega) (by decide), zc_cl (by omega), zc_lt, hP.2.1 b (by omega)]
    obtain ⟨r', ⟨h1, h2⟩, h3⟩ := zX_giving_L18_spec hW hP (fun v2_5 => zx_lt (nI b + (1 : Int32)) fun v3_6 => zX_Values_givingBlocks_L4 (nI v) s (fun v2_7 => some v2_7) n v2_5 v3_6) hb hv g1
    rw [h3, zc_lt, nI_1]
    refine ⟨r', ⟨h1, fun c => ?_⟩, rfl⟩
    rw [h2 c, g2 c]
    constructor
    · rintro (q | ⟨rfl, q⟩)
      · exact ⟨by omega, q.2⟩
      · exact ⟨by omega, q⟩
    · rintro ⟨q1, q2⟩
      by_cases e : c = b
      · exact Or.inr ⟨e, e ▸ q2⟩
      · exact Or.inl ⟨by omega, q2⟩) (i := 0) (n := 10000) (Nat.zero_le _) (a := (0 : Int32)) ⟨zx_sm_0, fun c => by rw [zb_0]; exact ⟨fun q => (by cases q), fun q => by omega⟩⟩ (by decide)
  rw [nI_0] at this
  obtain ⟨r, h1, h2⟩ := this
  exact ⟨r, h1, h2⟩
def zX_Ch (P : zx_S) (nb : Nat) (sz : Nat → Nat) (s : zx_S) : Prop := ∀ v, v < 10 → zx_sm (s 31 v) ∧ ∀ b, zb (s 31 v) b = true ↔ zq_HC P nb sz v b
theorem zX_placeChoices_spec (hW : zq_WF P nb sz) {s : zx_S} (hP : zX_Pr P nb sz s) (hG : zX_Gr P nb s) : ∃ s', (zX_Ch P nb sz s' ∧ ∀ c i, c ≠ 31 → s' c i = s c i) ∧ zX_Values_placeChoices s = some s' := by
  have hnb := hW.2.1
  unfold zX_Values_placeChoices
  have := zf_for (L := fun n i t => zX_Values_placeChoices_L2 (fun s7 => some s7) n i t) (k := fun s7 => some s7) 10 (fun n t => (∀ v, v < n → zx_sm (t 31 v) ∧ ∀ b, zb (t 31 v) b = true ↔ zq_HC P nb sz v b) ∧ ∀ c i, c ≠ 31 → t c i = s c i) (fun n t _ => by
    show zX_Values_placeChoices_L2 (fun s7 => some s7) (n + 1) (nI 10) t = some t
    rw [zX_Values_placeChoices_L2, if_pos (by decide)]) (fun n v t hv h => by
    obtain ⟨g1, g2⟩ := h
    show ∃ a', _ ∧ zX_Values_placeChoices_L2 (fun s7 => some s7) (n + 1) (nI v) t = zX_Values_placeChoices_L2 (fun s7 => some s7) n (nI (v + 1)) a'
    have hPt : zX_Pr P nb sz t := hP.keep (fun c i h1 h2 => g2 c i (by omega))
    have h17 : ∀ a, a < 16 → zx_sm (t 17 a) ∧ ∀ b, zb (t 17 a) b = true ↔ zq_Fr P nb a b := fun a ha => by rw [g2 17 a (by decide)]; exact hG.2.2.2.2.2 a ha
    rw [zX_Values_placeChoices_L2, if_neg (by rw [show (10 : Int32) = nI 10 by decide, nI_leI (by omega) (by omega)]; omega)]
    obtain ⟨r, ⟨r1, r2⟩, r3⟩ := zX_giving_eq hW hPt.2 hv
    rw [r3, zc_b1, zc_lt, g2 11 6 (by decide)]
    have sd : ∀ a, zb ((1 : Int32) ||| (r &&& s 11 6)) a = true ↔ a = 0 ∨ (zq_gv P sz a v ∧ zq_rc P nb a) := fun a => by
      rw [zb_or, zb_and, zb_one, Bool.or_eq_true, Bool.and_eq_true, decide_eq_true_iff, r2 a, hG.1.2 a]
      constructor
      · rintro (q | q)
        · exact Or.inl q
        · exact Or.inr ⟨q.1.2, q.2⟩
      · rintro (q | q)
        · exact Or.inl q
        · exact Or.inr ⟨⟨by have := q.2.1; omega, q.1⟩, q.2⟩
    have ssm : zx_sm ((1 : Int32) ||| (r &&& s 11 6)) := fun a ha => by
      rw [zb_or, zb_and, r1 a ha, zb_one]; simp; omega
    obtain ⟨x, x1, x2, x3⟩ := zX_closure_2_eq (s := t) (fun j hj => (h17 j hj).1) (p2 := 0) ssm
    rw [x1, zc_b1]
    obtain ⟨y, y1, y2, y3⟩ := zX_union_2_eq (s := t) (fun j hj => (h17 j hj).1) x
    rw [y1, zc_b1, zc_ck hv (by decide), zc_cl (by omega), zc_ls, zc_lt, nI_1]
    have key : ∀ b, zb y b = true ↔ zq_HC P nb sz v b := fun b => by
      rw [y3 b]
      constructor
      · rintro ⟨j, j1, j2, j3⟩
        refine zq_HC.step (((h17 j j1).2 b).mp j3) ?_
        exact (x3 j).mp j2 (fun a => a = 0 ∨ zq_gv P sz a v ∨ zq_HC P nb sz v a) (fun a ha _ => by
          rcases (sd a).mp ha with q | q
          · exact Or.inl q
          · exact Or.inr (Or.inl q.1)) (fun a c ha hn _ => Or.inr (Or.inr (zq_HC.step (((h17 a hn.1).2 c).mp hn.2) ha)))
      · intro hH
        refine hH (fun b => ∃ j, j < 16 ∧ zb x j = true ∧ zb (t 17 j) b = true) (fun a c hF ha => ?_)
        have ha16 : a < 16 := by have := (hF.rc hnb).1.1; omega
        refine ⟨a, ha16, (x3 a).mpr ?_, ((h17 a ha16).2 c).mpr hF⟩
        rcases ha with q | q | ⟨j, j1, j2, j3⟩
        · exact zq_Cl.seed ((sd a).mpr (Or.inl q)) (by rw [zb_0]; decide)
        · exact zq_Cl.seed ((sd a).mpr (Or.inr ⟨q, (hF.rc hnb).1⟩)) (by rw [zb_0]; decide)
        · exact zq_Cl.step ((x3 j).mp j2) ⟨j1, j3⟩ (by rw [zb_0]; decide)
    refine ⟨_, ⟨fun w hw => ?_, fun c i hc => by rw [zs_ne (Or.inl hc)]; exact g2 c i hc⟩, rfl⟩
    by_cases e : w = v
    · subst e; rw [zs_eq]; exact ⟨y2, key⟩
    · rw [zs_ne (Or.inr e)]; exact g1 w (by omega)) (i := 0) (n := 10000) (Nat.zero_le _) (a := s) ⟨fun v hv => by omega, fun _ _ _ => rfl⟩ (by decide)
  rw [nI_0] at this
  exact this
end XV
