/-! PURE: REDUNDANT VALUES; the reference's redundant() and make() -/
def zq_bk (t : zc_Tb) (i : Nat) : Nat := (zt_b t i).toNatClampNeg
/-- u comes ahead of the definition of v -/
def zq_af (P : zx_S) (nb : Nat) (t : zc_Tb) (u v : Nat) : Prop := (zq_bk t u = zq_bk t v ∧ u < v) ∨ (zq_bk t u ≠ zq_bk t v ∧ zq_D P nb (zq_bk t u) (zq_bk t v))
def zq_rd (P : zx_S) (nb : Nat) (t : zc_Tb) (v : Nat) : Prop := ∃ u, u < zt_T t ∧ u ≠ v ∧ zc_K t u = zc_K t v ∧ zq_af P nb t u v
section RD
variable {P : zx_S} {nb : Nat} {sz : Nat → Nat} {t : zc_Tb} {pl : Nat → Int32}
theorem zq_Tab.bk (hW : zq_WF P nb sz) (hn : 0 < nb) (h : zq_Tab P nb sz t) {i : Nat} (hi : i < zt_T t) : zt_b t i = nI (zq_bk t i) ∧ zq_rc P nb (zq_bk t i) := by
  have hnb := hW.2.1
  obtain ⟨h1, h2, h3, h4⟩ := h
  rw [h1] at hi
  unfold zq_bk
  rcases zq_cases hi with q | ⟨b, v, q⟩ | ⟨b, k, q⟩
  · subst q; rw [h2.2.2.1]; exact ⟨by decide, zq_rc.zero hn⟩
  · have hb := q.1.1
    rw [(h3 i b v q).2.2.1, zc_cl (by omega)]; exact ⟨rfl, q.1⟩
  · have hb := q.1.1
    rw [(h4 i b k q).2.2.1, zc_cl (by omega)]; exact ⟨rfl, q.1⟩
theorem zq_Tab.bkC (hW : zq_WF P nb sz) (h : zq_Tab P nb sz t) {i b v : Nat} (q : zq_isC P nb sz i b v) : zq_bk t i = b := by
  have hnb := hW.2.1
  have hb := q.1.1
  unfold zq_bk; rw [(h.2.2.1 i b v q).2.2.1, zc_cl (by omega)]
theorem zq_Tab.bkN (hW : zq_WF P nb sz) (h : zq_Tab P nb sz t) {i b k : Nat} (q : zq_isN P nb sz i b k) : zq_bk t i = b := by
  have hnb := hW.2.1
  have hb := q.1.1
  unfold zq_bk; rw [(h.2.2.2 i b k q).2.2.1, zc_cl (by omega)]
theorem zq_Tab.bk0 (h : zq_Tab P nb sz t) : zq_bk t 0 = 0 := by unfold zq_bk; rw [h.2.1.2.2.1]; decide
/-- in one BLOCK the numbers go by the places -/
theorem zq_ord (hW : zq_WF P nb sz) (h : zq_Tab P nb sz t) (hp : zq_Pl P nb sz pl) {u v : Nat} (hu : u < zt_T t) (hv : v < zt_T t) (hne : u ≠ v) (hb : zq_bk t u = zq_bk t v) : ((zt_k t u = 15 ∧ zt_k t v = 15 ∧ u < v) ∨ pl u < pl v) ↔ u < v := by
  have hnb := hW.2.1
  obtain ⟨p1, p2, p3⟩ := hp
  have hu' := hu
  have hv' := hv
  rw [h.1] at hu' hv'
  have m12 : (-1 : Int32) < -2 ↔ False := by decide
  have kN : ∀ i b k, zq_isN P nb sz i b k → ¬ zt_k t i = 15 := fun i b k q e => by
    obtain ⟨⟨kd, kd1, kd2⟩, -, -⟩ := hW.ins q.1.1 q.2.1
    rw [(h.2.2.2 i b k q).1, kd2] at e
    have := nI_inj (b := 15) (by omega) (by omega) (e.trans (show (15 : Int32) = nI 15 by decide))
    omega
  have kb : ∀ i b k, zq_isN P nb sz i b k → k < 100 := fun i b k q => by
    have := (hW.2.2.1 b q.1.1).2; have := q.2.1; omega
  have neg1 : ∀ k, k < 100 → ¬ nI k < (-1 : Int32) := by decide +kernel
  have neg2 : ∀ k, k < 100 → ¬ nI k < (-2 : Int32) := by decide +kernel
  have pos1 : ∀ k, k < 100 → (-1 : Int32) < nI k := by decide +kernel
  have pos2 : ∀ k, k < 100 → (-2 : Int32) < nI k := by decide +kernel
  rcases zq_cases hu' with q | ⟨b, x, q⟩ | ⟨b, k, q⟩
  · subst q
    have : 0 < v := by omega
    refine ⟨fun _ => this, fun _ => Or.inr ?_⟩
    rw [p1]
    rcases zq_cases hv' with r | ⟨b', x', r⟩ | ⟨b', k', r⟩
    · omega
    · rw [p2 v b' x' r]; decide
    · rw [p3 v b' k' r]; exact pos2 k' (kb v b' k' r)
  · rcases zq_cases hv' with r | ⟨b', x', r⟩ | ⟨b', k', r⟩
    · subst r
      refine ⟨fun z => ?_, fun z => by omega⟩
      rcases z with z | z
      · exact z.2.2
      · rw [p1, p2 u b x q] at z; exact absurd z (by decide)
    · rw [p2 u b x q, p2 v b' x' r, (h.2.2.1 u b x q).1, (h.2.2.1 v b' x' r).1]
      constructor
      · rintro (z | z)
        · exact z.2.2
        · exact absurd z (by decide)
      · exact fun z => Or.inl ⟨rfl, rfl, z⟩
    · rw [h.bkC hW q, h.bkN hW r] at hb
      subst hb
      have a := q.lt
      have c := r.lt
      refine ⟨fun _ => by omega, fun _ => Or.inr ?_⟩
      rw [p2 u b x q, p3 v b k' r]; exact pos1 k' (kb v b k' r)
  · rcases zq_cases hv' with r | ⟨b', x', r⟩ | ⟨b', k', r⟩
    · subst r
      refine ⟨fun z => ?_, fun z => by omega⟩
      rcases z with z | z
      · exact z.2.2
      · rw [p1, p3 u b k q] at z; exact absurd z (neg2 k (kb u b k q))
    · rw [h.bkN hW q, h.bkC hW r] at hb
      subst hb
      have a := q.lt
      have c := r.lt
      refine ⟨fun z => ?_, fun z => by omega⟩
      rcases z with z | z
      · exact absurd z.1 (kN u b k q)
      · rw [p3 u b k q, p2 v b x' r] at z; exact absurd z (neg1 k (kb u b k q))
    · rw [h.bkN hW q, h.bkN hW r] at hb
      subst hb
      have a1 := kb u b k q
      have a2 := kb v b k' r
      rw [p3 u b k q, p3 v b k' r, nI_ltI (by omega) (by omega)]
      have e1 := q.2.2.2
      have e2 := r.2.2.2
      unfold zq_ii at e1 e2
      constructor
      · rintro (z | z)
        · exact z.2.2
        · have := zn_in z q.2.2.1; omega
      · intro z
        right
        rcases Nat.lt_trichotomy k k' with y | y | y
        · exact y
        · subst y; omega
        · have := zn_in y r.2.2.1; omega
/-- what redundant() wants of the reference's world -/
def zm_Rd (P : zx_S) (nb : Nat) (t : zc_Tb) (pl : Nat → Int32) (s : zx_S) : Prop := zm_Tb t s ∧ zm_R12 P nb nb s ∧ (∀ i, i < zt_T t → s 28 i = nI (zc_K t i)) ∧ ∀ i, s 20 i = pl i
theorem zm_Rd.su {s : zx_S} (h : zm_Rd P nb t pl s) {i : Nat} {x : Int32} : zm_Rd P nb t pl (zx_su s 30 i x) :=
  ⟨h.1.su (by decide), h.2.1.su (by decide), fun j hj => by rw [zs_ne (Or.inl (by decide))]; exact h.2.2.1 j hj, fun j => by rw [zs_ne (Or.inl (by decide))]; exact h.2.2.2 j⟩
/-- VALUE u dominates place p of BLOCK b -/
def zq_hd (P : zx_S) (nb : Nat) (t : zc_Tb) (pl : Nat → Int32) (u b : Nat) (p : Int32) : Prop := (zq_bk t u = b ∧ pl u < p) ∨ (zq_bk t u ≠ b ∧ zq_D P nb (zq_bk t u) b)
theorem zM_isAhead_eq (hW : zq_WF P nb sz) (hn : 0 < nb) (h : zq_Tab P nb sz t) {s : zx_S} (hs : zm_Rd P nb t pl s) {u b : Nat} (hu : u < zt_T t) (hb : b < nb) (p : Int32) : zM_ValueBenchModel_isAhead (nI u) (nI b) p s = some (zi (zp (zq_hd P nb t pl u b p))) := by
  have hnb := hW.2.1
  have hT := (h.H hW hn).2.2.2.2
  obtain ⟨k1, k2⟩ := h.bk hW hn hu
  have k3 := k2.1
  unfold zM_ValueBenchModel_isAhead
  simp only [zc_ck (show u < 270 by omega) (by decide), zc_cl (show u < 2 ^ 31 by omega), (hs.1.2 u hu).2.1, k1, hs.2.2.2 u, zM_dom1_eq hs.2.1 hnb k3 hb, zc_b1, zc_zr (zi_01 _)]
  unfold zq_hd
  by_cases c1 : zq_bk t u = b
  · rw [if_pos (by rw [c1])]
    by_cases c2 : p ≤ pl u
    · rw [if_pos c2, zp_f.mpr (fun q => q.elim (fun z => by rw [Int32.le_iff_toInt_le] at c2; have := Int32.lt_iff_toInt_lt.mp z.2; omega) (fun z => z.1 c1))]; rfl
    · rw [if_neg c2, zp_t.mpr (Or.inl ⟨c1, by rw [Int32.lt_iff_toInt_lt]; rw [Int32.le_iff_toInt_le] at c2; omega⟩)]; rfl
  · rw [if_neg (fun e => c1 (nI_inj (by omega) (by omega) e))]
    congr 2
    exact zp_c ⟨fun q => Or.inr ⟨c1, q⟩, fun q => q.elim (fun z => absurd z.1 c1) (fun z => z.2)⟩
theorem zM_red_L19_spec (hW : zq_WF P nb sz) (hn : 0 < nb) (h : zq_Tab P nb sz t) (hp : zq_Pl P nb sz pl) (k : zx_S → Option zx_S) {v : Nat} (hv : v < zt_T t) {s : zx_S} (hs : zm_Rd P nb t pl s) (h30 : s 30 v = zi false) : ∃ s', (zm_Rd P nb t pl s' ∧ s' 30 v = zi (zp (zq_rd P nb t v)) ∧ ∀ c i, (c ≠ 30 ∨ i ≠ v) → s' c i = s c i) ∧ zM_ValueBenchModel_redundant_L19 (nI v) k 10000 (0 : Int32) s = k s' := by
  have hnb := hW.2.1
  have hH := h.H hW hn
  have hT := hH.2.2.2.2
  obtain ⟨kv1, kv2⟩ := h.bk hW hn hv
  have kle : ∀ i, zc_K t i ≤ i := fun i => zc_rp_le _ _
  have := zf_for (L := fun n i s => zM_ValueBenchModel_redundant_L19 (nI v) k n i s) (k := k) (zt_T t) (fun n r => zm_Rd P nb t pl r ∧ r 30 v = zi (zp (∃ u, u < n ∧ u ≠ v ∧ zc_K t u = zc_K t v ∧ zq_af P nb t u v)) ∧ ∀ c i, (c ≠ 30 ∨ i ≠ v) → r c i = s c i) (fun n r q => by
    show zM_ValueBenchModel_redundant_L19 (nI v) k (n + 1) (nI (zt_T t)) r = k r
    rw [zM_ValueBenchModel_redundant_L19, if_pos (by rw [q.1.1.1]; exact Int32.le_refl _)]) (fun n u r hu q => by
    obtain ⟨g1, g2, g3⟩ := q
    obtain ⟨ku1, ku2⟩ := h.bk hW hn hu
    have ku3 := ku2.1
    have kv3 := kv2.1
    have split : (∃ x, x < u + 1 ∧ x ≠ v ∧ zc_K t x = zc_K t v ∧ zq_af P nb t x v) ↔ (∃ x, x < u ∧ x ≠ v ∧ zc_K t x = zc_K t v ∧ zq_af P nb t x v) ∨ (u ≠ v ∧ zc_K t u = zc_K t v ∧ zq_af P nb t u v) := by
      constructor
      · rintro ⟨x, hx, q⟩
        by_cases e : x = u
        · rw [e] at q; exact Or.inr q
        · exact Or.inl ⟨x, by omega, q⟩
      · rintro (⟨x, hx, q⟩ | q)
        · exact ⟨x, by omega, q⟩
        · exact ⟨u, by omega, q⟩
    show ∃ a', _ ∧ zM_ValueBenchModel_redundant_L19 (nI v) k (n + 1) (nI u) r = _
    rw [zM_ValueBenchModel_redundant_L19, if_neg (by rw [g1.1.1, nI_leI (by omega) (by omega)]; omega)]
    simp only [zc_ck (show u < 270 by omega) (by decide), zc_ck (show v < 270 by omega) (by decide), zc_cl (show u < 2 ^ 31 by omega), zc_cl (show v < 2 ^ 31 by omega), zc_lt, nI_1, g1.2.2.1 u hu, g1.2.2.1 v hv, (g1.1.2 u hu).1, (g1.1.2 v hv).1, (g1.1.2 u hu).2.1, (g1.1.2 v hv).2.1]
    have skip : ¬ (u ≠ v ∧ zc_K t u = zc_K t v ∧ zq_af P nb t u v) → zm_Rd P nb t pl r ∧ r 30 v = zi (zp (∃ x, x < u + 1 ∧ x ≠ v ∧ zc_K t x = zc_K t v ∧ zq_af P nb t x v)) ∧ ∀ c i, (c ≠ 30 ∨ i ≠ v) → r c i = s c i := fun hno => ⟨g1, by rw [g2]; exact congrArg zi (zp_c (by rw [split]; exact ⟨Or.inl, fun z => z.elim id (fun y => absurd y hno)⟩)), g3⟩
    have setv : ∀ w : Bool, w = zp (∃ x, x < u + 1 ∧ x ≠ v ∧ zc_K t x = zc_K t v ∧ zq_af P nb t x v) → zm_Rd P nb t pl (zx_su r 30 v (zi w)) ∧ zx_su r 30 v (zi w) 30 v = zi (zp (∃ x, x < u + 1 ∧ x ≠ v ∧ zc_K t x = zc_K t v ∧ zq_af P nb t x v)) ∧ ∀ c i, (c ≠ 30 ∨ i ≠ v) → zx_su r 30 v (zi w) c i = s c i := fun w hw => ⟨g1.su, by rw [zs_eq, hw], fun c i hc => by rw [zs_ne hc]; exact g3 c i hc⟩
    by_cases c1 : nI u = nI v
    · rw [if_pos c1]
      exact ⟨r, skip (fun z => z.1 (nI_inj (by omega) (by omega) c1)), rfl⟩
    · rw [if_neg c1]
      have hne : u ≠ v := fun e => c1 (by rw [e])
      have b1 := kle u
      have b2 := kle v
      by_cases c2 : nI (zc_K t u) = nI (zc_K t v)
      · rw [if_pos c2]
        have hK : zc_K t u = zc_K t v := nI_inj (by omega) (by omega) c2
        -- the tail
        have tail : ∀ w : Bool, (w = true ↔ (zt_k t u = 15 ∧ zt_k t v = 15 ∧ zq_bk t u = zq_bk t v ∧ u < v)) → ∃ a', (zm_Rd P nb t pl a' ∧ a' 30 v = zi (zp (∃ x, x < u + 1 ∧ x ≠ v ∧ zc_K t x = zc_K t v ∧ zq_af P nb t x v)) ∧ ∀ c i, (c ≠ 30 ∨ i ≠ v) → a' c i = s c i) ∧ zM_ValueBenchModel_redundant_J97 (zM_ValueBenchModel_redundant_L19 (nI v) k n) (nI v) (nI u) (zi w) r = zM_ValueBenchModel_redundant_L19 (nI v) k n (nI (u + 1)) a' := by
          intro w hw
          have key : (w = true ∨ zq_hd P nb t pl u (zq_bk t v) (pl v)) ↔ zq_af P nb t u v := by
            unfold zq_hd zq_af
            by_cases eb : zq_bk t u = zq_bk t v
            · have o := zq_ord hW h hp hu hv hne eb
              constructor
              · rintro (z | z | z)
                · exact Or.inl ⟨eb, (hw.mp z).2.2.2⟩
                · exact Or.inl ⟨eb, o.mp (Or.inr z.2)⟩
                · exact absurd eb z.1
              · rintro (z | z)
                · rcases o.mpr z.2 with y | y
                  · exact Or.inl (hw.mpr ⟨y.1, y.2.1, eb, y.2.2⟩)
                  · exact Or.inr (Or.inl ⟨eb, y⟩)
                · exact absurd eb z.1
            · constructor
              · rintro (z | z | z)
                · exact absurd (hw.mp z).2.2.1 eb
                · exact absurd z.1 eb
                · exact Or.inr z
              · rintro (z | z)
                · exact absurd z.1 eb
                · exact Or.inr (Or.inr z)
          unfold zM_ValueBenchModel_redundant_J97
          simp only [zc_ck (show v < 270 by omega) (by decide), zc_cl (show v < 2 ^ 31 by omega), g2, (g1.1.2 v hv).2.1, g1.2.2.2 v, zc_ls, zc_lt, nI_1, zi_nar0, zi_nar1, zi_0]
          by_cases d1 : zp (∃ x, x < u ∧ x ≠ v ∧ zc_K t x = zc_K t v ∧ zq_af P nb t x v) = false
          · rw [if_pos d1]
            have d1' := zp_f.mp d1
            cases w with
            | true =>
              rw [if_neg (by decide)]
              exact ⟨_, setv true (zp_t.mpr (split.mpr (Or.inr ⟨hne, hK, key.mp (Or.inl rfl)⟩))).symm, rfl⟩
            | false =>
              rw [if_pos rfl, kv1, zM_isAhead_eq hW hn h g1 hu kv3 (pl v), zc_b1]
              simp only [zi_0]
              by_cases d2 : zp (zq_hd P nb t pl u (zq_bk t v) (pl v)) = false
              · rw [if_pos d2]
                refine ⟨_, setv false (zp_f.mpr (fun z => ?_)).symm, rfl⟩
                rcases split.mp z with y | y
                · exact d1' y
                · rcases key.mpr y.2.2 with x | x
                  · cases x
                  · exact zp_f.mp d2 x
              · rw [if_neg d2]
                exact ⟨_, setv true (zp_t.mpr (split.mpr (Or.inr ⟨hne, hK, key.mp (Or.inr (zp_t.mp (by simpa using d2)))⟩))).symm, rfl⟩
          · rw [if_neg d1]
            exact ⟨_, setv true (zp_t.mpr (split.mpr (Or.inl (zp_t.mp (by simpa using d1))))).symm, rfl⟩
        rw [show (0 : Int32) = zi false from rfl, show (1 : Int32) = zi true from rfl] at *
        by_cases c3 : zt_k t u = 15
        · rw [if_pos c3]
          by_cases c4 : zt_k t v = 15
          · rw [if_pos c4]
            by_cases c5 : zt_b t u = zt_b t v
            · rw [if_pos c5]
              have eb : zq_bk t u = zq_bk t v := by unfold zq_bk; rw [c5]
              by_cases c6 : nI v ≤ nI u
              · rw [if_pos c6]
                rw [nI_leI (by omega) (by omega)] at c6
                exact tail false ⟨fun z => (by cases z), fun z => by omega⟩
              · rw [if_neg c6]
                rw [nI_leI (by omega) (by omega)] at c6
                exact tail true ⟨fun _ => ⟨c3, c4, eb, by omega⟩, fun _ => rfl⟩
            · rw [if_neg c5]
              exact tail false ⟨fun z => (by cases z), fun z => absurd (by rw [ku1, kv1, z.2.2.1]) c5⟩
          · rw [if_neg c4]
            exact tail false ⟨fun z => (by cases z), fun z => absurd z.2.1 c4⟩
        · rw [if_neg c3]
          exact tail false ⟨fun z => (by cases z), fun z => absurd z.1 c3⟩
      · rw [if_neg c2]
        exact ⟨r, skip (fun z => c2 (by rw [z.2.1])), rfl⟩) (i := 0) (n := 10000) (Nat.zero_le _) (a := s) ⟨hs, by rw [h30, zp_f.mpr (fun ⟨x, hx, _⟩ => by omega)], fun _ _ _ => rfl⟩ (by omega)
  rw [nI_0] at this
  exact this
theorem zM_redundant_spec (hW : zq_WF P nb sz) (hn : 0 < nb) (h : zq_Tab P nb sz t) (hp : zq_Pl P nb sz pl) {s : zx_S} (hs : zm_Rd P nb t pl s) : ∃ s', (zm_Rd P nb t pl s' ∧ (∀ v, v < zt_T t → s' 30 v = zi (zp (zq_rd P nb t v))) ∧ ∀ c i, c ≠ 30 → s' c i = s c i) ∧ zM_ValueBenchModel_redundant s = some s' := by
  have hT := (h.H hW hn).2.2.2.2
  unfold zM_ValueBenchModel_redundant
  have := zf_for (L := fun n i s => zM_ValueBenchModel_redundant_L2 (fun s15 => some s15) n i s) (k := fun s15 => some s15) (zt_T t) (fun n r => zm_Rd P nb t pl r ∧ (∀ v, v < n → r 30 v = zi (zp (zq_rd P nb t v))) ∧ ∀ c i, c ≠ 30 → r c i = s c i) (fun n r q => by
    show zM_ValueBenchModel_redundant_L2 (fun s15 => some s15) (n + 1) (nI (zt_T t)) r = some r
    rw [zM_ValueBenchModel_redundant_L2, if_pos (by rw [q.1.1.1]; exact Int32.le_refl _)]) (fun n v r hv q => by
    obtain ⟨g1, g2, g3⟩ := q
    show ∃ a', _ ∧ zM_ValueBenchModel_redundant_L2 (fun s15 => some s15) (n + 1) (nI v) r = _
    rw [zM_ValueBenchModel_redundant_L2, if_neg (by rw [g1.1.1, nI_leI (by omega) (by omega)]; omega), zc_ck (show v < 270 by omega) (by decide), zc_cl (show v < 2 ^ 31 by omega), zc_ls, zi_nar0]
    obtain ⟨s1, ⟨w1, w2, w3⟩, w4⟩ := zM_red_L19_spec hW hn h hp (fun s13 => zx_lt (nI v + 1) fun v1_14 => zM_ValueBenchModel_redundant_L2 (fun s15 => some s15) n v1_14 s13) hv (g1.su (i := v) (x := zi false)) (zs_eq _ _ _ _)
    rw [w4, zc_lt, nI_1]
    refine ⟨s1, ⟨w1, fun x hx => ?_, fun c i hc => by rw [w3 c i (Or.inl hc), zs_ne (Or.inl hc)]; exact g3 c i hc⟩, rfl⟩
    by_cases e : x = v
    · rw [e]; exact w2
    · rw [w3 30 x (Or.inr e), zs_ne (Or.inr e)]; exact g2 x (by omega)) (i := 0) (n := 10000) (Nat.zero_le _) (a := s) ⟨hs, fun v hv => by omega, fun _ _ _ => rfl⟩ (by omega)
  rw [nI_0] at this
  exact this
end RD
