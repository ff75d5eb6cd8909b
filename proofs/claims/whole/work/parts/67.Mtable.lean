/-! PURE: the reference's world holds the table behind names() -/
/-- places: ZERO -2, CHOICES -1, INSTRUCTIONS by their number -/
def zq_Pl (P : zx_S) (nb : Nat) (sz : Nat → Nat) (pl : Nat → Int32) : Prop := pl 0 = -2 ∧ (∀ i b v, zq_isC P nb sz i b v → pl i = -1) ∧ ∀ i b k, zq_isN P nb sz i b k → pl i = nI k
section TM
variable {P : zx_S} {nb : Nat} {sz : Nat → Nat}
theorem zq_cases {i : Nat} (h : i < zq_st P nb sz nb) : i = 0 ∨ (∃ b v, zq_isC P nb sz i b v) ∨ ∃ b k, zq_isN P nb sz i b k := by
  rcases zq_surj nb h with q | ⟨b, v, -, q⟩ | ⟨b, k, -, q⟩
  · exact Or.inl q
  · exact Or.inr (Or.inl ⟨b, v, q⟩)
  · exact Or.inr (Or.inr ⟨b, k, q⟩)
theorem zq_notC0 {b v : Nat} : ¬ zq_isC P nb sz 0 b v := fun h => by
  have := h.lt; have := zq_st_pos (P := P) (nb := nb) (sz := sz) b; omega
theorem zq_notN0 {b k : Nat} : ¬ zq_isN P nb sz 0 b k := fun h => by
  have := h.lt; have := zq_st_pos (P := P) (nb := nb) (sz := sz) b; omega
/-- behind numbers() all is there that names() wants -/
theorem zm_N.pre (hW : zq_WF P nb sz) {sn s : zx_S} (h : zm_N P s nb sz (zq_st P nb sz nb) sn) (h10 : zm_R10 P nb s) (h13 : zm_R13 P nb nb s) (h15 : zm_R15 P nb sz s) : zk_Pre P sn nb sz := by
  have h261 := zq_st_261 hW (Nat.le_refl nb)
  obtain ⟨g1, g2, g3, g4, g5, g6, g7, g8⟩ := h
  refine ⟨g1, fun b hb => by rw [g3 10 _ (Or.inr (Or.inl ⟨by decide, by decide⟩))]; exact h10 b hb, fun b hb => by rw [g3 13 _ (Or.inr (Or.inl ⟨by decide, by decide⟩))]; exact h13 b hb, fun b v hb hv => by rw [g3 15 _ (Or.inr (Or.inl ⟨by decide, by decide⟩))]; exact h15 b v hb hv, fun i b v hc => ?_, fun i b k hc => ?_⟩
  · have : i < zq_st P nb sz nb := Nat.lt_of_lt_of_le hc.lt' (zq_st_up hc.1.1)
    exact ⟨(g6 i b v this hc).2, by omega, g8 i this⟩
  · have : i < zq_st P nb sz nb := Nat.lt_of_lt_of_le hc.lt.2 (zq_st_up hc.1.1)
    exact ⟨(g7 i b k this hc).2, by omega, g8 i this⟩
/-- the facts of the reference's rows behind names(), by what a VALUE is -/
def zm_V (P : zx_S) (nb : Nat) (sz : Nat → Nat) (s : zx_S) : Prop := s 0 18 = nI (zq_st P nb sz nb) ∧ zv_T P nb sz (zq_st P nb sz nb) s 16 17 18 19 ∧ zq_Pl P nb sz (s 20) ∧ s 22 0 = 0 ∧
  (∀ i b v, zq_isC P nb sz i b v → s 23 (10 * b + v) = nI i ∧ s 22 i = nI (zq_no P nb b) ∧ (∀ p, zq_pr P nb b p → s 21 (20 * i + zq_np P nb b p) = nI (zq_En P nb sz p v)) ∧ (b = 0 → s 21 (20 * i + zq_np P nb b nb) = 0)) ∧
  (∀ i b k, zq_isN P nb sz i b k → s 24 (100 * b + k) = nI i ∧ (s 22 i = if 3 ≤ P 1 (100 * b + k) then 2 else 0) ∧ (3 ≤ P 1 (100 * b + k) → s 21 (20 * i) = nI (zq_At P nb sz b k (zq_y P b k)) ∧ s 21 (20 * i + 1) = nI (zq_At P nb sz b k (zq_z P b k)))) ∧
  (∀ b, zq_rc P nb b → (∀ v, v < 10 → s 25 (10 * b + v) = nI (zq_Bg P nb sz b v)) ∧ ∀ v, v < 10 → s 26 (10 * b + v) = nI (zq_En P nb sz b v))
theorem zm_V_of {s sn s1 s' : zx_S} (hN : zm_N P s nb sz (zq_st P nb sz nb) sn) (hC : zk_W P sn nb sz (fun _ => true) s1) (hQ : zk_Q P s1 nb sz nb 0 s') : zm_V P nb sz s' := by
  obtain ⟨g1, g2, g3, g4, g5, g6, g7, g8⟩ := hN
  obtain ⟨c1, c2, c3, c4, c5, c6⟩ := hC
  obtain ⟨q1, q2, q3, q4⟩ := hQ
  have fr : ∀ c i, c ≠ 11 → c ≠ 21 → c ≠ 22 → c ≠ 25 → c ≠ 26 → c ≠ 27 → s' c i = sn c i := fun c i h1 h2 h3 h4 h5 h6 => by rw [q2 c h2 h3, c3 c h1 h2 h3 h4 h5 h6]
  have ltC : ∀ i b v, zq_isC P nb sz i b v → i < zq_st P nb sz nb := fun i b v h => Nat.lt_of_lt_of_le h.lt' (zq_st_up h.1.1)
  have ltN : ∀ i b k, zq_isN P nb sz i b k → i < zq_st P nb sz nb := fun i b k h => Nat.lt_of_lt_of_le h.lt.2 (zq_st_up h.1.1)
  refine ⟨by rw [fr 0 _ (by decide) (by decide) (by decide) (by decide) (by decide) (by decide)]; exact g2, g4.keep (fun c i hc _ => fr c i (by omega) (by omega) (by omega) (by omega) (by omega) (by omega)), ⟨by rw [fr 20 _ (by decide) (by decide) (by decide) (by decide) (by decide) (by decide)]; exact g5, fun i b v h => by rw [fr 20 _ (by decide) (by decide) (by decide) (by decide) (by decide) (by decide)]; exact (g6 i b v (ltC i b v h) h).1, fun i b k h => by rw [fr 20 _ (by decide) (by decide) (by decide) (by decide) (by decide) (by decide)]; exact (g7 i b k (ltN i b k h) h).1⟩, ?_, fun i b v h => ?_, fun i b k h => ?_, fun b hb => ?_⟩
  · rw [(q4 0 (fun b v h => absurd h zq_notC0)).1, c5 0 (fun b k h => absurd h zq_notN0), g8 0 (zq_st_pos nb)]
  · have := q3 i b v (Or.inl h.1.1) h
    exact ⟨by rw [fr 23 _ (by decide) (by decide) (by decide) (by decide) (by decide) (by decide)]; exact (g6 i b v (ltC i b v h) h).2, this.1, fun p hp => this.2.1 p hp.1.1 hp, this.2.2⟩
  · have no : ∀ b' v', zq_isC P nb sz i b' v' → ¬ (b' < nb ∨ b' = nb ∧ v' < 0) := fun b' v' h' => absurd h (fun z => zq_isCN h' z)
    have w := q4 i no
    refine ⟨by rw [fr 24 _ (by decide) (by decide) (by decide) (by decide) (by decide) (by decide)]; exact (g7 i b k (ltN i b k h) h).2, ?_, fun h3 => ?_⟩
    · by_cases h3 : 3 ≤ P 1 (100 * b + k)
      · rw [if_pos h3, w.1]; exact ((c4 b h.1 rfl).2.2 i k h h3).1
      · rw [if_neg h3, w.1, c5 i (fun b' k' h' _ => by
          obtain ⟨e1, e2⟩ := h.uniq h'
          rw [← e1, ← e2]; exact h3), g8 i (ltN i b k h)]
    · have := (c4 b h.1 rfl).2.2 i k h h3
      exact ⟨(w.2 0 (by decide)).trans this.2.1, (w.2 1 (by decide)).trans this.2.2⟩
  · have := c4 b hb rfl
    exact ⟨fun v hv => by rw [q2 25 (by decide) (by decide)]; exact this.1 v hv, fun v hv => by rw [q2 26 (by decide) (by decide)]; exact this.2.1 v hv⟩
theorem zm_V.tb (hW : zq_WF P nb sz) (hn : 0 < nb) {s : zx_S} (h : zm_V P nb sz s) {t : zc_Tb} (ht : zq_Tab P nb sz t) : zm_Tb t s := by
  have hnb := hW.2.1
  obtain ⟨v1, v2, v3, v4, v5, v6, v7⟩ := h
  obtain ⟨t1, t2, t3, t4⟩ := ht
  refine ⟨by rw [t1]; exact v1, fun i hi => ?_⟩
  rw [t1] at hi
  rcases zq_cases hi with q | ⟨b, v, q⟩ | ⟨b, k, q⟩
  · subst q
    have := v2.1 (by omega)
    exact ⟨this.1.trans t2.1.symm, this.2.1.trans t2.2.2.1.symm, this.2.2.2.trans t2.2.1.symm, by rw [v4, t2.2.2.2]; exact nI_0.symm, fun j hj => by rw [t2.2.2.2] at hj; omega⟩
  · have a := v2.2.1 i b v hi q
    have c := v5 i b v q
    have d := t3 i b v q
    refine ⟨a.1.trans d.1.symm, a.2.1.trans d.2.2.1.symm, a.2.2.2.trans d.2.1.symm, by rw [c.2.1, d.2.2.2.1], fun j hj => ?_⟩
    rw [d.2.2.2.1] at hj
    rcases zq_no_ex hj with ⟨p, z1, z2, z3⟩ | ⟨z1, z2⟩
    · rw [← z3, c.2.2.1 p z2, d.2.2.2.2.1 p z2]
    · rw [z2, c.2.2.2 z1, d.2.2.2.2.2 z1]; exact nI_0.symm
  · have a := v2.2.2 i b k hi q
    have c := v6 i b k q
    have d := t4 i b k q
    refine ⟨a.1.trans d.1.symm, a.2.1.trans d.2.2.1.symm, a.2.2.2.trans d.2.1.symm, ?_, fun j hj => ?_⟩
    · rw [c.2.1, d.2.2.2.1]; split <;> decide
    · rw [d.2.2.2.1] at hj
      by_cases h3 : 3 ≤ P 1 (100 * b + k)
      · rw [if_pos h3] at hj
        have e := c.2.2 h3
        have e' := d.2.2.2.2 h3
        rcases (show j = 0 ∨ j = 1 by omega) with rfl | rfl
        · exact e.1.trans (by rw [e'.1])
        · exact e.2.trans (by rw [e'.2])
      · rw [if_neg h3] at hj; omega
/-- such a table there is -/
theorem zm_V.ex (hW : zq_WF P nb sz) (hn : 0 < nb) {s : zx_S} (h : zm_V P nb sz s) : ∃ t, zq_Tab P nb sz t := by
  have hnb := hW.2.1
  have h261 := zq_st_261 hW (Nat.le_refl nb)
  obtain ⟨v1, v2, v3, v4, v5, v6, v7⟩ := h
  refine ⟨(zq_st P nb sz nb, s 16, s 19, s 17, fun i => (s 22 i).toNatClampNeg, fun i j => (s 21 (20 * i + j)).toNatClampNeg), rfl, ?_, fun i b v q => ?_, fun i b k q => ?_⟩
  · have := v2.1 (zq_st_pos nb)
    exact ⟨this.1, this.2.2.2, this.2.1, by show (s 22 0).toNatClampNeg = 0; rw [v4]; decide⟩
  · have hi : i < zq_st P nb sz nb := Nat.lt_of_lt_of_le q.lt' (zq_st_up q.1.1)
    have a := v2.2.1 i b v hi q
    have c := v5 i b v q
    have hno := zq_no_le (P := P) hnb b
    refine ⟨a.1, a.2.2.2, a.2.1, by show (s 22 i).toNatClampNeg = _; rw [c.2.1, zc_cl (by omega)], fun p hp => ?_, fun h0 => ?_⟩
    · show (s 21 (20 * i + zq_np P nb b p)).toNatClampNeg = _
      have := (zq_Ah.en hW hp.1 q.2.1).lt hn
      rw [c.2.2.1 p hp, zc_cl (by omega)]
    · show (s 21 (20 * i + zq_np P nb b nb)).toNatClampNeg = 0
      rw [c.2.2.2 h0]; decide
  · have hi : i < zq_st P nb sz nb := Nat.lt_of_lt_of_le q.lt.2 (zq_st_up q.1.1)
    have a := v2.2.2 i b k hi q
    have c := v6 i b k q
    obtain ⟨⟨kd, kd1, kd2⟩, -, -⟩ := hW.ins q.1.1 q.2.1
    refine ⟨a.1, a.2.2.2, a.2.1, ?_, fun h3 => ?_⟩
    · show (s 22 i).toNatClampNeg = _
      rw [c.2.1]; split <;> decide
    · have e := c.2.2 h3
      have k3 := (zq_kd3 kd1 kd2).1.mp h3
      have k14 : kd ≠ 14 := fun z => ((zm_iv P b k).mp q.2.2.1).2 (by rw [kd2, z]; decide)
      have b1 := (zq_Ah.at hW q.1 (Nat.le_of_lt q.2.1) (hW.insY q.1.1 q.2.1 kd2 (by omega) (by omega)).2).lt hn
      have b2 := (zq_Ah.at hW q.1 (Nat.le_of_lt q.2.1) (hW.insZ q.1.1 q.2.1 kd2 (by omega) (by omega)).2).lt hn
      refine ⟨?_, ?_⟩
      · show (s 21 (20 * i + 0)).toNatClampNeg = _
        rw [Nat.add_zero, e.1, zc_cl (by omega)]
      · show (s 21 (20 * i + 1)).toNatClampNeg = _
        rw [e.2, zc_cl (by omega)]
end TM
