/-! PURE: what is read is defined ahead; the table of VALUES of a program -/
/-- VALUE w is defined ahead of INSTRUCTION k of b -/
def zq_Ah (P : zx_S) (nb : Nat) (sz : Nat → Nat) (w b k : Nat) : Prop := w = 0 ∨ (∃ b' v, zq_isC P nb sz w b' v ∧ zq_D P nb b' b) ∨ ∃ b' k', zq_isN P nb sz w b' k' ∧ zq_D P nb b' b ∧ (b' = b → k' < k)
section TA
variable {P : zx_S} {nb : Nat} {sz : Nat → Nat}
theorem zq_Ah.up {w b k k' : Nat} (h : zq_Ah P nb sz w b k) (hk : k ≤ k') : zq_Ah P nb sz w b k' := by
  rcases h with h | h | ⟨b', j, h1, h2, h3⟩
  · exact Or.inl h
  · exact Or.inr (Or.inl h)
  · exact Or.inr (Or.inr ⟨b', j, h1, h2, fun e => by have := h3 e; omega⟩)
theorem zq_Ah.down {w a b k k' : Nat} (h : zq_Ah P nb sz w a k) (hD : zq_D P nb a b) (hne : a ≠ b) : zq_Ah P nb sz w b k' := by
  rcases h with h | ⟨b', v, h1, h2⟩ | ⟨b', j, h1, h2, h3⟩
  · exact Or.inl h
  · exact Or.inr (Or.inl ⟨b', v, h1, h2.trans hD⟩)
  · exact Or.inr (Or.inr ⟨b', j, h1, h2.trans hD, fun e => absurd (zq_D.anti hD (e ▸ h2)) hne⟩)
theorem zq_Ah.lt (hn : 0 < nb) {w b k : Nat} (h : zq_Ah P nb sz w b k) : w < zq_st P nb sz nb := by
  rcases h with h | ⟨b', v, h1, h2⟩ | ⟨b', j, h1, h2, h3⟩
  · have := zq_st_pos (P := P) (nb := nb) (sz := sz) nb; omega
  · exact Nat.lt_of_lt_of_le h1.lt' (zq_st_up h1.1.1)
  · exact Nat.lt_of_lt_of_le h1.lt.2 (zq_st_up h1.1.1)
theorem zq_Ah.th (hW : zq_WF P nb sz) {b : Nat} (hb : zq_rc P nb b) {e : Nat → Nat} (he : ∀ v, v < 10 → zq_Ah P nb sz (e v) b 0) : ∀ k, k ≤ sz b → ∀ v, v < 10 → zq_Ah P nb sz (zq_th P nb sz b k e v) b k := by
  intro k
  induction k with
  | zero => intro _ v hv; exact he v hv
  | succ k ih =>
    intro hk v hv
    obtain ⟨⟨kd, kd1, kd2⟩, x1, x2⟩ := hW.ins hb.1 (show k < sz b by omega)
    rw [zq_th_step]
    unfold zq_nx
    by_cases c1 : P 1 (100 * b + k) = 14
    · rw [if_pos c1]; exact (ih (by omega) v hv).up (by omega)
    · rw [if_neg c1]
      by_cases c2 : P 1 (100 * b + k) = 2
      · rw [if_pos c2]
        have hk2 : kd = 2 := nI_inj (by omega) (by omega) (kd2.symm.trans (c2.trans (show (2 : Int32) = nI 2 by decide)))
        obtain ⟨y1, y2⟩ := hW.insY hb.1 (show k < sz b by omega) kd2 (by omega) (by omega)
        by_cases q : v = zq_x P b k
        · rw [if_pos q]; exact (ih (by omega) _ y2).up (by omega)
        · rw [if_neg q]; exact (ih (by omega) v hv).up (by omega)
      · rw [if_neg c2]
        by_cases q : v = zq_x P b k
        · rw [if_pos q]
          exact Or.inr (Or.inr ⟨b, k, ⟨hb, by omega, (zm_iv P b k).mpr ⟨c2, c1⟩, rfl⟩, zq_D.refl hb, fun _ => by omega⟩)
        · rw [if_neg q]; exact (ih (by omega) v hv).up (by omega)
theorem zq_Ah.bg (hW : zq_WF P nb sz) : ∀ d b, zq_rc P nb b → zq_dep P nb b ≤ d → ∀ v, v < 10 → zq_Ah P nb sz (zq_Bg P nb sz b v) b 0 := by
  intro d
  induction d with
  | zero => intro b hb hd; have := zq_dep_pos hb; omega
  | succ d ih =>
    intro b hb hd v hv
    rw [zq_Bg_eq hb]
    by_cases c1 : zp (zq_HC P nb sz v b) = true
    · rw [if_pos c1]
      exact Or.inr (Or.inl ⟨b, v, ⟨hb, hv, zp_t.mp c1, rfl⟩, zq_D.refl hb⟩)
    · rw [if_neg c1]
      by_cases h0 : b = 0
      · rw [if_pos h0]; exact Or.inl rfl
      · rw [if_neg h0]
        have hp := zq_pa_ok hb h0
        have := zq_Ah.th hW hp.2.1.rcl (ih _ hp.2.1.rcl (by have := hp.dep; omega)) _ (Nat.le_refl _) v hv
        exact this.down hp.2.1 hp.1
theorem zq_Ah.at (hW : zq_WF P nb sz) {b k v : Nat} (hb : zq_rc P nb b) (hk : k ≤ sz b) (hv : v < 10) : zq_Ah P nb sz (zq_At P nb sz b k v) b k := zq_Ah.th hW hb (zq_Ah.bg hW _ b hb (Nat.le_refl _)) k hk v hv
theorem zq_Ah.en (hW : zq_WF P nb sz) {b v : Nat} (hb : zq_rc P nb b) (hv : v < 10) : zq_Ah P nb sz (zq_En P nb sz b v) b (sz b) := zq_Ah.at hW hb (Nat.le_refl _) hv
/-- the table of the VALUES of P -/
def zq_Tab (P : zx_S) (nb : Nat) (sz : Nat → Nat) (t : zc_Tb) : Prop := zt_T t = zq_st P nb sz nb ∧ (zt_k t 0 = 0 ∧ zt_n t 0 = 0 ∧ zt_b t 0 = 0 ∧ zt_c t 0 = 0) ∧
  (∀ i b v, zq_isC P nb sz i b v → zt_k t i = 15 ∧ zt_n t i = -1 ∧ zt_b t i = nI b ∧ zt_c t i = zq_no P nb b ∧ (∀ p, zq_pr P nb b p → zt_o t i (zq_np P nb b p) = zq_En P nb sz p v) ∧ (b = 0 → zt_o t i (zq_np P nb b nb) = 0)) ∧
  (∀ i b k, zq_isN P nb sz i b k → zt_k t i = P 1 (100 * b + k) ∧ (zt_n t i = if 2 ≤ P 1 (100 * b + k) then -1 else P 3 (100 * b + k)) ∧ zt_b t i = nI b ∧ (zt_c t i = if 3 ≤ P 1 (100 * b + k) then 2 else 0) ∧ (3 ≤ P 1 (100 * b + k) → zt_o t i 0 = zq_At P nb sz b k (zq_y P b k) ∧ zt_o t i 1 = zq_At P nb sz b k (zq_z P b k)))
theorem zq_no_le (hnb : nb ≤ 16) (b : Nat) : zq_no P nb b ≤ 17 := by
  have : zq_np P nb b nb ≤ nb := zn_le _ _
  unfold zq_no
  split <;> omega
/-- the j-th OPERAND of a CHOICE comes from a PREDECESSOR, or is the last of one in the ENTRY -/
theorem zq_no_ex {b j : Nat} (h : j < zq_no P nb b) : (∃ p, p < nb ∧ zq_pr P nb b p ∧ zq_np P nb b p = j) ∨ (b = 0 ∧ j = zq_np P nb b nb) := by
  by_cases q : j < zq_np P nb b nb
  · obtain ⟨p, h1, h2, h3⟩ := zn_surj q
    exact Or.inl ⟨p, h1, zp_t.mp h2, h3⟩
  · right
    unfold zq_no at h
    by_cases h0 : b = 0
    · rw [if_pos h0] at h; exact ⟨h0, by omega⟩
    · rw [if_neg h0] at h; omega
theorem zq_kd3 {kd : Nat} (h : kd ≤ 14) {x : Int32} (hx : x = nI kd) : (3 ≤ x ↔ 3 ≤ kd) ∧ (2 ≤ x ↔ 2 ≤ kd) ∧ (1 < x ↔ 1 < kd) := by
  subst hx
  refine ⟨?_, ?_, ?_⟩
  · rw [show (3 : Int32) = nI 3 by decide, nI_leI (by omega) (by omega)]
  · rw [show (2 : Int32) = nI 2 by decide, nI_leI (by omega) (by omega)]
  · rw [show (1 : Int32) = nI 1 by decide, nI_ltI (by omega) (by omega)]
theorem zq_Tab.H (hW : zq_WF P nb sz) (hn : 0 < nb) {t : zc_Tb} (h : zq_Tab P nb sz t) : zc_H t := by
  obtain ⟨h1, h2, h3, h4⟩ := h
  have hnb := hW.2.1
  -- what each VALUE is
  have cs : ∀ i, i < zt_T t → i = 0 ∨ (∃ b v, zq_isC P nb sz i b v) ∨ ∃ b k, zq_isN P nb sz i b k := fun i hi => by
    rw [h1] at hi
    rcases zq_surj nb hi with q | ⟨b, v, -, q⟩ | ⟨b, k, -, q⟩
    · exact Or.inl q
    · exact Or.inr (Or.inl ⟨b, v, q⟩)
    · exact Or.inr (Or.inr ⟨b, k, q⟩)
  have kN : ∀ i b k, zq_isN P nb sz i b k → ∃ kd, kd ≤ 14 ∧ kd ≠ 2 ∧ kd ≠ 14 ∧ zt_k t i = nI kd ∧ (zt_c t i = if 3 ≤ kd then 2 else 0) := fun i b k hN => by
    obtain ⟨⟨kd, kd1, kd2⟩, -, -⟩ := hW.ins hN.1.1 hN.2.1
    have hv := (zm_iv P b k).mp hN.2.2.1
    refine ⟨kd, kd1, fun q => hv.1 (by rw [kd2, q]; decide), fun q => hv.2 (by rw [kd2, q]; decide), (h4 i b k hN).1.trans kd2, ?_⟩
    rw [(h4 i b k hN).2.2.2.1]
    by_cases q : 3 ≤ kd
    · rw [if_pos ((zq_kd3 kd1 kd2).1.mpr q), if_pos q]
    · rw [if_neg (fun z => q ((zq_kd3 kd1 kd2).1.mp z)), if_neg q]
  refine ⟨fun u v hu hv hs => ?_, fun u hu he => ?_, fun u j hu hj => ?_, fun u hu => ?_, by rw [h1]; exact zq_st_261 hW (Nat.le_refl _)⟩
  · -- the count goes by the kind and, of CHOICES, by the block
    have cnt : ∀ i, i < zt_T t → (zt_k t i = 15 ∧ ∃ b, zt_b t i = nI b ∧ b < nb ∧ zt_c t i = zq_no P nb b) ∨ ∃ kd, kd ≤ 14 ∧ zt_k t i = nI kd ∧ (zt_c t i = if 3 ≤ kd then 2 else 0) := fun i hi => by
      rcases cs i hi with q | ⟨b, v, q⟩ | ⟨b, k, q⟩
      · subst q; exact Or.inr ⟨0, by decide, by rw [h2.1]; exact nI_0.symm, h2.2.2.2⟩
      · have := h3 i b v q
        exact Or.inl ⟨this.1, b, this.2.2.1, q.1.1, this.2.2.2.1⟩
      · obtain ⟨kd, a1, -, -, a2, a3⟩ := kN i b k q
        exact Or.inr ⟨kd, a1, a2, a3⟩
    rcases cnt u hu with ⟨p1, b, p2, p3, p4⟩ | ⟨kd, p1, p2, p3⟩
    · rcases cnt v hv with ⟨q1, b', q2, q3, q4⟩ | ⟨kd', q1, q2, q3⟩
      · rcases hs.2.2 with z | z
        · exact absurd p1 z
        · rw [p2, q2] at z
          have e := nI_inj (by omega) (by omega) z
          rw [p4, q4, e]
      · have := hs.1
        rw [p1, q2] at this
        have := nI_inj (a := 15) (by omega) (by omega) ((show nI 15 = (15 : Int32) by decide).trans this)
        omega
    · rcases cnt v hv with ⟨q1, b', q2, q3, q4⟩ | ⟨kd', q1, q2, q3⟩
      · have := hs.1
        rw [p2, q1] at this
        have := nI_inj (b := 15) (by omega) (by omega) (this.trans (show (15 : Int32) = nI 15 by decide))
        omega
      · have := hs.1
        rw [p2, q2] at this
        rw [p3, q3, nI_inj (by omega) (by omega) this]
  · rcases cs u hu with q | ⟨b, v, q⟩ | ⟨b, k, q⟩
    · subst q; unfold zc_ev at he; rw [h2.1] at he; exact absurd he (by decide)
    · unfold zc_ev at he; rw [(h3 u b v q).1] at he; exact absurd he (by decide)
    · obtain ⟨kd, a1, -, -, a2, a3⟩ := kN u b k q
      rw [a3]
      refine if_pos ?_
      unfold zc_ev at he
      rw [a2] at he
      rcases he with z | z
      · have := nI_inj (b := 3) (by omega) (by omega) (z.trans (show (3 : Int32) = nI 3 by decide)); omega
      · have := z.1
        rw [show (5 : Int32) = nI 5 by decide, nI_leI (by omega) (by omega)] at this; omega
  · rw [h1]
    rcases cs u hu with q | ⟨b, v, q⟩ | ⟨b, k, q⟩
    · subst q; rw [h2.2.2.2] at hj; omega
    · obtain ⟨-, -, -, c1, c2, c3⟩ := h3 u b v q
      rw [c1] at hj
      rcases zq_no_ex hj with ⟨p, z1, z2, z3⟩ | ⟨z1, z2⟩
      · rw [← z3, c2 p z2]; exact (zq_Ah.en hW z2.1 q.2.1).lt hn
      · rw [z2, c3 z1]; have := zq_st_pos (P := P) (nb := nb) (sz := sz) nb; omega
    · obtain ⟨kd, a1, a4, a5, a2, a3⟩ := kN u b k q
      rw [a3] at hj
      by_cases z : 3 ≤ kd
      · rw [if_pos z] at hj
        obtain ⟨⟨kd', kd1, kd2⟩, -, -⟩ := hW.ins q.1.1 q.2.1
        have ek : kd' = kd := nI_inj (by omega) (by omega) (kd2.symm.trans ((h4 u b k q).1.symm.trans a2))
        subst ek
        have := (h4 u b k q).2.2.2.2 ((zq_kd3 kd1 kd2).1.mpr z)
        rcases (show j = 0 ∨ j = 1 by omega) with rfl | rfl
        · rw [this.1]; exact (zq_Ah.at hW q.1 (Nat.le_of_lt q.2.1) (hW.insY q.1.1 q.2.1 kd2 (by omega) (by omega)).2).lt hn
        · rw [this.2]; exact (zq_Ah.at hW q.1 (Nat.le_of_lt q.2.1) (hW.insZ q.1.1 q.2.1 kd2 (by omega) (by omega)).2).lt hn
      · rw [if_neg z] at hj; omega
  · rcases cs u hu with q | ⟨b, v, q⟩ | ⟨b, k, q⟩
    · subst q; rw [h2.2.2.2]; omega
    · rw [(h3 u b v q).2.2.2.1]; exact zq_no_le hnb b
    · obtain ⟨kd, a1, -, -, a2, a3⟩ := kN u b k q
      rw [a3]; split <;> omega
end TA
