/-! PURE: the reference: OPERANDS of LED, what is read -/
section MS
variable {P : zx_S} {nb : Nat} {sz : Nat → Nat} {t : zc_Tb}
theorem zq_k15 (hW : zq_WF P nb sz) (h : zq_Tab P nb sz t) {v b k : Nat} (q : zq_isN P nb sz v b k) : ¬ zt_k t v = 15 := by
  obtain ⟨⟨kd, kd1, kd2⟩, -, -⟩ := hW.ins q.1.1 q.2.1
  rw [(h.2.2.2 v b k q).1, kd2]
  intro z
  have := nI_inj (b := 15) (by omega) (by omega) (z.trans (show (15 : Int32) = nI 15 by decide))
  omega
/-- OPERANDS of an INSTRUCTION, by kinds -/
theorem zq_isN.ops (hW : zq_WF P nb sz) (hn : 0 < nb) (h : zq_Tab P nb sz t) {v b k j : Nat} (q : zq_isN P nb sz v b k) (hj : j < zt_c t v) : zq_Ah P nb sz (zt_o t v j) b k := by
  have a := h.2.2.2 v b k q
  obtain ⟨⟨kd, kd1, kd2⟩, -, -⟩ := hW.ins q.1.1 q.2.1
  have hv2 := (zm_iv P b k).mp q.2.2.1
  rw [a.2.2.2.1] at hj
  by_cases c : 3 ≤ P 1 (100 * b + k)
  · have h3 := (zq_kd3 kd1 kd2).1.mp c
    have h14 : kd < 14 := by
      rcases (show kd = 14 ∨ kd < 14 by omega) with z | z
      · exact absurd (by rw [kd2, z]; decide) hv2.2
      · exact z
    rw [if_pos c] at hj
    have o := a.2.2.2.2 c
    rcases (show j = 0 ∨ j = 1 by omega) with e | e
    · subst e; rw [o.1]; exact zq_Ah.at hW q.1 (Nat.le_of_lt q.2.1) (hW.insY q.1.1 q.2.1 kd2 (by omega) h14).2
    · subst e; rw [o.2]; exact zq_Ah.at hW q.1 (Nat.le_of_lt q.2.1) (hW.insZ q.1.1 q.2.1 kd2 h3 h14).2
  · rw [if_neg c] at hj; omega
theorem zM_ledOperand_eq (hW : zq_WF P nb sz) (hn : 0 < nb) (h : zq_Tab P nb sz t) {s : zx_S} (hP : zq_Pg P s) (hs : zm_Ca P nb sz t s) {v j : Nat} (hv : v < zt_T t) (hj : j < zt_c t v) : zM_ValueBenchModel_ledOperand (nI v) (nI j) s = some (nI (zq_lo P nb t v j)) := by
  have hnb := hW.2.1
  have hH := h.H hW hn
  have hT := hH.2.2.2.2
  have hc := hH.2.2.2.1 v hv
  have oT := hH.2.2.1 v j hv hj
  obtain ⟨e16, e17, -, -, e21⟩ := hs.2.2.2.2.1.2 v hv
  obtain ⟨k1, k2⟩ := h.bk hW hn hv
  have k3 := k2.1
  have pl := hs.2.2.1.2.2.1
  unfold zM_ValueBenchModel_ledOperand
  rw [nI_20, zc_ck (show 20 * v + j < 5400 by omega) (by decide), zc_cl (show 20 * v + j < 2 ^ 31 by omega), zc_lt, e21 j hj, zc_ck (show v < 270 by omega) (by decide), zc_cl (show v < 2 ^ 31 by omega), e16]
  have hv' := hv
  rw [h.1] at hv'
  rcases zq_cases hv' with q | ⟨b, x, q⟩ | ⟨b, k, q⟩
  · subst q; rw [h.2.1.2.2.2] at hj; omega
  · have a := h.2.2.1 v b x q
    have eb := h.bkC hW q
    rw [if_pos a.1, zc_ck (show v < 270 by omega) (by decide), e17, k1, zc_lt, zM_predecessorAt_eq hW hP hs.1.1 k3 (show j < 2 ^ 31 by omega), zc_b1]
    unfold zq_lo zq_wh
    rw [if_pos a.1]
    rw [a.2.2.2.1] at hj
    by_cases c : zq_nt P nb (zq_bk t v) j < nb
    · rw [if_pos c, if_pos c, if_pos (by rw [← nI_0, nI_leI (by omega) (by omega)]; omega), zc_ck (show zq_nt P nb (zq_bk t v) j < 16 by omega) (by decide), zc_cl (show zq_nt P nb (zq_bk t v) j < 2 ^ 31 by omega), hP.at (by decide) (by decide), (hW.2.2.1 _ c).1]
      have pr := zq_nt_lt c
      rw [eb] at pr c ⊢
      have eo : zt_o t v j = zq_En P nb sz (zq_nt P nb b j) x := by
        have := a.2.2.2.2.1 _ pr.1
        rwa [pr.2] at this
      have ah := zq_Ah.en hW pr.1.1 q.2.1
      rw [← eo] at ah
      rw [zM_leader_eq hW hn h hs c oT (ah.hd hW hn h pl pr.1.1 (hW.2.2.1 _ c).2), zc_b1]
    · rw [if_neg c, if_neg c, if_neg (by decide)]
      rcases zq_no_ex hj with ⟨p, p1, p2, p3⟩ | ⟨p1, p2⟩
      · rw [eb, ← p3, zq_nt_eq p2] at c; exact absurd p1 c
      · rw [p2, a.2.2.2.2.2 p1, zq_Ld0 hn h]; rw [nI_0]
  · have a := h.2.2.2 v b k q
    have eb := h.bkN hW q
    have n15 := zq_k15 hW h q
    have hkk := (hW.2.2.1 b q.1.1).2
    have hk := q.2.1
    rw [if_neg n15, zc_ck (show v < 270 by omega) (by decide), zc_ck (show v < 270 by omega) (by decide), e17, k1, pl.2.2 v b k q]
    have ah := q.ops hW hn h hj
    unfold zq_lo zq_wh
    rw [if_neg n15, eb, zM_leader_eq hW hn h hs q.1.1 oT (ah.hd hW hn h pl q.1 (by omega)), zc_b1]
theorem zM_yOf_eq (hW : zq_WF P nb sz) {s : zx_S} (hP : zq_Pg P s) {b : Nat} (hb : b < nb) (hj : ¬ zq_how P b = 1) : zM_ValueBenchModel_yOf (nI b) s = some (nI (zq_ev P b)) ∧ zq_ev P b < 10 := by
  have hnb := hW.2.1
  unfold zM_ValueBenchModel_yOf
  rw [zM_howOf_eq hP (show b < 16 by omega), zc_b1, zc_ck (show b < 16 by omega) (by decide), zc_cl (by omega), hP.at (c := 6) (by decide) (by decide), hP.at (c := 7) (by decide) (by decide)]
  unfold zq_ev
  by_cases c : zq_how P b = P 6 b
  · rw [if_pos c, zc_ck (show b < 16 by omega) (by decide), if_pos (zp_t.mpr c)]
    rcases hW.2.2.2.1 b hb with ⟨h1, y, hy, h2⟩ | ⟨h1, -⟩ | ⟨h1, ⟨y, hy, h2⟩, -⟩
    · rw [h2, nI_clamp (by omega)]; exact ⟨rfl, hy⟩
    · exact absurd (c.trans h1) hj
    · rw [h2, nI_clamp (by omega)]; exact ⟨rfl, hy⟩
  · rw [if_neg c, if_neg (by rw [zp_f.mpr c]; decide)]
    exact ⟨by rw [nI_0], by decide⟩
theorem zM_reads_eq (hW : zq_WF P nb sz) (hn : 0 < nb) (h : zq_Tab P nb sz t) {s : zx_S} (hP : zq_Pg P s) (hs : zm_Ca P nb sz t s) {b : Nat} (hb : zq_rc P nb b) (hj : ¬ zq_how P b = 1) (p2 : Int32) : zM_ValueBenchModel_reads (nI b) p2 s = some (nI (if p2 = 0 then zq_En P nb sz b (zq_ev P b) else zq_Ld P nb t (zq_En P nb sz b (zq_ev P b)) b)) := by
  have hnb := hW.2.1
  have hbn := hb.1
  obtain ⟨y1, y2⟩ := zM_yOf_eq hW hP hb.1 hj
  unfold zM_ValueBenchModel_reads
  rw [y1, zc_b1, nI_10, zc_ck (show 10 * b + zq_ev P b < 160 by omega) (by decide), zc_cl (show 10 * b + zq_ev P b < 2 ^ 31 by omega), zc_lt, (hs.2.2.1.2.2.2.2.2.2 b hb).2 _ y2]
  by_cases c : p2 = 0
  · rw [if_pos c, if_pos c]
  · have ah := zq_Ah.en hW hb y2
    have eT : zq_En P nb sz b (zq_ev P b) < zt_T t := by rw [h.1]; exact ah.lt hn
    rw [if_neg c, if_neg c, zc_ck (show b < 16 by omega) (by decide), zc_cl (by omega), hP.at (by decide) (by decide), (hW.2.2.1 b hb.1).1, zM_leader_eq hW hn h hs hb.1 eT (ah.hd hW hn h hs.2.2.1.2.2.1 hb (hW.2.2.1 b hb.1).2), zc_b1]
theorem zM_readAt_eq (hW : zq_WF P nb sz) (hn : 0 < nb) (h : zq_Tab P nb sz t) {s : zx_S} (hP : zq_Pg P s) (hs : zm_Ca P nb sz t s) {b k x : Nat} (hb : zq_rc P nb b) (hk : k ≤ sz b) (hx : x < 10) : ∃ s', zM_ValueBenchModel_readAt (nI b) (nI k) (nI x) s = some (nI (zq_At P nb sz b k x), s') ∧ ∀ c i, c ≠ 27 → s' c i = s c i := by
  have hnb := hW.2.1
  have hbn := hb.1
  unfold zM_ValueBenchModel_readAt
  have := zf_for (L := fun n i u => zM_ValueBenchModel_readAt_L3 (nI b) (nI k) (nI x) (fun s4 => zx_b1 (zM_ValueBenchModel_through (nI b) (nI k) (0 : Int32) s4) fun s5 => zx_ck (nI x) 10 <| some ((s5 27 (nI x).toNatClampNeg), s5)) n i u) (k := fun s4 => zx_b1 (zM_ValueBenchModel_through (nI b) (nI k) (0 : Int32) s4) fun s5 => zx_ck (nI x) 10 <| some ((s5 27 (nI x).toNatClampNeg), s5)) 10 (fun v u => (∀ w, w < v → u 27 w = nI (zq_Bg P nb sz b w)) ∧ ∀ c i, c ≠ 27 → u c i = s c i) (fun n u _ => by
    show zM_ValueBenchModel_readAt_L3 (nI b) (nI k) (nI x) _ (n + 1) (nI 10) u = _
    rw [zM_ValueBenchModel_readAt_L3, if_pos (by decide)]) (fun n v u hv q => by
    show ∃ a', _ ∧ zM_ValueBenchModel_readAt_L3 (nI b) (nI k) (nI x) _ (n + 1) (nI v) u = zM_ValueBenchModel_readAt_L3 (nI b) (nI k) (nI x) _ n (nI (v + 1)) a'
    rw [zM_ValueBenchModel_readAt_L3, if_neg (by rw [show (10 : Int32) = nI 10 by decide, nI_leI (by omega) (by omega)]; omega), nI_10, zc_ck (show 10 * b + v < 160 by omega) (by decide), zc_cl (show 10 * b + v < 2 ^ 31 by omega), zc_lt, zc_ck hv (by decide), zc_cl (show v < 2 ^ 31 by omega), zc_ls, zc_lt, nI_1, q.2 25 _ (by decide), (hs.2.2.1.2.2.2.2.2.2 b hb).1 v hv]
    refine ⟨_, ⟨fun w hw => ?_, fun c i hc => by rw [zs_ne (Or.inl hc)]; exact q.2 c i hc⟩, rfl⟩
    by_cases e : w = v
    · rw [e, zs_eq]
    · rw [zs_ne (Or.inr e)]; exact q.1 w (by omega)) (i := 0) (n := 10000) (Nat.zero_le _) (a := s) ⟨fun w hw => by omega, fun _ _ _ => rfl⟩ (by decide)
  rw [nI_0] at this
  obtain ⟨s1, ⟨a1, a2⟩, a3⟩ := this
  rw [a3]
  have hP1 : zq_Pg P s1 := ⟨by rw [a2 0 0 (by decide)]; exact hP.1, fun c h1 h2 => by funext i; rw [a2 c i (by omega), hP.2 c h1 h2]⟩
  have h261 := zq_st_261 hW (Nat.le_refl nb)
  obtain ⟨s2, b1, b2⟩ := zM_through_spec hW hb hk false hP1 a1 (fun i k' hN => by
    rw [a2 24 _ (by decide)]
    exact ⟨(hs.2.2.1.2.2.2.2.2.1 i b k' hN).1, by have := Nat.lt_of_lt_of_le hN.lt.2 (zq_st_up (show b + 1 ≤ nb from hbn)); omega⟩) (fun z => by cases z)
  rw [zi_f] at b2
  show ∃ s', (zx_b1 (zM_ValueBenchModel_through (nI b) (nI k) (0 : Int32) s1) fun s5 => zx_ck (nI x) 10 <| some ((s5 27 (nI x).toNatClampNeg), s5)) = _ ∧ _
  rw [b2, zc_b1, zc_ck hx (by decide), zc_cl (show x < 2 ^ 31 by omega), b1.2.1 x hx]
  refine ⟨s2, rfl, fun c i hc => ?_⟩
  by_cases c1 : c = 22
  · rw [c1, (b1.2.2.2.2 i (Or.inl rfl)).1, a2 22 i (by decide)]
  · by_cases c2 : c = 21
    · have := (b1.2.2.2.2 (i / 20) (Or.inl rfl)).2 (i % 20) (by omega)
      rw [show 20 * (i / 20) + i % 20 = i by omega] at this
      rw [c2, this, a2 21 i (by decide)]
    · rw [b1.2.2.1 c c2 c1 hc, a2 c i hc]
end MS
