/-! PURE: the class's Values.make -/
section XM
variable {P : zx_S} {nb : Nat} {sz : Nat → Nat} {t : zc_Tb}
theorem zb_cnt {x : Int32} {n : Nat} {Q : Nat → Prop} (hn : n ≤ 16) (h : ∀ p, zb x p = true ↔ Q p) (hQ : ∀ p, Q p → p < n) : zn (zb x) 16 = zn (fun p => zp (Q p)) n := by
  have e : ∀ d, n + d ≤ 16 → zn (zb x) (n + d) = zn (fun p => zp (Q p)) n := by
    intro d
    induction d with
    | zero =>
      intro _
      apply zn_congr
      intro p _
      by_cases q : Q p
      · rw [zp_t.mpr q, (h p).mpr q]
      · rw [zp_f.mpr q, zb_t.mpr (fun z => q ((h p).mp z))]
    | succ d ih =>
      intro hd
      rw [show n + (d + 1) = n + d + 1 by omega, zn_step, ih (by omega), zb_t.mpr (fun z => by have := hQ _ ((h _).mp z); omega)]
      rfl
  have := e (16 - n) (by omega)
  rwa [show n + (16 - n) = 16 by omega] at this
/-- but for rows 25, 26, 27, 32 -/
def zX_Fx (s s' : zx_S) : Prop := ∀ c i, c ≠ 25 → c ≠ 26 → c ≠ 27 → c ≠ 32 → s' c i = s c i
theorem zX_Gr.keep {s s' : zx_S} (h : zX_Gr P nb s) (hk : ∀ c i, 11 ≤ c → c ≤ 17 → s' c i = s c i) : zX_Gr P nb s' := by
  obtain ⟨e1, e2, e3, e4, e5, e6⟩ := h
  exact ⟨by rw [hk 11 6 (by decide) (by decide)]; exact e1, fun b hb => by rw [hk 13 b (by decide) (by decide)]; exact e2 b hb, fun b hb => by rw [hk 14 b (by decide) (by decide)]; exact e3 b hb, fun b hb => by rw [hk 15 b (by decide) (by decide)]; exact e4 b hb, fun b hb => by rw [hk 16 b (by decide) (by decide)]; exact e5 b hb, fun b hb => by rw [hk 17 b (by decide) (by decide)]; exact e6 b hb⟩
theorem zX_Nr.keep {n : Nat} {s s' : zx_S} (h : zX_Nr P nb sz t n s) (hk : ∀ c i, (18 ≤ c ∧ c ≤ 23) ∨ (28 ≤ c ∧ c ≤ 30) → s' c i = s c i) : zX_Nr P nb sz t n s' := by
  obtain ⟨e1, e2, e3, e4, e5⟩ := h
  exact ⟨e1.keep (fun c j h1 h2 => hk c j (Or.inl ⟨h1, h2⟩)), fun b hb hr => by rw [hk 29 b (Or.inr (by decide)), hk 30 b (Or.inr (by decide))]; exact e2 b hb hr, fun b hb hr => by rw [hk 30 b (Or.inr (by decide))]; exact e3 b hb hr, fun b k h1 h2 h3 h4 => by rw [hk 28 _ (Or.inr (by decide))]; exact e4 b k h1 h2 h3 h4, fun b k h1 h2 => by rw [hk 28 _ (Or.inr (by decide))]; exact e5 b k h1 h2⟩
def zX_Bs (P : zx_S) (nb : Nat) (sz : Nat → Nat) (t : zc_Tb) (s : zx_S) : Prop := zX_Pr P nb sz s ∧ zX_Gr P nb s ∧ zX_Nr P nb sz t 16 s
theorem zX_Bs.keep {s s' : zx_S} (h : zX_Bs P nb sz t s) (hk : zX_Fx s s') : zX_Bs P nb sz t s' := ⟨h.1.keep (fun c i h1 h2 => hk c i (by omega) (by omega) (by omega) (by omega)), h.2.1.keep (fun c i h1 h2 => hk c i (by omega) (by omega) (by omega) (by omega)), h.2.2.keep (fun c i h1 => hk c i (by omega) (by omega) (by omega) (by omega))⟩
theorem zX_make_L23_spec (hW : zq_WF P nb sz) (h : zq_Tab P nb sz t) (kk : zx_S → Option zx_S) {d : Nat} (hd : d ≤ 16) {s : zx_S} (hB : zX_Bs P nb sz t s) (hD : ∀ c, zq_rc P nb c → zq_dep P nb c < d → zX_Bk P nb sz t c s) : ∃ s', (zX_Fx s s' ∧ ∀ c, zq_rc P nb c → zq_dep P nb c < d + 1 → zX_Bk P nb sz t c s') ∧ zX_Values_make_L23 (nI d) kk 10000 (0 : Int32) s = kk s' := by
  have hnb := hW.2.1
  have := zf_for (L := fun n i u => zX_Values_make_L23 (nI d) kk n i u) (k := kk) 16 (fun b u => zX_Fx s u ∧ ∀ c, zq_rc P nb c → (zq_dep P nb c < d ∨ (zq_dep P nb c = d ∧ c < b)) → zX_Bk P nb sz t c u) (fun n u _ => by
    show zX_Values_make_L23 (nI d) kk (n + 1) (nI 16) u = kk u
    rw [zX_Values_make_L23, if_pos (by decide)]) (fun n b u hb q => by
    obtain ⟨g1, g2⟩ := q
    have hBu := hB.keep g1
    show ∃ a', _ ∧ zX_Values_make_L23 (nI d) kk (n + 1) (nI b) u = zX_Values_make_L23 (nI d) kk n (nI (b + 1)) a'
    rw [zX_Values_make_L23, if_neg (by rw [show (16 : Int32) = nI 16 by decide, nI_leI (by omega) (by omega)]; omega), zX_reaches_eq hnb hBu.2.1.1 (show b < 2 ^ 31 by omega), zc_b1]
    simp only [zi_0, zc_lt, nI_1]
    by_cases c1 : zp (zq_rc P nb b) = false
    · rw [if_pos c1]
      have hno := zp_f.mp c1
      refine ⟨u, ⟨g1, fun c hr hc => g2 c hr (hc.imp_right (fun q => ⟨q.1, by have : c ≠ b := (fun e => hno (e ▸ hr)); omega⟩))⟩, rfl⟩
    · rw [if_neg c1, zc_ck hb (by decide), zc_cl (by omega)]
      have hr : zq_rc P nb b := zp_t.mp (by simpa using c1)
      have g15 := hBu.2.1.2.2.2.1 b hb
      rw [zX_bitCount_eq g15.1, zc_b1, zb_cnt hnb g15.2 (fun p hp => hp.rcl.1)]
      have hdep : zn (fun p => zp (zq_D P nb p b)) nb = zq_dep P nb b := rfl
      have hdl : zq_dep P nb b ≤ nb := zn_le _ _
      rw [hdep]
      by_cases c2 : nI (zq_dep P nb b) = nI d
      · rw [if_pos c2]
        have ed : zq_dep P nb b = d := nI_inj (by omega) (by omega) c2
        obtain ⟨u1, ⟨a1, a2⟩, a3⟩ := zX_begin_spec (t := t) hW hr hBu.2.1 hBu.2.2 (fun h0 v hv => by
          have hp := zq_pa_ok hr h0
          exact (g2 _ hp.2.1.rcl (Or.inl (by have := hp.dep; omega))).1 v hv)
        rw [a3, zc_b1]
        have g3 : zX_Fx u u1 := a1.1
        have hB1 := hBu.keep g3
        obtain ⟨u2, ⟨b1, b2⟩, b3⟩ := zX_follow_spec hW h hr hB1.1 hB1.2.2 a2
        rw [b3, zc_b1]
        refine ⟨u2, ⟨fun c i h1 h2 h3 h4 => by rw [b1.1 c i h1 h2 h3 h4, a1.1 c i h1 h2 h3 h4, g1 c i h1 h2 h3 h4], fun c hrc hc => ?_⟩, rfl⟩
        by_cases e : c = b
        · rw [e]; exact b2
        · exact (a1.trans b1).bk e (g2 c hrc (hc.imp_right (fun q => ⟨q.1, by omega⟩)))
      · rw [if_neg c2]
        refine ⟨u, ⟨g1, fun c hrc hc => g2 c hrc (hc.imp_right (fun q => ⟨q.1, by have : c ≠ b := (fun e => c2 (by rw [← e, q.1])); omega⟩))⟩, rfl⟩) (i := 0) (n := 10000) (Nat.zero_le _) (a := s) ⟨fun _ _ _ _ _ _ => rfl, fun c hr hc => hD c hr (by omega)⟩ (by decide)
  rw [nI_0] at this
  obtain ⟨s', ⟨h1, h2⟩, h3⟩ := this
  exact ⟨s', ⟨h1, fun c hr hc => h2 c hr (by have := hr.1; omega)⟩, h3⟩
theorem zX_make_L14_spec (hW : zq_WF P nb sz) (h : zq_Tab P nb sz t) (kk : zx_S → Option zx_S) {s : zx_S} (hB : zX_Bs P nb sz t s) : ∃ s', (zX_Fx s s' ∧ ∀ c, zq_rc P nb c → zX_Bk P nb sz t c s') ∧ zX_Values_make_L14 kk 10000 (1 : Int32) s = kk s' := by
  have hnb := hW.2.1
  have := zf_off (L := fun n i u => zX_Values_make_L14 kk n i u) (k := kk) 1 16 (fun d u => zX_Fx s u ∧ ∀ c, zq_rc P nb c → zq_dep P nb c < 1 + d → zX_Bk P nb sz t c u) (fun n u _ => by
    show zX_Values_make_L14 kk (n + 1) (nI 17) u = kk u
    rw [zX_Values_make_L14, if_pos (by decide)]) (fun n d u hd q => by
    obtain ⟨g1, g2⟩ := q
    show ∃ a', _ ∧ zX_Values_make_L14 kk (n + 1) (nI (1 + d)) u = zX_Values_make_L14 kk n (nI (1 + d + 1)) a'
    rw [zX_Values_make_L14, if_neg (by rw [show (16 : Int32) = nI 16 by decide, nI_ltI (by omega) (by omega)]; omega)]
    obtain ⟨u', ⟨a1, a2⟩, a3⟩ := zX_make_L23_spec hW h (fun s10 => zx_lt (nI (1 + d) + (1 : Int32)) fun v3_11 => zX_Values_make_L14 kk n v3_11 s10) (show 1 + d ≤ 16 by omega) (hB.keep g1) g2
    rw [a3, zc_lt, nI_1]
    exact ⟨u', ⟨fun c i h1 h2 h3 h4 => by rw [a1 c i h1 h2 h3 h4, g1 c i h1 h2 h3 h4], a2⟩, rfl⟩) (n := 10000) (a := s) ⟨fun _ _ _ _ _ _ => rfl, fun c hr hc => by have := zq_dep_pos hr; omega⟩ (by decide)
  rw [show nI 1 = (1 : Int32) by decide] at this
  obtain ⟨s', ⟨h1, h2⟩, h3⟩ := this
  exact ⟨s', ⟨h1, fun c hr => h2 c hr (by have : zq_dep P nb c ≤ nb := zn_le _ _; omega)⟩, h3⟩
/-- filling VALUE i touches its own OPERANDS only -/
theorem zX_fillChoice_spec (hW : zq_WF P nb sz) (h : zq_Tab P nb sz t) {i b v : Nat} (hC : zq_isC P nb sz i b v) {s : zx_S} (hB : zX_Bs P nb sz t s) (hD : ∀ c, zq_rc P nb c → zX_Bk P nb sz t c s) : ∃ s', (zX_Fo t i s' ∧ ∀ c j, (c ≠ 25 ∨ ∀ j', j' < zt_c t i → j ≠ zt (zt_c t) i + j') → s' c j = s c j) ∧ zX_Values_fillChoice (nI i) (s 13 b) s = some s' := by
  have hnb := hW.2.1
  have hr := hC.1
  have hb := hr.1
  have hiT : i < zq_st P nb sz nb := Nat.lt_of_lt_of_le hC.lt' (zq_st_up hb)
  have hi16 : i < zq_st P nb sz 16 := Nat.lt_of_lt_of_le hC.lt' (zq_st_up (by omega))
  have hT : i < zt_T t := by rw [h.1]; exact hiT
  have h261 := zq_st_261 hW (Nat.le_refl nb)
  have tb := h.2.2.1 i b v hC
  have e21 := (hB.2.2.1.2.1.2.1 i b v hi16 hC)
  have g13 := hB.2.1.2.1 b (by omega)
  unfold zX_Values_fillChoice
  rw [zc_ck (show i < 262 by omega) (by decide), zc_cl (by omega), zc_lt, hB.2.2.1.2.2 i (by omega)]
  have := zf_for (A := Int32 × zx_S) (L := fun n p q => zX_Values_fillChoice_L10 (nI i) (s 13 b) (fun v3_8 s9 => zx_ck (nI i) 261 <| if s9 20 i = (0 : Int32) then zx_ck v3_8 530 <| zx_ls (zx_su s9 25 (v3_8).toNatClampNeg (0 : Int32)) fun s10 => some s10 else some s9) n q.1 p q.2) (k := fun q => (fun v3_8 s9 => zx_ck (nI i) 261 <| if s9 20 i = (0 : Int32) then zx_ck v3_8 530 <| zx_ls (zx_su s9 25 (v3_8).toNatClampNeg (0 : Int32)) fun s10 => some s10 else some s9) q.1 q.2) 16 (fun p q => q.1 = nI (zt (zt_c t) i + zq_np P nb b p) ∧ (∀ p', p' < p → zq_pr P nb b p' → q.2 25 (zt (zt_c t) i + zq_np P nb b p') = nI (zq_En P nb sz p' v)) ∧ ∀ c j, (c ≠ 25 ∨ ∀ j', j' < zt_c t i → j ≠ zt (zt_c t) i + j') → q.2 c j = s c j) (fun n q _ => by
    show zX_Values_fillChoice_L10 (nI i) (s 13 b) _ (n + 1) q.1 (nI 16) q.2 = _
    rw [zX_Values_fillChoice_L10, if_pos (by decide)]) (fun n p q hp hq => by
    obtain ⟨v3, u⟩ := q
    obtain ⟨g1, g2, g3⟩ := hq
    dsimp only at g1 g2 g3
    subst g1
    show ∃ a' : Int32 × zx_S, _ ∧ zX_Values_fillChoice_L10 (nI i) (s 13 b) _ (n + 1) (nI (zt (zt_c t) i + zq_np P nb b p)) (nI p) u = zX_Values_fillChoice_L10 (nI i) (s 13 b) _ n a'.1 (nI (p + 1)) a'.2
    rw [zX_Values_fillChoice_L10, if_neg (by rw [show (16 : Int32) = nI 16 by decide, nI_leI (by omega) (by omega)]; omega), zX_isIn_eq _ (show p < 32 by omega), zc_b1, zi_isin]
    simp only [zi_0, zc_lt, nI_1]
    have stp : zq_np P nb b (p + 1) = zq_np P nb b p + (if zp (zq_pr P nb b p) then 1 else 0) := rfl
    by_cases c1 : zb (s 13 b) p = false
    · rw [if_pos c1]
      have hno : ¬ zq_pr P nb b p := fun z => by rw [(g13.2 p).mpr z] at c1; cases c1
      refine ⟨(_, u), ⟨by dsimp only; rw [stp, zp_f.mpr hno]; rfl, fun p' hp' hpr => g2 p' (by have : p' ≠ p := (fun e => hno (e ▸ hpr)); omega) hpr, g3⟩, rfl⟩
    · rw [if_neg c1]
      have hpr : zq_pr P nb b p := (g13.2 p).mp (by simpa using c1)
      have hpn := hpr.1.1
      have hlt : zq_np P nb b p < zt_c t i := by
        rw [tb.2.2.2.1]
        have : zq_np P nb b p < zq_np P nb b nb := zn_in hpn (zp_t.mpr hpr)
        unfold zq_no; omega
      have f5 := h.foj hW hT hlt
      have hv := hC.2.1
      rw [zc_ck (show i < 261 by omega) (by decide), zc_cl (by omega), g3 21 i (Or.inl (by decide)), e21.2.2.1, nI_x10, nI_add, zc_ck (show 10 * p + v < 160 by omega) (by decide), zc_cl (show 10 * p + v < 2 ^ 31 by omega), g3 32 _ (Or.inl (by decide)), (hD p hpr.1).1 v hv, zc_ck f5 (by decide), zc_cl (show zt (zt_c t) i + zq_np P nb b p < 2 ^ 31 by omega), zc_ls]
      refine ⟨(nI (zt (zt_c t) i + zq_np P nb b p + 1), zx_su u 25 (zt (zt_c t) i + zq_np P nb b p) (nI (zq_En P nb sz p v))), ⟨by dsimp only; rw [stp, zp_t.mpr hpr]; rfl, fun p' hp' hpr' => ?_, fun c j hc => ?_⟩, rfl⟩
      · by_cases e : p' = p
        · rw [e]; exact zs_eq u 25 _ _
        · have hne : zq_np P nb b p' ≠ zq_np P nb b p := fun z => e (zn_inj (f := fun p => zp (zq_pr P nb b p)) (zp_t.mpr hpr') (zp_t.mpr hpr) z)
          show zx_su u 25 _ _ 25 _ = _
          rw [zs_ne (Or.inr (by omega))]; exact g2 p' (by omega) hpr'
      · show zx_su u 25 _ _ c j = _
        rw [zs_ne (hc.imp_right (fun z => z _ hlt))]; exact g3 c j hc) (i := 0) (n := 10000) (Nat.zero_le _) (a := (nI (zt (zt_c t) i), s)) ⟨rfl, fun p' hp' => by omega, fun _ _ _ => rfl⟩ (by decide)
  rw [nI_0] at this
  obtain ⟨⟨v3, u⟩, ⟨a1, a2, a3⟩, a4⟩ := this
  dsimp only at a1 a2 a3 a4
  subst a1
  rw [a4, zc_ck (show i < 261 by omega) (by decide), a3 20 i (Or.inl (by decide)), e21.2.1]
  have np16 : zq_np P nb b 16 = zq_np P nb b nb := by
    have := zb_cnt hnb g13.2 (fun p hp => hp.1.1)
    unfold zq_np
    rw [← this]
    apply zn_congr
    intro p _
    by_cases q : zq_pr P nb b p
    · rw [zp_t.mpr q, (g13.2 p).mpr q]
    · rw [zp_f.mpr q, zb_t.mpr (fun z => q ((g13.2 p).mp z))]
  by_cases q : b = 0
  · have hlt : zq_np P nb b 16 < zt_c t i := by
      rw [tb.2.2.2.1, np16]
      unfold zq_no
      rw [if_pos q]; omega
    have f5 := h.foj hW hT hlt
    rw [if_pos (by rw [q]; exact nI_0), zc_ck f5 (by decide), zc_cl (show zt (zt_c t) i + zq_np P nb b 16 < 2 ^ 31 by omega), zc_ls]
    refine ⟨_, ⟨fun j hj => ?_, fun c j hc => by rw [zs_ne (hc.imp_right (fun z => z _ hlt))]; exact a3 c j hc⟩, rfl⟩
    rw [tb.2.2.2.1] at hj
    rcases zq_no_ex hj with ⟨p, p1, p2, p3⟩ | ⟨p1, p2⟩
    · have : zq_np P nb b p < zq_np P nb b nb := zn_in p1 (zp_t.mpr p2)
      rw [← p3, zs_ne (Or.inr (by omega)), a2 p (by omega) p2, tb.2.2.2.2.1 p p2]
    · rw [p2, tb.2.2.2.2.2 p1, np16, zs_eq]; exact nI_0.symm
  · rw [if_neg (fun z => q (nI_inj (by omega) (by omega) (z.trans nI_0.symm)))]
    refine ⟨u, ⟨fun j hj => ?_, a3⟩, rfl⟩
    rw [tb.2.2.2.1] at hj
    rcases zq_no_ex hj with ⟨p, p1, p2, p3⟩ | ⟨p1, p2⟩
    · rw [← p3, a2 p (by omega) p2, tb.2.2.2.2.1 p p2]
    · exact absurd p1 q
end XM
