/-! PURE: the class's fillChoices, Values.make -/
section XO
variable {P : zx_S} {nb : Nat} {sz : Nat → Nat} {t : zc_Tb}
/-- but for row 25 at places of CHOICES -/
def zX_F25 (P : zx_S) (nb : Nat) (sz : Nat → Nat) (t : zc_Tb) (s s' : zx_S) : Prop := (∀ c i, c ≠ 25 → s' c i = s c i) ∧ ∀ i b k, zq_isN P nb sz i b k → zX_Fo t i s → zX_Fo t i s'
theorem zX_Bk.f25 {s s' : zx_S} {b : Nat} (h : zX_Bk P nb sz t b s) (hf : zX_F25 P nb sz t s s') : zX_Bk P nb sz t b s' :=
  ⟨fun v hv => by rw [hf.1 32 _ (by decide)]; exact h.1 v hv, fun k hk h14 => by rw [hf.1 26 _ (by decide)]; exact h.2.1 k hk h14, fun i k hN => hf.2 i b k hN (h.2.2.1 i k hN), by rw [hf.1 27 _ (by decide)]; exact h.2.2.2⟩
theorem zX_fillChoices_L15_spec (hW : zq_WF P nb sz) (h : zq_Tab P nb sz t) (kk : zx_S → Option zx_S) {b : Nat} (hr : zq_rc P nb b) {s : zx_S} (hB : zX_Bs P nb sz t s) (hD : ∀ c, zq_rc P nb c → zX_Bk P nb sz t c s) : ∃ s', (zX_F25 P nb sz t s s' ∧ (∀ i b' v, zq_isC P nb sz i b' v → b' ≠ b → zX_Fo t i s → zX_Fo t i s') ∧ ∀ i v, zq_isC P nb sz i b v → zX_Fo t i s') ∧ zX_Values_fillChoices_L15 (nI b) kk 10000 (nI (zq_st P nb sz b)) s = kk s' := by
  have hnb := hW.2.1
  have hb := hr.1
  have hb16 : b < 16 := by omega
  have h261 := zq_st_261 hW (show b + 1 ≤ nb from hb)
  have hbz := zq_bz_rc (sz := sz) hr
  have hcb : zq_cb P nb sz b ≤ 10 := zn_le _ _
  have hN := hB.2.2.2.1 b hb16 hr
  have := zf_off (L := fun n i u => zX_Values_fillChoices_L15 (nI b) kk n i u) (k := kk) (zq_st P nb sz b) (zq_cb P nb sz b) (fun j u => zX_F25 P nb sz t s u ∧ (∀ i b' v, zq_isC P nb sz i b' v → b' ≠ b → zX_Fo t i s → zX_Fo t i u) ∧ ∀ i v, zq_isC P nb sz i b v → i < zq_st P nb sz b + j → zX_Fo t i u) (fun n u q => by
    show zX_Values_fillChoices_L15 (nI b) kk (n + 1) (nI (zq_st P nb sz b + zq_cb P nb sz b)) u = kk u
    rw [zX_Values_fillChoices_L15, zc_ck hb16 (by decide), zc_ck hb16 (by decide), zc_cl (by omega), q.1.1 29 b (by decide), q.1.1 30 b (by decide), hN.1, hN.2, nI_add, if_pos (Int32.le_refl _)]) (fun n j u hj q => by
    obtain ⟨g1, g2, g3⟩ := q
    show ∃ a', _ ∧ zX_Values_fillChoices_L15 (nI b) kk (n + 1) (nI (zq_st P nb sz b + j)) u = zX_Values_fillChoices_L15 (nI b) kk n (nI (zq_st P nb sz b + j + 1)) a'
    obtain ⟨v, hC⟩ := zq_inC (sz := sz) hr (show zq_st P nb sz b ≤ zq_st P nb sz b + j by omega) (by omega)
    rw [zX_Values_fillChoices_L15, zc_ck hb16 (by decide), zc_ck hb16 (by decide), zc_cl (by omega), g1.1 29 b (by decide), g1.1 30 b (by decide), hN.1, hN.2, nI_add, if_neg (by rw [nI_leI (by omega) (by omega)]; omega), zc_ck hb16 (by decide)]
    obtain ⟨u', ⟨a1, a2⟩, a3⟩ := zX_fillChoice_spec hW h hC (hB.keep (fun c i h1 _ _ _ => g1.1 c i h1)) (fun c hc => (hD c hc).f25 g1)
    rw [a3, zc_b1, zc_lt, nI_1]
    have oth : ∀ i, i ≠ zq_st P nb sz b + j → zX_Fo t i u → zX_Fo t i u' := fun i hi hF j' hj' => by
      rw [a2 25 _ (Or.inr (fun j'' hj'' => zq_fo_ne hj' hj'' hi))]; exact hF j' hj'
    refine ⟨u', ⟨⟨fun c i hc => by rw [a2 c i (Or.inl hc)]; exact g1.1 c i hc, fun i b' k hN' hF => oth i (fun e => by subst e; exact zq_isCN hC hN') (g1.2 i b' k hN' hF)⟩, fun i b' v' hC' hne hF => oth i (fun e => by subst e; exact hne (hC'.uniq hC).1) (g2 i b' v' hC' hne hF), fun i v' hC' hi => ?_⟩, rfl⟩
    by_cases e : i = zq_st P nb sz b + j
    · rw [e]; exact a1
    · exact oth i e (g3 i v' hC' (by omega))) (n := 10000) (a := s) ⟨⟨fun _ _ _ => rfl, fun _ _ _ _ q => q⟩, fun _ _ _ _ _ q => q, fun i v hC hi => by have := hC.lt; omega⟩ (by omega)
  obtain ⟨s', ⟨b1, b2, b3⟩, b4⟩ := this
  exact ⟨s', ⟨b1, b2, fun i v hC => b3 i v hC hC.lt.2⟩, b4⟩
theorem zX_fillChoices_spec (hW : zq_WF P nb sz) (h : zq_Tab P nb sz t) {s : zx_S} (hB : zX_Bs P nb sz t s) (hD : ∀ c, zq_rc P nb c → zX_Bk P nb sz t c s) : ∃ s', (zX_F25 P nb sz t s s' ∧ ∀ i b v, zq_isC P nb sz i b v → zX_Fo t i s') ∧ zX_Values_fillChoices s = some s' := by
  have hnb := hW.2.1
  unfold zX_Values_fillChoices
  have := zf_for (L := fun n i u => zX_Values_fillChoices_L2 (fun s6 => some s6) n i u) (k := fun s6 => some s6) 16 (fun b u => zX_F25 P nb sz t s u ∧ ∀ i b' v, zq_isC P nb sz i b' v → b' < b → zX_Fo t i u) (fun n u _ => by
    show zX_Values_fillChoices_L2 (fun s6 => some s6) (n + 1) (nI 16) u = some u
    rw [zX_Values_fillChoices_L2, if_pos (by decide)]) (fun n b u hb q => by
    obtain ⟨g1, g2⟩ := q
    show ∃ a', _ ∧ zX_Values_fillChoices_L2 (fun s6 => some s6) (n + 1) (nI b) u = zX_Values_fillChoices_L2 (fun s6 => some s6) n (nI (b + 1)) a'
    rw [zX_Values_fillChoices_L2, if_neg (by rw [show (16 : Int32) = nI 16 by decide, nI_leI (by omega) (by omega)]; omega), zc_ck hb (by decide), zc_cl (by omega), zc_lt]
    by_cases hr : zq_rc P nb b
    · rw [g1.1 29 b (by decide), (hB.2.2.2.1 b hb hr).1]
      obtain ⟨u', ⟨a1, a2, a3⟩, a4⟩ := zX_fillChoices_L15_spec hW h (fun s4 => zx_lt (nI b + (1 : Int32)) fun v2_5 => zX_Values_fillChoices_L2 (fun s6 => some s6) n v2_5 s4) hr (hB.keep (fun c i h1 _ _ _ => g1.1 c i h1)) (fun c hc => (hD c hc).f25 g1)
      rw [a4, zc_lt, nI_1]
      refine ⟨u', ⟨⟨fun c i hc => by rw [a1.1 c i hc]; exact g1.1 c i hc, fun i b' k hN hF => a1.2 i b' k hN (g1.2 i b' k hN hF)⟩, fun i b' v hC hb' => ?_⟩, rfl⟩
      by_cases e : b' = b
      · rw [e] at hC; exact a3 i v hC
      · exact a2 i b' v hC e (g2 i b' v hC (by omega))
    · have e30 := hB.2.2.2.2.1 b hb (Or.inr hr)
      rw [zX_Values_fillChoices_L15, zc_ck hb (by decide), zc_ck hb (by decide), zc_cl (by omega), g1.1 30 b (by decide), e30, if_pos (by rw [Int32.add_zero]; exact Int32.le_refl _), zc_lt, nI_1]
      refine ⟨u, ⟨g1, fun i b' v hC hb' => g2 i b' v hC (by have : b' ≠ b := (fun e => hr (e ▸ hC.1)); omega)⟩, rfl⟩) (i := 0) (n := 10000) (Nat.zero_le _) (a := s) ⟨⟨fun _ _ _ => rfl, fun _ _ _ _ q => q⟩, fun i b' v _ hb' => by omega⟩ (by decide)
  rw [nI_0] at this
  obtain ⟨s', ⟨b1, b2⟩, b3⟩ := this
  exact ⟨s', ⟨b1, fun i b v hC => b2 i b v hC (by have := hC.1.1; omega)⟩, b3⟩
/-- the class's world once Values.make is done -/
def zX_Va (P : zx_S) (nb : Nat) (sz : Nat → Nat) (t : zc_Tb) (s : zx_S) : Prop := zX_Bs P nb sz t s ∧ (∀ c, zq_rc P nb c → zX_Bk P nb sz t c s) ∧ ∀ i, i < zt_T t → zX_Fo t i s
theorem zX_make_spec (hW : zq_WF P nb sz) (hn : 0 < nb) (h : zq_Tab P nb sz t) {s : zx_S} (hP : zX_Pr P nb sz s) (hG : zX_Gr P nb s) (h23 : s 23 0 = 0) : ∃ s', (zX_Va P nb sz t s' ∧ ∀ c i, c < 18 ∨ c = 24 ∨ 32 < c → s' c i = s c i) ∧ zX_Values_make s = some s' := by
  unfold zX_Values_make
  obtain ⟨s1, ⟨a1, a2⟩, a3⟩ := zX_placeChoices_spec hW hP hG
  rw [a3, zc_b1]
  have hP1 : zX_Pr P nb sz s1 := hP.keep (fun c i h1 h2 => a2 c i (by omega))
  have hG1 : zX_Gr P nb s1 := hG.keep (fun c i h1 h2 => a2 c i (by omega))
  obtain ⟨s2, ⟨b1, b2⟩, b3⟩ := zX_numberAll_spec hW hn h hP1 hG1 a1 (by rw [a2 23 0 (by decide)]; exact h23)
  rw [b3, zc_b1]
  have hB : zX_Bs P nb sz t s2 := ⟨hP1.keep (fun c i h1 h2 => b2 c i (by omega)), hG1.keep (fun c i h1 h2 => b2 c i (by omega)), b1⟩
  obtain ⟨s3, ⟨c1, c2⟩, c3⟩ := zX_make_L14_spec hW h (fun s12 => zx_b1 (zX_Values_fillChoices s12) fun s13 => some s13) hB
  rw [c3]
  have hB3 := hB.keep c1
  obtain ⟨s4, ⟨d1, d2⟩, d3⟩ := zX_fillChoices_spec hW h hB3 c2
  rw [d3, zc_b1]
  refine ⟨s4, ⟨⟨hB3.keep (fun c i h1 _ _ _ => d1.1 c i h1), fun c hc => (c2 c hc).f25 d1, fun i hi => ?_⟩, fun c i hc => ?_⟩, rfl⟩
  · rw [h.1] at hi
    rcases zq_cases hi with q | ⟨b, v, q⟩ | ⟨b, k, q⟩
    · intro j hj
      rw [q, h.2.1.2.2.2] at hj; omega
    · exact d2 i b v q
    · exact d1.2 i b k q ((c2 b q.1).2.2.1 i k q)
  · rw [d1.1 c i (by omega), c1 c i (by omega) (by omega) (by omega) (by omega), b2 c i (by omega), a2 c i (by omega)]
/-! no BLOCKS -/
theorem zX_no_rc (h0 : nb = 0) (b : Nat) : ¬ zq_rc P nb b := fun q => by have := q.1; omega
theorem zX_numberAll_spec0 (hnb : nb ≤ 16) (h0 : nb = 0) {s : zx_S} (hG : zX_Gr P nb s) : ∃ s', (s' 18 11 = 0 ∧ (∀ b, b < 16 → s' 30 b = 0) ∧ ∀ c i, c ≠ 18 → c ≠ 28 → c ≠ 30 → s' c i = s c i) ∧ zX_Values_numberAll s = some s' := by
  unfold zX_Values_numberAll
  rw [zc_ls]
  obtain ⟨s1, ⟨a1, a2⟩, a3⟩ := zX_fill_4_eq (zx_su s 18 11 0)
  rw [a3, zc_b1]
  obtain ⟨s2, ⟨b1, b2⟩, b3⟩ := zX_fill_5_eq s1
  rw [b3, zc_b1]
  have fr : ∀ c i, c ≠ 18 → c ≠ 28 → c ≠ 30 → s2 c i = s c i := fun c i h1 h2 h3 => by rw [b2 c i h2, a2 c i h3, zs_ne (Or.inl h1)]
  have rch : ∀ b, b < 2 ^ 31 → zX_Graph_reaches (nI b) s2 = some (zi false) := fun b hb => by
    rw [zX_reaches_eq (P := P) (s := s2) hnb (by rw [fr 11 6 (by decide) (by decide) (by decide)]; exact hG.1) hb, zp_f.mpr (zX_no_rc h0 b)]
  have r0 := rch 0 (by decide)
  rw [nI_0] at r0
  rw [r0, zc_b1, if_pos zi_f]
  unfold zX_Values_numberAll_J38
  have := zf_for (L := fun n i u => zX_Values_numberAll_L40 (fun s10 => some s10) n i u) (k := fun s10 => some s10) 16 (fun _ u => u = s2) (fun n u _ => by
    show zX_Values_numberAll_L40 (fun s10 => some s10) (n + 1) (nI 16) u = some u
    rw [zX_Values_numberAll_L40, if_pos (by decide)]) (fun n b u hb q => by
    show ∃ a', _ ∧ zX_Values_numberAll_L40 (fun s10 => some s10) (n + 1) (nI b) u = zX_Values_numberAll_L40 (fun s10 => some s10) n (nI (b + 1)) a'
    rw [zX_Values_numberAll_L40, if_neg (by rw [show (16 : Int32) = nI 16 by decide, nI_leI (by omega) (by omega)]; omega), q, rch b (by omega), zc_b1, if_pos zi_f, zc_lt, nI_1]
    exact ⟨s2, rfl, rfl⟩) (i := 0) (n := 10000) (Nat.zero_le _) (a := s2) rfl (by decide)
  rw [nI_0] at this
  obtain ⟨s', e, h3⟩ := this
  subst e
  exact ⟨s', ⟨by rw [b2 18 11 (by decide), a2 18 11 (by decide), zs_eq], fun b hb => by rw [b2 30 b (by decide)]; exact a1 b hb, fr⟩, h3⟩
theorem zX_make_spec0 (hW : zq_WF P nb sz) (h0 : nb = 0) {s : zx_S} (hP : zX_Pr P nb sz s) (hG : zX_Gr P nb s) : ∃ s', (s' 18 11 = 0 ∧ (∀ b, b < 16 → s' 30 b = 0) ∧ ∀ c i, c ≠ 18 → c ≠ 28 → c ≠ 30 → c ≠ 31 → s' c i = s c i) ∧ zX_Values_make s = some s' := by
  have hnb := hW.2.1
  unfold zX_Values_make
  obtain ⟨s1, ⟨a1, a2⟩, a3⟩ := zX_placeChoices_spec hW hP hG
  rw [a3, zc_b1]
  have hG1 : zX_Gr P nb s1 := hG.keep (fun c i h1 h2 => a2 c i (by omega))
  obtain ⟨s2, ⟨b1, b2, b3⟩, b4⟩ := zX_numberAll_spec0 hnb h0 hG1
  rw [b4, zc_b1]
  have rch : ∀ b, b < 2 ^ 31 → zX_Graph_reaches (nI b) s2 = some (zi false) := fun b hb => by
    rw [zX_reaches_eq (P := P) (s := s2) hnb (by rw [b3 11 6 (by decide) (by decide) (by decide)]; exact hG1.1) hb, zp_f.mpr (zX_no_rc h0 b)]
  have l23 : ∀ (kk : zx_S → Option zx_S) (d : Int32), zX_Values_make_L23 d kk 10000 0 s2 = kk s2 := fun kk d => by
    have := zf_for (L := fun n i u => zX_Values_make_L23 d kk n i u) (k := kk) 16 (fun _ u => u = s2) (fun n u _ => by
      show zX_Values_make_L23 d kk (n + 1) (nI 16) u = kk u
      rw [zX_Values_make_L23, if_pos (by decide)]) (fun n b u hb q => by
      show ∃ a', _ ∧ zX_Values_make_L23 d kk (n + 1) (nI b) u = zX_Values_make_L23 d kk n (nI (b + 1)) a'
      rw [zX_Values_make_L23, if_neg (by rw [show (16 : Int32) = nI 16 by decide, nI_leI (by omega) (by omega)]; omega), q, rch b (by omega), zc_b1, if_pos zi_f, zc_lt, nI_1]
      exact ⟨s2, rfl, rfl⟩) (i := 0) (n := 10000) (Nat.zero_le _) (a := s2) rfl (by decide)
    rw [nI_0] at this
    obtain ⟨s', e, h3⟩ := this
    rw [h3, e]
  have l14 : ∀ kk : zx_S → Option zx_S, zX_Values_make_L14 kk 10000 1 s2 = kk s2 := fun kk => by
    have := zf_off (L := fun n i u => zX_Values_make_L14 kk n i u) (k := kk) 1 16 (fun _ u => u = s2) (fun n u _ => by
      show zX_Values_make_L14 kk (n + 1) (nI 17) u = kk u
      rw [zX_Values_make_L14, if_pos (by decide)]) (fun n d u hd q => by
      show ∃ a', _ ∧ zX_Values_make_L14 kk (n + 1) (nI (1 + d)) u = zX_Values_make_L14 kk n (nI (1 + d + 1)) a'
      rw [zX_Values_make_L14, if_neg (by rw [show (16 : Int32) = nI 16 by decide, nI_ltI (by omega) (by omega)]; omega), q, l23, zc_lt, nI_1]
      exact ⟨s2, rfl, rfl⟩) (n := 10000) (a := s2) rfl (by decide)
    rw [show nI 1 = (1 : Int32) by decide] at this
    obtain ⟨s', e, h3⟩ := this
    rw [h3, e]
  rw [l14]
  unfold zX_Values_fillChoices
  have := zf_for (L := fun n i u => zX_Values_fillChoices_L2 (fun s6 => some s6) n i u) (k := fun s6 => some s6) 16 (fun _ u => u = s2) (fun n u _ => by
    show zX_Values_fillChoices_L2 (fun s6 => some s6) (n + 1) (nI 16) u = some u
    rw [zX_Values_fillChoices_L2, if_pos (by decide)]) (fun n b u hb q => by
    show ∃ a', _ ∧ zX_Values_fillChoices_L2 (fun s6 => some s6) (n + 1) (nI b) u = zX_Values_fillChoices_L2 (fun s6 => some s6) n (nI (b + 1)) a'
    rw [zX_Values_fillChoices_L2, if_neg (by rw [show (16 : Int32) = nI 16 by decide, nI_leI (by omega) (by omega)]; omega), zc_ck hb (by decide), zc_cl (by omega), zc_lt, q, zX_Values_fillChoices_L15, zc_ck hb (by decide), zc_ck hb (by decide), zc_cl (by omega), b2 b hb, if_pos (by rw [Int32.add_zero]; exact Int32.le_refl _), zc_lt, nI_1]
    exact ⟨s2, rfl, rfl⟩) (i := 0) (n := 10000) (Nat.zero_le _) (a := s2) rfl (by decide)
  rw [nI_0] at this
  obtain ⟨s', e, h3⟩ := this
  subst e
  rw [h3, zc_b1]
  exact ⟨s', ⟨b1, b2, fun c i h1 h2 h3 h4 => by rw [b3 c i h1 h2 h3, a2 c i h4]⟩, rfl⟩
end XO
