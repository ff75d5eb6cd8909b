/-! PURE: RUN: LED, the class -/
section Rl
variable {P : zx_S} {nb : Nat} {sz : Nat → Nat} {t : zc_Tb}
theorem zX_goes_l (hW : zq_WF P nb sz) (hn : 0 < nb) (h : zq_Tab P nb sz t) {s : zx_S} (hs : zX_Ca P nb sz t s) {v : Nat} (hv : v < zt_T t) : zX_ValueForm_goes_2 (nI v) s = some (zi (zp ((zq_rd P nb t) v))) := by
  have hT := (h.H hW hn).2.2.2.2
  unfold zX_ValueForm_goes_2
  rw [zc_ck (show v < 261 by omega) (by decide), zc_cl (show v < 2 ^ 31 by omega), (hs.2.2.1 hn).2.1.1 v hv]
  by_cases c : zq_rd P nb t v
  · rw [zp_t.mpr c]; rfl
  · rw [zp_f.mpr c]; rfl
theorem zX_opc_l (hn : 0 < nb) {s : zx_S} (hs : zX_Ca P nb sz t s) {v j : Nat} (hv : v < zt_T t) (hr : ¬ (zq_rd P nb t) v) (hj : j < zt_c t v) : s 39 (zt (zt_c t) v + j) = nI ((zq_lo P nb t) v j) := (hs.2.2.1 hn).2.1.2.2.1 v j hv hr hj
theorem zX_begin_l (hW : zq_WF P nb sz) (hn : 0 < nb) (h : zq_Tab P nb sz t) {s : zx_S} (hs : zX_Ca P nb sz t s) {b m : Nat} (hb : zq_rc P nb b) (hm : ∀ v x, zq_isC P nb sz v b x → m < zt_c t v ∧ (zq_lo P nb t) v m < 261) : ∃ s', ((∀ c i, c ≠ 48 → c ≠ 49 → s' c i = s c i) ∧ (∀ v x, zq_isC P nb sz v b x → ¬ (zq_rd P nb t) v → s' 48 v = s 48 ((zq_lo P nb t) v m)) ∧ ∀ w, (∀ x, ¬ zq_isC P nb sz w b x) → s' 48 w = s 48 w) ∧ zX_ValueForm_begin_2_J51 (nI (zq_cb P nb sz b)) (nI (zq_st P nb sz b)) (nI m) s = some s' := by
  have hnb := hW.2.1
  have hbn := hb.1
  have hH := h.Ht hW hn
  have hT := hH.1.2.2.2.2
  have hcb : zq_cb P nb sz b ≤ 10 := zn_le _ _
  have keepC : ∀ u : zx_S, (∀ c i, c ≠ 48 → c ≠ 49 → u c i = s c i) → zX_Ca P nb sz t u := fun u hu => hs.keep (fun c i _ q => hu c i (by omega) (by omega))
  have isc : ∀ j, j < zq_cb P nb sz b → ∃ x, zq_isC P nb sz (zq_st P nb sz b + j) b x := fun j hj => zq_inC hb (by omega) (by omega)
  unfold zX_ValueForm_begin_2_J51
  have l1 := zf_for (L := fun n i u => zX_ValueForm_begin_2_L56 (nI (zq_cb P nb sz b)) (nI (zq_st P nb sz b)) (nI m) (fun s9 => zX_ValueForm_begin_2_L119 (nI (zq_cb P nb sz b)) (nI (zq_st P nb sz b)) (fun s15 => some s15) 10000 (0 : Int32) s9) n i u) (k := fun s9 => zX_ValueForm_begin_2_L119 (nI (zq_cb P nb sz b)) (nI (zq_st P nb sz b)) (fun s15 => some s15) 10000 (0 : Int32) s9) (zq_cb P nb sz b) (fun j u => (∀ c i, c ≠ 49 → u c i = s c i) ∧ ∀ i, i < j → ¬ (zq_rd P nb t) (zq_st P nb sz b + i) → u 49 i = s 48 ((zq_lo P nb t) (zq_st P nb sz b + i) m)) (fun n u _ => by
    show zX_ValueForm_begin_2_L56 _ _ _ _ (n + 1) (nI (zq_cb P nb sz b)) u = _
    rw [zX_ValueForm_begin_2_L56, if_pos (Int32.le_refl _)]) (fun n j u hj q => by
    show ∃ a', _ ∧ zX_ValueForm_begin_2_L56 _ _ _ _ (n + 1) (nI j) u = zX_ValueForm_begin_2_L56 _ _ _ _ n (nI (j + 1)) a'
    obtain ⟨x, hc⟩ := isc j hj
    have hv := zm_ic hW h hc
    obtain ⟨m1, m2⟩ := hm _ x hc
    have uC := keepC u (fun c i _ h2 => q.1 c i h2)
    have fj := hH.foj hv m1
    rw [zX_ValueForm_begin_2_L56, if_neg (by rw [nI_leI (by omega) (by omega)]; omega)]
    simp only [nI_add, zX_goes_l hW hn h uC hv, zc_b1, zi_0, zc_lt, zc_ls, nI_1, zc_ck (show zq_st P nb sz b + j < 262 by omega) (by decide), zc_cl (show zq_st P nb sz b + j < 2 ^ 31 by omega), (uC.2.2.1 hn).1.2.1.2.2.1 (zq_st P nb sz b + j) (by omega), zc_ck fj (by decide), zc_cl (show zt (zt_c t) (zq_st P nb sz b + j) + m < 2 ^ 31 by omega), zc_ck (show j < 10 by omega) (by decide), zc_cl (show j < 2 ^ 31 by omega)]
    by_cases c : (zq_rd P nb t) (zq_st P nb sz b + j)
    · rw [if_neg (by rw [zp_t.mpr c]; decide)]
      refine ⟨u, ⟨q.1, fun i h1 h2 => ?_⟩, rfl⟩
      by_cases e : i = j
      · rw [e] at h2; exact absurd c h2
      · exact q.2 i (by omega) h2
    · rw [if_pos (zp_f.mpr c), zX_opc_l hn uC hv c m1, zc_ck m2 (by decide), zc_cl (Nat.lt_of_lt_of_le m2 (by decide)), q.1 48 _ (by decide)]
      refine ⟨_, ⟨fun c i hc => by rw [zs_ne (Or.inl hc)]; exact q.1 c i hc, fun i h1 h2 => ?_⟩, rfl⟩
      by_cases e : i = j
      · rw [e, zs_eq]
      · rw [zs_ne (Or.inr e)]; exact q.2 i (by omega) h2) (i := 0) (n := 10000) (Nat.zero_le _) (a := s) ⟨fun _ _ _ => rfl, fun i h1 => by omega⟩ (by omega)
  rw [nI_0] at l1
  obtain ⟨s1, ⟨a1, a2⟩, a3⟩ := l1
  rw [a3]
  have l2 := zf_for (L := fun n i u => zX_ValueForm_begin_2_L119 (nI (zq_cb P nb sz b)) (nI (zq_st P nb sz b)) (fun s15 => some s15) n i u) (k := fun s15 => some s15) (zq_cb P nb sz b) (fun j u => (∀ c i, c ≠ 48 → u c i = s1 c i) ∧ (∀ i, i < j → ¬ (zq_rd P nb t) (zq_st P nb sz b + i) → u 48 (zq_st P nb sz b + i) = s1 49 i) ∧ ∀ w, (∀ i, i < j → w ≠ zq_st P nb sz b + i) → u 48 w = s1 48 w) (fun n u _ => by
    show zX_ValueForm_begin_2_L119 _ _ _ (n + 1) (nI (zq_cb P nb sz b)) u = _
    rw [zX_ValueForm_begin_2_L119, if_pos (Int32.le_refl _)]) (fun n j u hj q => by
    show ∃ a', _ ∧ zX_ValueForm_begin_2_L119 _ _ _ (n + 1) (nI j) u = zX_ValueForm_begin_2_L119 _ _ _ n (nI (j + 1)) a'
    obtain ⟨x, hc⟩ := isc j hj
    have hv := zm_ic hW h hc
    have uC := keepC u (fun c i h1 h2 => by rw [q.1 c i h1]; exact a1 c i h2)
    rw [zX_ValueForm_begin_2_L119, if_neg (by rw [nI_leI (by omega) (by omega)]; omega)]
    simp only [nI_add, zX_goes_l hW hn h uC hv, zc_b1, zi_0, zc_lt, zc_ls, nI_1, zc_ck (show zq_st P nb sz b + j < 261 by omega) (by decide), zc_cl (show zq_st P nb sz b + j < 2 ^ 31 by omega), zc_ck (show j < 10 by omega) (by decide), zc_cl (show j < 2 ^ 31 by omega)]
    by_cases c : (zq_rd P nb t) (zq_st P nb sz b + j)
    · rw [if_neg (by rw [zp_t.mpr c]; decide)]
      refine ⟨u, ⟨q.1, fun i h1 h2 => ?_, fun w hw => q.2.2 w (fun i h1 => hw i (by omega))⟩, rfl⟩
      by_cases e : i = j
      · rw [e] at h2; exact absurd c h2
      · exact q.2.1 i (by omega) h2
    · rw [if_pos (zp_f.mpr c), q.1 49 _ (by decide)]
      refine ⟨_, ⟨fun c i hc => by rw [zs_ne (Or.inl hc)]; exact q.1 c i hc, fun i h1 h2 => ?_, fun w hw => ?_⟩, rfl⟩
      · by_cases e : i = j
        · rw [e, zs_eq]
        · rw [zs_ne (Or.inr (by omega))]; exact q.2.1 i (by omega) h2
      · rw [zs_ne (Or.inr (hw j (by omega)))]; exact q.2.2 w (fun i h1 => hw i (by omega))) (i := 0) (n := 10000) (Nat.zero_le _) (a := s1) ⟨fun _ _ _ => rfl, fun i h1 => by omega, fun _ _ => rfl⟩ (by omega)
  rw [nI_0] at l2
  obtain ⟨s2, ⟨c1, c2, c3⟩, c4⟩ := l2
  refine ⟨s2, ⟨fun c i h1 h2 => by rw [c1 c i h1, a1 c i h2], fun v x hc hr => ?_, fun w hw => ?_⟩, c4⟩
  · have hl := hc.lt
    obtain ⟨j, rfl⟩ : ∃ j, v = zq_st P nb sz b + j := ⟨v - zq_st P nb sz b, by omega⟩
    rw [c2 j (by omega) hr, a2 j (by omega) hr]
  · rw [c3 w (fun i hi e => by obtain ⟨x, hc⟩ := isc i hi; exact hw x (e ▸ hc)), a1 48 w (by decide)]
theorem zG_B_l (hW : zq_WF P nb sz) (hn : 0 < nb) (h : zq_Tab P nb sz t) : zG_B P nb sz t 2 zX_ValueForm_begin_2 (zV_v P nb sz (zq_rd P nb t) 48) := by
  have hnb := hW.2.1
  have hF : zG_fm P nb t 2 (zq_rd P nb t) (zq_lo P nb t) (zq_Ld P nb t) := Or.inr ⟨rfl, rfl, rfl, rfl⟩
  have hO := hF.O hW hn h
  have h261 := zq_st_261 hW (Nat.le_refl nb)
  intro b fr f u σ τ hb hC hE
  have hbn := hb.1
  have hX := hC.1.1
  have hNr := ((hX.2.2.1 hn).1.1.1.2.2).2.1 b (by omega) hb
  have h13 := hX.2.1.2.1 b (by omega)
  rw [if_neg (by decide)]
  have key : ∃ m, ((fr = -1 ∧ b = 0 ∧ m = zq_np P nb b nb) ∨ ∃ p, fr = nI p ∧ zq_pr P nb b p ∧ m = zq_np P nb b p) ∧ zX_ValueForm_begin_2 fr (nI b) σ = zX_ValueForm_begin_2_J51 (nI (zq_cb P nb sz b)) (nI (zq_st P nb sz b)) (nI m) σ := by
    unfold zX_ValueForm_begin_2
    rw [zc_ck (show b < 16 by omega) (by decide), zc_cl (show b < 2 ^ 31 by omega), zc_lt, zc_ck (show b < 16 by omega) (by decide), zc_lt, zc_ck (show b < 16 by omega) (by decide), zc_lt, hNr.1, hNr.2]
    rcases hE with ⟨e1, e2, -⟩ | ⟨p, e1, e2, -⟩
    · refine ⟨zq_np P nb b nb, Or.inl ⟨e1, e2, rfl⟩, ?_⟩
      rw [if_pos e1, zX_bitCount_eq h13.1, zc_b1, zq_np_16 hnb h13.2]
    · have := e2.1.1
      refine ⟨zq_np P nb b p, Or.inr ⟨p, e1, e2, rfl⟩, ?_⟩
      rw [e1, if_neg (nI_nm1 (by omega)), zX_placeIn_eq h13.1 h13.2 (by omega), zc_b1]
  obtain ⟨m, hfr, hbg⟩ := key
  have hm : ∀ v x, zq_isC P nb sz v b x → m < zt_c t v ∧ (zq_lo P nb t) v m < 261 := fun v x q => by
    have ec := (h.2.2.1 v b x q).2.2.2.1
    rcases hfr with ⟨-, e2, e3⟩ | ⟨p, -, e2, e3⟩
    · subst e2
      rw [e3, hO.2.2.1 v x q, ec]
      exact ⟨by unfold zq_no; rw [if_pos rfl]; omega, by decide⟩
    · have := zq_np_lt e2
      rw [e3, ec]
      exact ⟨by unfold zq_no; omega, Nat.lt_of_lt_of_le ((hO.2.1 v b x p q e2).1.lt hn) h261⟩
  obtain ⟨σ', ⟨x1, x2, x3⟩, x4⟩ := zX_begin_l hW hn h hX hb hm
  obtain ⟨τ', ⟨y1, y2, y3⟩, y4⟩ := zM_chooses_spec hW hn h hF hC.1.2.2.1 hC.1.2.2.2.1 hb hfr
  have hcc : σ' 48 0 = σ 48 0 := x3 0 (fun x => zq_notC0)
  refine ⟨σ', τ', by rw [hbg, x4], y4, hC.keep (fun c i h1 h2 h3 h4 h5 _ => ?_) (fun c i _ _ h1 h2 _ => y1 c i h1 h2), x1 50 7 (by decide) (by decide), y1 0 38 (by decide) (by decide), ?_⟩
  · by_cases e : c = 48
    · have e0 : i = 0 := by omega
      rw [e, e0]; exact hcc
    · exact x1 c i e (by omega)
  · refine zV_v.enter hO (fr := fr) (σ := σ) (τ := τ) (m := m) ?_ hC.2.2.2.2.2.1 ?_ ?_ (τ0 := zx_su τ 33 0 0) (fun w hw => zs_ne (Or.inr hw)) (zs_eq _ _ _ _) x2 x3 y2 y3
    · rcases hE with ⟨e1, e2, -⟩ | q
      · exact Or.inl ⟨e1, e2⟩
      · exact Or.inr q
    · intro z1 z2
      rcases hfr with ⟨-, -, e3⟩ | ⟨p, e1, e2, e3⟩
      · exact e3
      · have := e2.1.1
        exact absurd (e1.symm.trans z1) (nI_nm1 (by omega))
    · intro p z1 z2
      have := z2.1.1
      rcases hfr with ⟨e1, -, -⟩ | ⟨p', e1, e2, e3⟩
      · exact absurd (z1.symm.trans e1) (nI_nm1 (by omega))
      · have := e2.1.1
        rw [e3, nI_inj (by omega) (by omega) (e1.symm.trans z1)]
theorem zG_E_l (hW : zq_WF P nb sz) (hn : 0 < nb) (h : zq_Tab P nb sz t) : zG_E P nb sz t 2 zX_ValueForm_endCell_2 261 48 (zV_v P nb sz (zq_rd P nb t) 48) := by
  have hnb := hW.2.1
  have hF : zG_fm P nb t 2 (zq_rd P nb t) (zq_lo P nb t) (zq_Ld P nb t) := Or.inr ⟨rfl, rfl, rfl, rfl⟩
  have hO := hF.O hW hn h
  have h261 := zq_st_261 hW (Nat.le_refl nb)
  intro b f u m σ τ hb hj hC hV
  have hbn := hb.1
  have y2 := (zM_yOf_eq hW hC.1.2.2.1 hb.1 hj).2
  have ah := hO.2.2.2 _ b (sz b) hb (hW.2.2.1 b hb.1).2 (zq_Ah.en hW hb y2)
  have hX := hC.1.1.2.2.1 hn
  refine ⟨(zq_Ld P nb t) (zq_En P nb sz b (zq_ev P b)) b, Nat.lt_of_lt_of_le (ah.1.lt hn) h261, ?_, fun K => ?_⟩
  · unfold zX_ValueForm_endCell_2
    rw [zc_ck (show b < 16 by omega) (by decide), zc_cl (show b < 2 ^ 31 by omega), (hX.2.1.2.2.2 b hb).2, if_neg hj]
  · rw [zM_en_eq hW hn h hF hC.1.2.2.1 hC.1.2.2.2.1 hb hj, hV _ ah.1 ah.2]
theorem zG_H_l (hW : zq_WF P nb sz) (hn : 0 < nb) (h : zq_Tab P nb sz t) : zG_H P nb sz t 2 zX_ValueForm_keeps_2 zX_Machine_follow_3 (zq_kp P nb sz (zq_rd P nb t)) (zV_v P nb sz (zq_rd P nb t) 48) := by
  have hnb := hW.2.1
  have hF : zG_fm P nb t 2 (zq_rd P nb t) (zq_lo P nb t) (zq_Ld P nb t) := Or.inr ⟨rfl, rfl, rfl, rfl⟩
  have hO := hF.O hW hn h
  have hH := h.Ht hW hn
  have hT := hH.1.2.2.2.2
  have h261 := zq_st_261 hW (Nat.le_refl nb)
  have row : ∀ {σ : zx_S} {b k : Nat}, zX_Ca P nb sz t σ → zq_rc P nb b → k < sz b → (zq_iv P b k = true → σ 28 (zt sz b + k) = nI (zq_ii P nb sz b k)) ∧ (zq_iv P b k = false → σ 28 (zt sz b + k) = -1) := fun {σ b k} hX hb hk => by
    have := hb.1
    have hNr := (hX.2.2.1 hn).1.1.1.2.2
    exact ⟨fun q => hNr.2.2.2.1 b k (by omega) hb hk q, fun q => hNr.2.2.2.2 b k hk (Or.inr (Or.inr q))⟩
  refine ⟨fun b k f u m σ τ hb hk hC => ⟨?_, zM_costs_eq hW h hF hC.1.2.2.1 hC.1.2.2.2.1 hb hk⟩, fun b k σ τ _ _ q hV => hV.kp q, ?_, fun b k σ τ σ' τ' hV h1 h2 => hV.keep (fun i => h1 48 i (by decide)) (fun i => h2 33 i (by decide))⟩
  · have hbn := hb.1
    have hp := (hC.1.1.1.2.bnd hW hk).2
    obtain ⟨r1, r2⟩ := row hC.1.1 hb hk
    have g3 := (hC.1.1.1.2.2.2 b k hbn hk).1
    unfold zX_ValueForm_keeps_2 zq_kp
    rw [zc_ck hp (by decide), zc_cl (show zt sz b + k < 2 ^ 31 by omega), zc_lt]
    by_cases c2 : P 1 (100 * b + k) = 2
    · have iv : zq_iv P b k = false := by
        cases q : zq_iv P b k with
        | false => rfl
        | true => exact absurd c2 ((zm_iv P b k).mp q).1
      rw [r2 iv, if_pos rfl, zc_ck hp (by decide), g3, if_neg (by rw [c2]; decide), if_pos c2]; rfl
    · by_cases c14 : P 1 (100 * b + k) = 14
      · have iv : zq_iv P b k = false := by
          cases q : zq_iv P b k with
          | false => rfl
          | true => exact absurd c14 ((zm_iv P b k).mp q).2
        rw [r2 iv, if_pos rfl, zc_ck hp (by decide), g3, if_pos c14, if_neg c2, if_pos c14]; rfl
      · have iv := (zm_iv P b k).mpr ⟨c2, c14⟩
        have q : zq_isN P nb sz (zq_ii P nb sz b k) b k := ⟨hb, hk, iv, rfl⟩
        have hv := zm_ii hW h q
        rw [r1 iv, if_neg (nI_nm1 (by omega)), zX_goes_l hW hn h hC.1.1 hv, zc_b1, if_neg c2, if_neg c14]
        by_cases c : (zq_rd P nb t) (zq_ii P nb sz b k)
        · rw [zp_t.mpr c, zp_f.mpr (fun z => z c)]; rfl
        · rw [zp_f.mpr c, zp_t.mpr c]; rfl
  · intro b k f u σ τ hb hk hkp hC hV
    have hbn := hb.1
    have hp := (hC.1.1.1.2.bnd hW hk).2
    have hsz := (hW.2.2.1 b hbn).2
    have hX := hC.1.1
    obtain ⟨r1, r2⟩ := row hX hb hk
    obtain ⟨g3, g4, g5, g6⟩ := hX.1.2.2.2 b k hbn hk
    obtain ⟨kd, kd1, kd2, ⟨x, x1, x2⟩, w1, w2, w3⟩ := hW.2.2.2.2.1 b k hbn hk
    obtain ⟨l0, l1, l2, l14, -⟩ := nI_lit kd1
    have c2 : ¬ P 1 (100 * b + k) = 2 := fun z => by unfold zq_kp at hkp; rw [if_pos z] at hkp; cases hkp
    by_cases c14 : P 1 (100 * b + k) = 14
    · have iv : zq_iv P b k = false := by
        cases q : zq_iv P b k with
        | false => rfl
        | true => exact absurd c14 ((zm_iv P b k).mp q).2
      obtain ⟨-, xx2, xx1⟩ := hW.ins hbn hk
      have ah := hO.2.2.2 _ b k hb (by omega) (zq_Ah.at hW hb (Nat.le_of_lt hk) xx1)
      have al := ah.1.lt hn
      obtain ⟨τ1, t1, t2⟩ := zM_acts_em hW hn h hF hC.1.2.2.1 hC.1.2.2.2.1 hb hk c14
      have hC1 : zr_C P nb sz t f u 1 σ τ1 := hC.keep (fun _ _ _ _ _ _ _ _ => rfl) (fun c i q _ _ _ _ => t2 c i q)
      obtain ⟨σ', τ', u1, u2, u3, u4, u5⟩ := hC1.tell (τ 33 ((zq_Ld P nb t) (zq_At P nb sz b k (zq_x P b k)) b))
      refine ⟨σ', τ', ?_, by rw [t1, u2, zc_b1], u3, u4 50 7 (by decide) (by decide), by rw [u5 0 38 (by decide) (by decide), t2 0 38 (by decide)], (hV.act iv).keep (fun i => u4 48 i (by decide) (by omega)) (fun i => by rw [u5 33 i (by decide) (by omega), t2 33 i (by decide)])⟩
      unfold zX_Machine_follow_3 zX_ValueForm_left_2
      rw [zc_ck hp (by decide), zc_cl (show zt sz b + k < 2 ^ 31 by omega), zc_lt, g3, c14, if_neg (by decide), if_neg (by decide), if_neg (by decide), if_pos rfl, zc_ck hp (by decide), if_pos rfl, zc_ck hp (by decide), zc_b1, ((hX.2.2.1 hn).2.1.2.2.2 b hb).1 k hk c14, zc_ck (Nat.lt_of_lt_of_le al h261) (by decide), zc_cl (Nat.lt_of_lt_of_le al (by omega)), hV _ ah.1 ah.2, u1, zc_b1]
    · have iv := (zm_iv P b k).mpr ⟨c2, c14⟩
      have q : zq_isN P nb sz (zq_ii P nb sz b k) b k := ⟨hb, hk, iv, rfl⟩
      have hr : ¬ (zq_rd P nb t) (zq_ii P nb sz b k) := by
        unfold zq_kp at hkp; rw [if_neg c2, if_neg c14] at hkp; exact zp_t.mp hkp
      have e28 := r1 iv
      generalize zq_ii P nb sz b k = v at q hr e28
      have hv := zm_ii hW h q
      have v0 : v ≠ 0 := (fun z => zq_notN0 (z ▸ q))
      have acts := zM_acts_v hW hn h hF hC.1.2.2.1 hC.1.2.2.2.1 q kd1 kd2
      have fin : ∀ y, zr_C P nb sz t f u 0 (zx_su σ 48 v y) (zx_su τ 33 v y) ∧ zx_su σ 48 v y 50 7 = σ 50 7 ∧ zx_su τ 33 v y 0 38 = τ 0 38 ∧ zV_v P nb sz (zq_rd P nb t) 48 b (k + 1) (zx_su σ 48 v y) (zx_su τ 33 v y) := fun y => by
        refine ⟨hC.weak.keep (fun c i h1 h2 h3 h4 h5 _ => zs_ne ?_) (fun c i _ _ h1 _ _ => zs_ne (Or.inl h1)), zs_ne (Or.inl (by decide)), zs_ne (Or.inl (by decide)), hV.set q y⟩
        by_cases e : c = 48
        · right; have : i = 0 := by omega
          omega
        · exact Or.inl e
      rw [acts]
      rw [kd2] at c2 c14
      have n2 := mt l2.mpr c2
      have n14 := mt l14.mpr c14
      rw [if_neg (by rw [kd2]; exact c14)] at g5
      unfold zX_Machine_follow_3 zX_ValueForm_target_2 zX_ValueForm_left_2 zX_ValueForm_right_2
      simp only [zc_ck hp (by decide), zc_cl (show zt sz b + k < 2 ^ 31 by omega), zc_lt, zc_ls, zc_b1, g3, kd2, e28, g5, zc_ck (show v < 261 by omega) (by decide), zc_ck (show v < 262 by omega) (by decide), zc_cl (show v < 2 ^ 31 by omega), (hX.2.2.1 hn).1.2.1.2.2.1 v (by omega), nI_1]
      rw [if_neg c2, if_neg c14, if_neg c14]
      by_cases c0 : kd = 0
      · rw [if_pos (l0.mpr c0), if_pos c0]
        exact ⟨_, _, rfl, rfl, fin _⟩
      · rw [if_neg (mt l0.mp c0), if_neg c0]
        by_cases c1 : kd = 1
        · obtain ⟨y, y1, y2⟩ := w1 c1
          have ey : zq_y P b k = y := by unfold zq_y; rw [y2, zc_cl (by omega)]
          rw [if_pos (l1.mpr c1), if_pos c1, y2, zc_ck y1 (by decide), zc_cl (show y < 2 ^ 31 by omega), ey, hC.2.2.2.2.2.2 y y1]
          exact ⟨_, _, rfl, rfl, fin _⟩
        · rw [if_neg (mt l1.mp c1), if_neg c1]
          have h3 : (3 : Int32) ≤ P 1 (100 * b + k) := (zq_kd3 kd1 kd2).1.mpr (by omega)
          have ec : zt_c t v = 2 := by rw [(h.2.2.2 v b k q).2.2.2.1, if_pos h3]
          obtain ⟨o0, o0r⟩ := hO.1 v b k 0 q (by omega)
          obtain ⟨o1, o1r⟩ := hO.1 v b k 1 q (by omega)
          have f0 := hH.foj hv (show 0 < zt_c t v by omega)
          have f1 := hH.foj hv (show 1 < zt_c t v by omega)
          have e0 := zX_opc_l hn hX hv hr (show 0 < zt_c t v by omega)
          have e1 := zX_opc_l hn hX hv hr (show 1 < zt_c t v by omega)
          rw [Nat.add_zero] at f0 e0
          rw [zc_ck f0 (by decide), zc_cl (show zt (zt_c t) v < 2 ^ 31 by omega), zc_b1, e0, zc_ck (Nat.lt_of_lt_of_le (o0.lt hn) h261) (by decide), zc_cl (Nat.lt_of_lt_of_le (o0.lt hn) (by omega)), zc_ck f1 (by decide), zc_cl (show zt (zt_c t) v + 1 < 2 ^ 31 by omega), zc_b1, e1, zc_ck (Nat.lt_of_lt_of_le (o1.lt hn) h261) (by decide), zc_cl (Nat.lt_of_lt_of_le (o1.lt hn) (by omega)), hV _ o0 o0r, hV _ o1 o1r]
          obtain ⟨r, s1, s2⟩ := zG_comp (show 3 ≤ kd by omega) (show kd ≤ 13 by omega) (τ 33 ((zq_lo P nb t) v 0)) (τ 33 ((zq_lo P nb t) v 1)) σ τ
          rw [s1, s2, zc_b1, zc_b1]
          exact ⟨_, _, rfl, rfl, fin _⟩
end Rl
