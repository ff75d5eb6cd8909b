/-! PURE: the class leads; refresh -/
theorem nI_nm1 {n : Nat} (h : n < 2 ^ 31) : ¬ nI n = (-1 : Int32) := fun e => nI_pos h (by rw [e]; decide)
section XR
variable {P : zx_S} {nb : Nat} {sz : Nat → Nat} {t : zc_Tb}
/-- an OPERAND is defined on the way to where it is read -/
theorem zq_wh_D (hW : zq_WF P nb sz) (hn : 0 < nb) (h : zq_Tab P nb sz t) {v j : Nat} (hv : v < zt_T t) (hj : j < zt_c t v) : zq_D P nb (zq_bk t (zt_o t v j)) (zq_wh P nb t v j) := by
  have hv' := hv
  rw [h.1] at hv'
  rcases zq_cases hv' with q | ⟨b, x, q⟩ | ⟨b, k, q⟩
  · subst q; rw [h.2.1.2.2.2] at hj; omega
  · have a := h.2.2.1 v b x q
    unfold zq_wh
    rw [if_pos a.1, h.bkC hW q]
    rw [a.2.2.2.1] at hj
    rcases zq_no_ex hj with ⟨p, p1, p2, p3⟩ | ⟨p1, p2⟩
    · rw [← p3, zq_nt_eq p2, if_pos p1, a.2.2.2.2.1 p p2]
      exact zq_Ah.D hW h p2.1 (zq_Ah.en hW p2.1 q.2.1)
    · rw [p2, zq_nt_no (fun p hp => by have : zq_np P nb b p < zq_np P nb b nb := zn_in hp.1.1 (zp_t.mpr hp); omega), if_neg (by omega), a.2.2.2.2.2 p1, h.bk0]
      exact zq_D.refl (zq_rc.zero hn)
  · have a := h.2.2.2 v b k q
    obtain ⟨⟨kd, kd1, kd2⟩, -, -⟩ := hW.ins q.1.1 q.2.1
    unfold zq_wh
    rw [if_neg (by
      rw [a.1, kd2]
      intro z
      have := nI_inj (b := 15) (by omega) (by omega) (z.trans (show (15 : Int32) = nI 15 by decide))
      omega), h.bkN hW q]
    have hv2 := (zm_iv P b k).mp q.2.2.1
    rw [a.2.2.2.1] at hj
    by_cases c : 3 ≤ P 1 (100 * b + k)
    · have h3 := (zq_kd3 kd1 kd2).1.mp c
      have h14 : kd < 14 := by
        rcases (show kd = 14 ∨ kd < 14 by omega) with z | z
        · exact absurd (by rw [kd2, z]; decide) hv2.2
        · exact z
      rw [if_pos c] at hj
      have o := a.2.2.2.2 c
      rcases (show j = 0 ∨ j = 1 by omega) with e | e
      · subst e; rw [o.1]; exact zq_Ah.D hW h q.1 (zq_Ah.at hW q.1 (Nat.le_of_lt q.2.1) (hW.insY q.1.1 q.2.1 kd2 (by omega) h14).2)
      · subst e; rw [o.2]; exact zq_Ah.D hW h q.1 (zq_Ah.at hW q.1 (Nat.le_of_lt q.2.1) (hW.insZ q.1.1 q.2.1 kd2 h3 h14).2)
    · rw [if_neg c] at hj; omega
theorem zX_leadOperands_spec (hW : zq_WF P nb sz) (hn : 0 < nb) (h : zq_Tab P nb sz t) {s : zx_S} (hs : zX_Lw P nb sz t s) (hr : zX_R37 P nb t s) {v : Nat} (hv : v < zt_T t) : ∃ s', ((∀ j, j < zt_c t v → s' 39 (zt (zt_c t) v + j) = nI (zq_lo P nb t v j)) ∧ ∀ c i, (c ≠ 39 ∨ ∀ j, j < zt_c t v → i ≠ zt (zt_c t) v + j) → s' c i = s c i) ∧ zX_Leaders_leadOperands (nI v) s = some s' := by
  have hnb := hW.2.1
  have hH := h.Ht hW hn
  have hT := hH.1.2.2.2.2
  have hc := hH.1.2.2.2.1 v hv
  obtain ⟨kv1, kv2⟩ := h.bk hW hn hv
  have kv3 := kv2.1
  unfold zX_Leaders_leadOperands
  rw [zc_ck (show v < 261 by omega) (by decide), zc_cl (by omega), zc_lt, zc_ck (show v < 262 by omega) (by decide), zc_lt, (hs.2.1.2.1 v hv).2.1, kv1, hs.2.1.2.2.1 v (by omega)]
  have := zf_for (L := fun n i u => zX_Leaders_leadOperands_L21 (nI v) (nI (zq_bk t v)) (nI (zt (zt_c t) v)) (fun s9 => some s9) n i u) (k := fun s9 => some s9) (zt_c t v) (fun j u => (∀ j', j' < j → u 39 (zt (zt_c t) v + j') = nI (zq_lo P nb t v j')) ∧ ∀ c i, (c ≠ 39 ∨ ∀ j, j < zt_c t v → i ≠ zt (zt_c t) v + j) → u c i = s c i) (fun n u q => by
    show zX_Leaders_leadOperands_L21 (nI v) (nI (zq_bk t v)) (nI (zt (zt_c t) v)) (fun s9 => some s9) (n + 1) (nI (zt_c t v)) u = some u
    unfold zX_Leaders_leadOperands_L21 zX_Values_operandsOf
    rw [nI_1, zc_ck (show v + 1 < 262 by omega) (by decide), zc_ck (show v < 262 by omega) (by decide), zc_cl (show v + 1 < 2 ^ 31 by omega), zc_cl (show v < 2 ^ 31 by omega), q.2 23 _ (Or.inl (by decide)), q.2 23 _ (Or.inl (by decide)), hs.2.1.2.2.1 (v + 1) (by omega), hs.2.1.2.2.1 v (by omega), zc_b1, zt_step, show nI (zt (zt_c t) v + zt_c t v) - nI (zt (zt_c t) v) = nI (zt_c t v) by rw [← nI_add, Int32.add_comm, Int32.add_sub_cancel], if_pos (Int32.le_refl _)]) (fun n j u hj q => by
    show ∃ a', _ ∧ zX_Leaders_leadOperands_L21 (nI v) (nI (zq_bk t v)) (nI (zt (zt_c t) v)) (fun s9 => some s9) (n + 1) (nI j) u = zX_Leaders_leadOperands_L21 (nI v) (nI (zq_bk t v)) (nI (zt (zt_c t) v)) (fun s9 => some s9) n (nI (j + 1)) a'
    have opn : zX_Values_operandsOf (nI v) u = some (nI (zt_c t v)) := by
      unfold zX_Values_operandsOf
      rw [nI_1, zc_ck (show v + 1 < 262 by omega) (by decide), zc_ck (show v < 262 by omega) (by decide), zc_cl (show v + 1 < 2 ^ 31 by omega), zc_cl (show v < 2 ^ 31 by omega), q.2 23 _ (Or.inl (by decide)), q.2 23 _ (Or.inl (by decide)), hs.2.1.2.2.1 (v + 1) (by omega), hs.2.1.2.2.1 v (by omega), zt_step, show nI (zt (zt_c t) v + zt_c t v) - nI (zt (zt_c t) v) = nI (zt_c t v) by rw [← nI_add, Int32.add_comm, Int32.add_sub_cancel]]
    have hsu : zX_Lw P nb sz t u := hs.keep (fun c i h1 h2 => q.2 c i (Or.inl (by omega)))
    have hru : zX_R37 P nb t u := fun w hw => by rw [q.2 37 w (Or.inl (by decide))]; exact hr w hw
    have fj := hH.foj hv hj
    have oT := hH.1.2.2.1 v j hv hj
    have hD := zq_wh_D hW hn h hv hj
    have fin : ∃ a', ((∀ j', j' < j + 1 → a' 39 (zt (zt_c t) v + j') = nI (zq_lo P nb t v j')) ∧ ∀ c i, (c ≠ 39 ∨ ∀ j, j < zt_c t v → i ≠ zt (zt_c t) v + j) → a' c i = s c i) ∧ zX_Leaders_leadOperands_J76 (zX_Leaders_leadOperands_L21 (nI v) (nI (zq_bk t v)) (nI (zt (zt_c t) v)) (fun s9 => some s9) n) (nI v) (nI (zq_bk t v)) (nI (zt (zt_c t) v)) (nI j) (nI (zq_wh P nb t v j)) u = zX_Leaders_leadOperands_L21 (nI v) (nI (zq_bk t v)) (nI (zt (zt_c t) v)) (fun s9 => some s9) n (nI (j + 1)) a' := by
      unfold zX_Leaders_leadOperands_J76
      rw [nI_add, zc_ck fj (by decide), zc_cl (show zt (zt_c t) v + j < 2 ^ 31 by omega), zc_lt, hsu.2.1.2.2.2 v hv j hj, zX_leader_eq hW hn h hsu hru oT hD, zc_b1, zc_ck fj (by decide), zc_ls, zc_lt, nI_1]
      refine ⟨_, ⟨fun j' hj' => ?_, fun c i hc' => ?_⟩, rfl⟩
      · by_cases e : j' = j
        · rw [e, zs_eq]; rfl
        · rw [zs_ne (Or.inr (by omega))]; exact q.1 j' (by omega)
      · rw [zs_ne (hc'.imp_right (fun z => z j hj))]; exact q.2 c i hc'
    rw [zX_Leaders_leadOperands_L21, opn, zc_b1, if_neg (by rw [nI_leI (by omega) (by omega)]; omega), zc_ck (show v < 261 by omega) (by decide), zc_cl (show v < 2 ^ 31 by omega), (hsu.2.1.2.1 v hv).1]
    by_cases c1 : zt_k t v = 15
    · rw [if_pos c1, zc_ck (show zq_bk t v < 16 by omega) (by decide), zc_cl (show zq_bk t v < 2 ^ 31 by omega), zX_nthOf_eq hnb (hsu.1.1.2.1.2.1 (zq_bk t v) (by omega)).2 (show j < 2 ^ 31 by omega), zc_b1]
      have ew : zq_wh P nb t v j = if zq_nt P nb (zq_bk t v) j < nb then zq_nt P nb (zq_bk t v) j else 0 := by unfold zq_wh; rw [if_pos c1]
      by_cases c2 : zq_nt P nb (zq_bk t v) j < nb
      · rw [if_pos c2] at ew
        rw [if_pos c2, if_neg (by have : ∀ p, p < 16 → ¬ nI p = (-1 : Int32) := by decide
                                  exact this _ (by omega)), ← ew]
        exact fin
      · rw [if_neg c2] at ew
        rw [if_neg c2, if_pos rfl]
        rw [ew, nI_0] at fin
        exact fin
    · rw [if_neg c1]
      have ew : zq_wh P nb t v j = zq_bk t v := by unfold zq_wh; rw [if_neg c1]
      rw [ew] at fin
      exact fin) (i := 0) (n := 10000) (Nat.zero_le _) (a := s) ⟨fun j hj => by omega, fun _ _ _ => rfl⟩ (by omega)
  rw [nI_0] at this
  obtain ⟨s', h1, h2⟩ := this
  exact ⟨s', h1, h2⟩
/-- what LED reads in BLOCK b -/
def zX_Lb (P : zx_S) (nb : Nat) (sz : Nat → Nat) (t : zc_Tb) (b : Nat) (s : zx_S) : Prop := (∀ k, k < sz b → P 1 (100 * b + k) = 14 → s 40 (zt sz b + k) = nI (zq_Ld P nb t (zq_At P nb sz b k (zq_x P b k)) b)) ∧ s 41 b = if zq_how P b = 1 then -1 else nI (zq_Ld P nb t (zq_En P nb sz b (zq_ev P b)) b)
theorem zX_leadEmits_spec (hW : zq_WF P nb sz) (hn : 0 < nb) (h : zq_Tab P nb sz t) {s : zx_S} (hs : zX_Lw P nb sz t s) (hr : zX_R37 P nb t s) {b : Nat} (hb : zq_rc P nb b) : ∃ s', ((∀ k, k < sz b → P 1 (100 * b + k) = 14 → s' 40 (zt sz b + k) = nI (zq_Ld P nb t (zq_At P nb sz b k (zq_x P b k)) b)) ∧ ∀ c i, (c ≠ 40 ∨ ∀ k, k < sz b → i ≠ zt sz b + k) → s' c i = s c i) ∧ zX_Leaders_leadEmits (nI b) s = some s' := by
  have hnb := hW.2.1
  have hbn := hb.1
  have hP := hs.1.1.1.2
  have ht := hP.tot hW (b := b + 1)
  have e1 : zt sz (b + 1) = zt sz b + sz b := rfl
  have h2 := hP.2.1
  unfold zX_Leaders_leadEmits
  rw [zc_ck (show b < 17 by omega) (by decide), zc_cl (by omega), zc_lt, h2 b (by omega)]
  have := zf_off (L := fun n i u => zX_Leaders_leadEmits_L9 (nI b) (fun s6 => some s6) n i u) (k := fun s6 => some s6) (zt sz b) (sz b) (fun k u => (∀ k', k' < k → P 1 (100 * b + k') = 14 → u 40 (zt sz b + k') = nI (zq_Ld P nb t (zq_At P nb sz b k' (zq_x P b k')) b)) ∧ ∀ c i, (c ≠ 40 ∨ ∀ k, k < sz b → i ≠ zt sz b + k) → u c i = s c i) (fun n u q => by
    show zX_Leaders_leadEmits_L9 (nI b) (fun s6 => some s6) (n + 1) (nI (zt sz b + sz b)) u = some u
    rw [zX_Leaders_leadEmits_L9, nI_1, zc_ck (show b + 1 < 17 by omega) (by decide), zc_cl (by omega), q.2 2 _ (Or.inl (by decide)), h2 (b + 1) (by omega), e1, if_pos (Int32.le_refl _)]) (fun n k u hk q => by
    show ∃ a', _ ∧ zX_Leaders_leadEmits_L9 (nI b) (fun s6 => some s6) (n + 1) (nI (zt sz b + k)) u = zX_Leaders_leadEmits_L9 (nI b) (fun s6 => some s6) n (nI (zt sz b + k + 1)) a'
    have hbd := hP.bnd hW hk
    have p3 := (hP.2.2 b k hbn hk).1
    have hsu : zX_Lw P nb sz t u := hs.keep (fun c i h1 h2 => q.2 c i (Or.inl (by omega)))
    have hru : zX_R37 P nb t u := fun w hw => by rw [q.2 37 w (Or.inl (by decide))]; exact hr w hw
    rw [zX_Leaders_leadEmits_L9]
    simp only [nI_1, zc_ck (show b + 1 < 17 by omega) (by decide), zc_cl (show b + 1 < 2 ^ 31 by omega), q.2 2 _ (Or.inl (by decide)), h2 (b + 1) (by omega), e1]
    rw [if_neg (by rw [nI_leI (by omega) (by omega)]; omega)]
    simp only [zc_ck hbd.2 (by decide), zc_cl (show zt sz b + k < 2 ^ 31 by omega), zc_lt, zc_ls, q.2 3 _ (Or.inl (by decide)), p3]
    by_cases c1 : P 1 (100 * b + k) = 14
    · have x2 := (hW.ins hbn hk).2.2
      have ah := zq_Ah.at hW hb (Nat.le_of_lt hk) x2
      have aT : zq_At P nb sz b k (zq_x P b k) < zt_T t := by rw [h.1]; exact ah.lt hn
      rw [if_pos c1, (hsu.1.2.1 b hb).2.1 k hk c1, zX_leader_eq hW hn h hsu hru aT (zq_Ah.D hW h hb ah), zc_b1]
      refine ⟨_, ⟨fun k' hk' h14 => ?_, fun c i hc => ?_⟩, rfl⟩
      · by_cases e : k' = k
        · rw [e, zs_eq]
        · rw [zs_ne (Or.inr (by omega))]; exact q.1 k' (by omega) h14
      · rw [zs_ne (hc.imp_right (fun z => z k hk))]; exact q.2 c i hc
    · rw [if_neg c1]
      refine ⟨u, ⟨fun k' hk' h14 => q.1 k' (by have : k' ≠ k := (fun e => c1 (e ▸ h14)); omega) h14, q.2⟩, rfl⟩) (n := 10000) (a := s) ⟨fun k hk => by omega, fun _ _ _ => rfl⟩ (by omega)
  obtain ⟨s', h1, h2⟩ := this
  exact ⟨s', h1, h2⟩
/-- the class's LED -/
def zX_Le (P : zx_S) (nb : Nat) (sz : Nat → Nat) (t : zc_Tb) (s : zx_S) : Prop := zX_R37 P nb t s ∧ s 36 2 = nI (zn (fun v => zp (zq_rd P nb t v)) (zt_T t)) ∧ (∀ v j, v < zt_T t → ¬ zq_rd P nb t v → j < zt_c t v → s 39 (zt (zt_c t) v + j) = nI (zq_lo P nb t v j)) ∧ ∀ b, zq_rc P nb b → zX_Lb P nb sz t b s
theorem zX_lead_spec (hW : zq_WF P nb sz) (hn : 0 < nb) (h : zq_Tab P nb sz t) {s : zx_S} (hs : zX_Lw P nb sz t s) : ∃ s', (zX_Le P nb sz t s' ∧ ∀ c i, c ≤ 35 ∨ c = 38 ∨ 41 < c → s' c i = s c i) ∧ zX_Leaders_lead s = some s' := by
  have hnb := hW.2.1
  have hH := h.Ht hW hn
  have hT := hH.1.2.2.2.2
  unfold zX_Leaders_lead
  rw [zc_ls]
  have l8 := zf_for (L := fun n i u => zX_Leaders_lead_L8 (fun s10 => zX_Leaders_lead_L66 (fun s14 => zX_Leaders_lead_L104 (fun s24 => some s24) 10000 (0 : Int32) s14) 10000 (0 : Int32) s10) n i u) (k := fun s10 => zX_Leaders_lead_L66 (fun s14 => zX_Leaders_lead_L104 (fun s24 => some s24) 10000 (0 : Int32) s14) 10000 (0 : Int32) s10) (zt_T t) (fun n u => u 36 2 = nI (zn (fun v => zp (zq_rd P nb t v)) n) ∧ (∀ v, v < n → u 37 v = zi (zp (zq_rd P nb t v))) ∧ ∀ c i, c ≠ 36 → c ≠ 37 → u c i = s c i) (fun n u q => by
    show zX_Leaders_lead_L8 _ (n + 1) (nI (zt_T t)) u = _
    rw [zX_Leaders_lead_L8, if_pos (by rw [q.2.2 18 11 (by decide) (by decide), hs.2.1.1]; exact Int32.le_refl _)]) (fun n v u hv q => by
    obtain ⟨g1, g2, g3⟩ := q
    show ∃ a', _ ∧ zX_Leaders_lead_L8 _ (n + 1) (nI v) u = zX_Leaders_lead_L8 _ n (nI (v + 1)) a'
    have hsu : zX_Lw P nb sz t u := hs.keep (fun c i h1 h2 => g3 c i (by omega) (by omega))
    rw [zX_Leaders_lead_L8, if_neg (by rw [g3 18 11 (by decide) (by decide), hs.2.1.1, nI_leI (by omega) (by omega)]; omega), zX_isLed_eq hW hn h hsu hv, zc_b1]
    simp only [zc_ck (show v < 261 by omega) (by decide), zc_cl (show v < 2 ^ 31 by omega), zc_ls, zc_lt, zi_nar, nI_1, zs_eq, zi_0]
    have e36 : zx_su u 37 v (zi (zp (zq_rd P nb t v))) 36 2 = nI (zn (fun v => zp (zq_rd P nb t v)) v) := by rw [zs_ne (Or.inl (by decide))]; exact g1
    rw [e36]
    have fin : ∀ x : Int32, x = nI (zn (fun v => zp (zq_rd P nb t v)) (v + 1)) → zx_su (zx_su u 37 v (zi (zp (zq_rd P nb t v)))) 36 2 x 36 2 = nI (zn (fun v => zp (zq_rd P nb t v)) (v + 1)) ∧ (∀ w, w < v + 1 → zx_su (zx_su u 37 v (zi (zp (zq_rd P nb t v)))) 36 2 x 37 w = zi (zp (zq_rd P nb t w))) ∧ ∀ c i, c ≠ 36 → c ≠ 37 → zx_su (zx_su u 37 v (zi (zp (zq_rd P nb t v)))) 36 2 x c i = s c i := fun x hx => by
      refine ⟨by rw [zs_eq]; exact hx, fun w hw => ?_, fun c i h1 h2 => by rw [zs_ne (Or.inl h1), zs_ne (Or.inl h2)]; exact g3 c i h1 h2⟩
      rw [zs_ne (Or.inl (by decide))]
      by_cases e : w = v
      · rw [e, zs_eq]
      · rw [zs_ne (Or.inr e)]; exact g2 w (by omega)
    by_cases c1 : zp (zq_rd P nb t v) = false
    · rw [if_pos c1]
      exact ⟨_, fin _ (by rw [zn_step, c1, Int32.add_zero]; rfl), rfl⟩
    · rw [if_neg c1, nI_1]
      exact ⟨_, fin _ (by rw [zn_step, show zp (zq_rd P nb t v) = true by simpa using c1]; rfl), rfl⟩) (i := 0) (n := 10000) (Nat.zero_le _) (a := zx_su s 36 2 0) ⟨by rw [zs_eq]; exact nI_0.symm, fun v hv => by omega, fun c i h1 _ => zs_ne (Or.inl h1)⟩ (by omega)
  rw [nI_0] at l8
  obtain ⟨s1, ⟨a1, a2, a3⟩, a4⟩ := l8
  rw [a4]
  have l66 := zf_for (L := fun n i u => zX_Leaders_lead_L66 (fun s14 => zX_Leaders_lead_L104 (fun s24 => some s24) 10000 (0 : Int32) s14) n i u) (k := fun s14 => zX_Leaders_lead_L104 (fun s24 => some s24) 10000 (0 : Int32) s14) (zt_T t) (fun n u => (∀ v j, v < n → ¬ zq_rd P nb t v → j < zt_c t v → u 39 (zt (zt_c t) v + j) = nI (zq_lo P nb t v j)) ∧ ∀ c i, c ≠ 39 → u c i = s1 c i) (fun n u q => by
    show zX_Leaders_lead_L66 _ (n + 1) (nI (zt_T t)) u = _
    rw [zX_Leaders_lead_L66, if_pos (by rw [q.2 18 11 (by decide), a3 18 11 (by decide) (by decide), hs.2.1.1]; exact Int32.le_refl _)]) (fun n v u hv q => by
    obtain ⟨g1, g2⟩ := q
    show ∃ a', _ ∧ zX_Leaders_lead_L66 _ (n + 1) (nI v) u = zX_Leaders_lead_L66 _ n (nI (v + 1)) a'
    have hsu : zX_Lw P nb sz t u := hs.keep (fun c i h1 h2 => by rw [g2 c i (by omega), a3 c i (by omega) (by omega)])
    have hru : zX_R37 P nb t u := fun w hw => by rw [g2 37 w (by decide)]; exact a2 w hw
    rw [zX_Leaders_lead_L66, if_neg (by rw [hsu.2.1.1, nI_leI (by omega) (by omega)]; omega), zc_ck (show v < 261 by omega) (by decide), zc_cl (show v < 2 ^ 31 by omega), hru v hv]
    simp only [zi_0, zc_lt, nI_1]
    by_cases c1 : zp (zq_rd P nb t v) = false
    · rw [if_pos c1]
      obtain ⟨u', ⟨b1, b2⟩, b3⟩ := zX_leadOperands_spec hW hn h hsu hru hv
      rw [b3, zc_b1]
      refine ⟨u', ⟨fun w j hw hnr hj => ?_, fun c i hc => by rw [b2 c i (Or.inl hc)]; exact g2 c i hc⟩, rfl⟩
      by_cases e : w = v
      · subst e; exact b1 j hj
      · rw [b2 39 _ (Or.inr (fun j' hj' => zq_fo_ne hj hj' e))]; exact g1 w j (by omega) hnr hj
    · rw [if_neg c1]
      have hrd : zq_rd P nb t v := zp_t.mp (by simpa using c1)
      exact ⟨u, ⟨fun w j hw hnr hj => g1 w j (by have : w ≠ v := (fun e => hnr (e ▸ hrd)); omega) hnr hj, g2⟩, rfl⟩) (i := 0) (n := 10000) (Nat.zero_le _) (a := s1) ⟨fun v j hv => by omega, fun _ _ _ => rfl⟩ (by omega)
  rw [nI_0] at l66
  obtain ⟨s2, ⟨b1, b2⟩, b3⟩ := l66
  rw [b3]
  have l104 := zf_for (L := fun n i u => zX_Leaders_lead_L104 (fun s24 => some s24) n i u) (k := fun s24 => some s24) 16 (fun n u => (∀ b, b < n → zq_rc P nb b → zX_Lb P nb sz t b u) ∧ ∀ c i, c ≠ 40 → c ≠ 41 → u c i = s2 c i) (fun n u q => by
    show zX_Leaders_lead_L104 _ (n + 1) (nI 16) u = _
    rw [zX_Leaders_lead_L104, if_pos (by decide)]) (fun n b u hb q => by
    obtain ⟨g1, g2⟩ := q
    show ∃ a', _ ∧ zX_Leaders_lead_L104 _ (n + 1) (nI b) u = zX_Leaders_lead_L104 _ n (nI (b + 1)) a'
    have hsu : zX_Lw P nb sz t u := hs.keep (fun c i h1 h2 => by rw [g2 c i (by omega) (by omega), b2 c i (by omega), a3 c i (by omega) (by omega)])
    have hru : zX_R37 P nb t u := fun w hw => by rw [g2 37 w (by decide) (by decide), b2 37 w (by decide)]; exact a2 w hw
    rw [zX_Leaders_lead_L104, if_neg (by rw [show (16 : Int32) = nI 16 by decide, nI_leI (by omega) (by omega)]; omega), zX_reaches_eq hnb hsu.1.1.2.1.1 (show b < 2 ^ 31 by omega), zc_b1]
    simp only [zi_0, zc_lt, nI_1]
    by_cases c1 : zp (zq_rc P nb b) = false
    · rw [if_pos c1]
      have hno := zp_f.mp c1
      exact ⟨u, ⟨fun b' hb' hr => g1 b' (by have : b' ≠ b := (fun e => hno (e ▸ hr)); omega) hr, g2⟩, rfl⟩
    · rw [if_neg c1]
      have hr : zq_rc P nb b := zp_t.mp (by simpa using c1)
      obtain ⟨u1, ⟨d1, d2⟩, d3⟩ := zX_leadEmits_spec hW hn h hsu hru hr
      rw [d3, zc_b1, zc_ck hb (by decide), zc_cl (show b < 2 ^ 31 by omega), d2 27 b (Or.inl (by decide)), (hsu.1.2.1 b hr).2.2.2]
      have hsu1 : zX_Lw P nb sz t u1 := hsu.keep (fun c i h1 h2 => d2 c i (Or.inl (by omega)))
      have hru1 : zX_R37 P nb t u1 := fun w hw => by rw [d2 37 w (Or.inl (by decide))]; exact hru w hw
      have fin : ∀ x : Int32, (x = if zq_how P b = 1 then -1 else nI (zq_Ld P nb t (zq_En P nb sz b (zq_ev P b)) b)) → (∀ b', b' < b + 1 → zq_rc P nb b' → zX_Lb P nb sz t b' (zx_su u1 41 b x)) ∧ ∀ c i, c ≠ 40 → c ≠ 41 → zx_su u1 41 b x c i = s2 c i := fun x hx => by
        refine ⟨fun b' hb' hr' => ?_, fun c i h1 h2 => by rw [zs_ne (Or.inl h2), d2 c i (Or.inl h1)]; exact g2 c i h1 h2⟩
        by_cases e : b' = b
        · subst e
          exact ⟨fun k hk h14 => by rw [zs_ne (Or.inl (by decide))]; exact d1 k hk h14, by rw [zs_eq]; exact hx⟩
        · have old := g1 b' (by omega) hr'
          exact ⟨fun k hk h14 => by rw [zs_ne (Or.inl (by decide)), d2 40 _ (Or.inr (fun k' hk' => zt_ne hk hk' e))]; exact old.1 k hk h14, by rw [zs_ne (Or.inr e), d2 41 _ (Or.inl (by decide))]; exact old.2⟩
      by_cases c2 : zq_how P b = 1
      · rw [if_pos c2, if_pos rfl, zc_ck hb (by decide), zc_ls]
        exact ⟨_, fin (-1) (by rw [if_pos c2]), rfl⟩
      · have ev2 := (zX_endVariable_eq hW hsu.1.1.1.1 hr.1 c2).2
        have ah := zq_Ah.en hW hr ev2
        have hT' : zq_En P nb sz b (zq_ev P b) < zt_T t := by rw [h.1]; exact ah.lt hn
        rw [if_neg c2, if_neg (nI_nm1 (by omega)), zX_leader_eq hW hn h hsu1 hru1 hT' (zq_Ah.D hW h hr ah), zc_b1, zc_ck hb (by decide), zc_ls]
        exact ⟨_, fin _ (by rw [if_neg c2]), rfl⟩) (i := 0) (n := 10000) (Nat.zero_le _) (a := s2) ⟨fun b hb => by omega, fun _ _ _ _ => rfl⟩ (by decide)
  rw [nI_0] at l104
  obtain ⟨s3, ⟨c1, c2⟩, c3⟩ := l104
  refine ⟨s3, ⟨⟨fun v hv => by rw [c2 37 v (by decide) (by decide), b2 37 v (by decide)]; exact a2 v hv, by rw [c2 36 2 (by decide) (by decide), b2 36 2 (by decide)]; exact a1, fun v j hv hnr hj => by rw [c2 39 _ (by decide) (by decide)]; exact b1 v j hv hnr hj, fun b hr => c1 b (by have := hr.1; omega) hr⟩, fun c i hc => ?_⟩, c3⟩
  rw [c2 c i (by omega) (by omega), b2 c i (by omega), a3 c i (by omega) (by omega)]
end XR
