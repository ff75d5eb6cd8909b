/-! PURE: the class's followBlock -/
section XF
variable {P : zx_S} {nb : Nat} {sz : Nat → Nat} {t : zc_Tb}
theorem zX_Kp.w26 (hW : zq_WF P nb sz) {b k : Nat} (hk : k < sz b) (x : Int32) (s : zx_S) : zX_Kp P nb sz t b s (zx_su s 26 (zt sz b + k) x) :=
  ⟨fun c i _ h _ _ => zs_ne (Or.inl h), fun _ _ _ _ => zs_ne (Or.inl (by decide)), fun b' k' h1 h2 => zs_ne (Or.inr (zt_ne h2 hk h1)), fun _ _ => zs_ne (Or.inl (by decide)), fun _ _ _ _ _ _ _ => zs_ne (Or.inl (by decide))⟩
theorem zX_Kp.w27 (b : Nat) (x : Int32) (s : zx_S) : zX_Kp P nb sz t b s (zx_su s 27 b x) :=
  ⟨fun c i _ _ h _ => zs_ne (Or.inl h), fun _ _ _ _ => zs_ne (Or.inl (by decide)), fun _ _ _ _ => zs_ne (Or.inl (by decide)), fun b' h => zs_ne (Or.inr h), fun _ _ _ _ _ _ _ => zs_ne (Or.inl (by decide))⟩
theorem zX_Kp.w25 {i b k j : Nat} (hN : zq_isN P nb sz i b k) (hj : j < zt_c t i) (x : Int32) (s : zx_S) : zX_Kp P nb sz t b s (zx_su s 25 (zt (zt_c t) i + j) x) :=
  ⟨fun c i h _ _ _ => zs_ne (Or.inl h), fun _ _ _ _ => zs_ne (Or.inl (by decide)), fun _ _ _ _ => zs_ne (Or.inl (by decide)), fun _ _ => zs_ne (Or.inl (by decide)), fun i' b' k' j' h1 h2 h3 => zs_ne (Or.inr (zq_fo_ne h3 hj (fun e => by
    subst e
    exact h2 (h1.uniq hN).1)))⟩
theorem zq_At_step (b k : Nat) : zq_At P nb sz b (k + 1) = zq_nx P nb sz b k (zq_At P nb sz b k) := rfl
theorem zX_follow_L13_spec (hW : zq_WF P nb sz) (h : zq_Tab P nb sz t) (kk : zx_S → Option zx_S) {b : Nat} (hr : zq_rc P nb b) {s : zx_S} (hP : zX_Pi P nb sz s) (hN : zX_Nr P nb sz t 16 s) (h32 : ∀ v, v < 10 → s 32 (10 * b + v) = nI (zq_Bg P nb sz b v)) : ∃ s', (zX_Kp P nb sz t b s s' ∧ (∀ v, v < 10 → s' 32 (10 * b + v) = nI (zq_En P nb sz b v)) ∧ (∀ k, k < sz b → P 1 (100 * b + k) = 14 → s' 26 (zt sz b + k) = nI (zq_At P nb sz b k (zq_x P b k))) ∧ ∀ i k, zq_isN P nb sz i b k → zX_Fo t i s') ∧ zX_Values_followBlock_L13 (nI b) (nI (10 * b)) kk 10000 (nI (zt sz b)) s = kk s' := by
  have hnb := hW.2.1
  have hb := hr.1
  have hb16 : b < 16 := by omega
  have ht := hP.tot hW (b := b + 1)
  have e1 : zt sz (b + 1) = zt sz b + sz b := rfl
  have h2 := hP.2.1
  have := zf_off (L := fun n i u => zX_Values_followBlock_L13 (nI b) (nI (10 * b)) kk n i u) (k := kk) (zt sz b) (sz b) (fun k u => zX_Kp P nb sz t b s u ∧ (∀ v, v < 10 → u 32 (10 * b + v) = nI (zq_At P nb sz b k v)) ∧ (∀ k', k' < k → P 1 (100 * b + k') = 14 → u 26 (zt sz b + k') = nI (zq_At P nb sz b k' (zq_x P b k'))) ∧ ∀ i k', k' < k → zq_isN P nb sz i b k' → zX_Fo t i u) (fun n u q => by
    show zX_Values_followBlock_L13 (nI b) (nI (10 * b)) kk (n + 1) (nI (zt sz b + sz b)) u = kk u
    rw [zX_Values_followBlock_L13, nI_1, zc_ck (show b + 1 < 17 by omega) (by decide), zc_cl (by omega), q.1.1 2 _ (by decide) (by decide) (by decide) (by decide), h2 (b + 1) (by omega), e1, if_pos (Int32.le_refl _)]) (fun n k u hk q => by
    obtain ⟨g1, g2, g3, g4⟩ := q
    show ∃ a', _ ∧ zX_Values_followBlock_L13 (nI b) (nI (10 * b)) kk (n + 1) (nI (zt sz b + k)) u = zX_Values_followBlock_L13 (nI b) (nI (10 * b)) kk n (nI (zt sz b + k + 1)) a'
    have hbd := hP.bnd hW hk
    obtain ⟨p3, p4, p5, p6⟩ := hP.2.2 b k hb hk
    obtain ⟨⟨kd, kd1, kd2⟩, x1, x2⟩ := hW.ins hb hk
    have gu : ∀ c i, c < 25 ∨ (27 < c ∧ c < 32) → u c i = s c i := fun c i hc => g1.1 c i (by omega) (by omega) (by omega) (by omega)
    rw [zX_Values_followBlock_L13]
    simp only [nI_1, zc_ck (show b + 1 < 17 by omega) (by decide), zc_cl (show b + 1 < 2 ^ 31 by omega), gu 2 _ (by decide), h2 (b + 1) (by omega), e1]
    rw [if_neg (by rw [nI_leI (by omega) (by omega)]; omega)]
    simp only [zc_ck hbd.2 (by decide), zc_cl (show zt sz b + k < 2 ^ 31 by omega), zc_lt, zc_ls, gu 3 _ (Or.inl (by decide)), gu 4 _ (Or.inl (by decide)), gu 5 _ (Or.inl (by decide)), gu 28 _ (Or.inr (by decide)), p3, p4, p5]
    by_cases c1 : P 1 (100 * b + k) = 14
    · rw [if_pos c1]
      simp only [if_pos c1]
      rw [x1, nI_add, zc_ck (show 10 * b + zq_x P b k < 160 by omega) (by decide), zc_cl (show 10 * b + zq_x P b k < 2 ^ 31 by omega), g2 _ x2]
      refine ⟨_, ⟨g1.trans (zX_Kp.w26 hW hk _ u), fun v hv => ?_, fun k' hk' h14 => ?_, fun i k' hk' hN' => ?_⟩, rfl⟩
      · rw [zs_ne (Or.inl (by decide)), g2 v hv, zq_At_step]
        unfold zq_nx
        rw [if_pos c1]
      · by_cases e : k' = k
        · rw [e, zs_eq]
        · rw [zs_ne (Or.inr (by omega))]; exact g3 k' (by omega) h14
      · by_cases e : k' = k
        · rw [e] at hN'; exact absurd c1 ((zm_iv P b k).mp hN'.2.2.1).2
        · intro j hj
          rw [zs_ne (Or.inl (by decide))]; exact g4 i k' (by omega) hN' j hj
    · rw [if_neg c1]
      simp only [if_neg c1]
      by_cases c2 : P 1 (100 * b + k) = 2
      · rw [if_pos c2]
        have hk2 : kd = 2 := nI_inj (by omega) (by omega) (kd2.symm.trans (c2.trans (show (2 : Int32) = nI 2 by decide)))
        obtain ⟨y1, y2⟩ := hW.insY hb hk kd2 (by omega) (by omega)
        rw [y1, x1, nI_add, nI_add, zc_ck (show 10 * b + zq_y P b k < 160 by omega) (by decide), zc_cl (show 10 * b + zq_y P b k < 2 ^ 31 by omega), g2 _ y2, zc_ck (show 10 * b + zq_x P b k < 160 by omega) (by decide), zc_cl (show 10 * b + zq_x P b k < 2 ^ 31 by omega)]
        refine ⟨_, ⟨g1.trans (zX_Kp.w32 b x2 _ u), fun v hv => ?_, fun k' hk' h14 => ?_, fun i k' hk' hN' => ?_⟩, rfl⟩
        · rw [zq_At_step]
          unfold zq_nx
          rw [if_neg c1, if_pos c2]
          by_cases e : v = zq_x P b k
          · rw [if_pos e, e, zs_eq]
          · rw [if_neg e, zs_ne (Or.inr (by omega)), g2 v hv]
        · rw [zs_ne (Or.inl (by decide))]
          by_cases e : k' = k
          · rw [e] at h14; exact absurd h14 c1
          · exact g3 k' (by omega) h14
        · by_cases e : k' = k
          · rw [e] at hN'; exact absurd c2 ((zm_iv P b k).mp hN'.2.2.1).1
          · intro j hj
            rw [zs_ne (Or.inl (by decide))]; exact g4 i k' (by omega) hN' j hj
      · rw [if_neg c2]
        have hv : zq_iv P b k = true := (zm_iv P b k).mpr ⟨c2, c1⟩
        have isN : zq_isN P nb sz (zq_ii P nb sz b k) b k := ⟨hr, hk, hv, rfl⟩
        have hlt := isN.lt
        have h261 := zq_st_261 hW (show b + 1 ≤ nb from hb)
        have hT : zq_ii P nb sz b k < zt_T t := by rw [h.1]; exact Nat.lt_of_lt_of_le hlt.2 (zq_st_up hb)
        rw [hN.2.2.2.1 b k hb16 hr hk hv]
        -- what is left once the OPERANDS stand
        have fin : ∀ u', zX_Kp P nb sz t b s u' → (∀ c i, c ≠ 25 → u' c i = u c i) → (∀ i k', k' < k → zq_isN P nb sz i b k' → zX_Fo t i u') → zX_Fo t (zq_ii P nb sz b k) u' → ∃ a', (zX_Kp P nb sz t b s a' ∧ (∀ v, v < 10 → a' 32 (10 * b + v) = nI (zq_At P nb sz b (k + 1) v)) ∧ (∀ k', k' < k + 1 → P 1 (100 * b + k') = 14 → a' 26 (zt sz b + k') = nI (zq_At P nb sz b k' (zq_x P b k'))) ∧ ∀ i k', k' < k + 1 → zq_isN P nb sz i b k' → zX_Fo t i a') ∧ zX_Values_followBlock_J186 (zX_Values_followBlock_L13 (nI b) (nI (10 * b)) kk n) (nI b) (nI (10 * b)) (nI (zt sz b + k)) (nI (zq_ii P nb sz b k)) u' = zX_Values_followBlock_L13 (nI b) (nI (10 * b)) kk n (nI (zt sz b + k + 1)) a' := by
          intro u' w1 w2 w3 w4
          unfold zX_Values_followBlock_J186
          rw [zc_ck hbd.2 (by decide), zc_cl (show zt sz b + k < 2 ^ 31 by omega), w2 4 _ (by decide), gu 4 _ (Or.inl (by decide)), p4, if_neg c1, x1, nI_add, zc_ck (show 10 * b + zq_x P b k < 160 by omega) (by decide), zc_cl (show 10 * b + zq_x P b k < 2 ^ 31 by omega), zc_ls, zc_lt, nI_1]
          refine ⟨_, ⟨w1.trans (zX_Kp.w32 b x2 _ u'), fun v hv' => ?_, fun k' hk' h14 => ?_, fun i k' hk' hN' j hj => ?_⟩, rfl⟩
          · rw [zq_At_step]
            unfold zq_nx
            rw [if_neg c1, if_neg c2]
            by_cases e : v = zq_x P b k
            · rw [if_pos e, e, zs_eq]
            · rw [if_neg e, zs_ne (Or.inr (by omega)), w2 32 _ (by decide), g2 v hv']
          · rw [zs_ne (Or.inl (by decide)), w2 26 _ (by decide)]
            by_cases e : k' = k
            · rw [e] at h14; exact absurd h14 c1
            · exact g3 k' (by omega) h14
          · rw [zs_ne (Or.inl (by decide))]
            by_cases e : k' = k
            · subst e
              rw [show i = zq_ii P nb sz b k' from hN'.2.2.2] at hj ⊢
              exact w4 j hj
            · exact w3 i k' (by omega) hN' j hj
        have tb := h.2.2.2 _ b k isN
        have kk3 := zq_kd3 kd1 kd2
        by_cases c3 : P 1 (100 * b + k) = 0
        · rw [if_pos c3]
          refine fin u g1 (fun _ _ _ => rfl) g4 (fun j hj => ?_)
          rw [tb.2.2.2.1, if_neg (by rw [c3]; decide)] at hj; omega
        · rw [if_neg c3]
          by_cases c4 : P 1 (100 * b + k) = 1
          · rw [if_pos c4]
            refine fin u g1 (fun _ _ _ => rfl) g4 (fun j hj => ?_)
            rw [tb.2.2.2.1, if_neg (by rw [c4]; decide)] at hj; omega
          · rw [if_neg c4]
            have h3 : 3 ≤ kd := by
              rcases (show kd = 0 ∨ kd = 1 ∨ kd = 2 ∨ 3 ≤ kd by omega) with q | q | q | q
              · exact absurd (by rw [kd2, q]; decide) c3
              · exact absurd (by rw [kd2, q]; decide) c4
              · exact absurd (by rw [kd2, q]; decide) c2
              · exact q
            have h14 : kd < 14 := by
              rcases (show kd = 14 ∨ kd < 14 by omega) with q | q
              · exact absurd (by rw [kd2, q]; decide) c1
              · exact q
            obtain ⟨y1, y2⟩ := hW.insY hb hk kd2 (by omega) h14
            obtain ⟨z1, z2⟩ := hW.insZ hb hk kd2 h3 h14
            have hc : zt_c t (zq_ii P nb sz b k) = 2 := by rw [tb.2.2.2.1, if_pos (kk3.1.mpr h3)]
            have to := tb.2.2.2.2 (kk3.1.mpr h3)
            have f0 : zt (zt_c t) (zq_ii P nb sz b k) < 530 := h.foj hW hT (j := 0) (by omega)
            have f1 := h.foj hW hT (j := 1) (by omega)
            have e23 : s 23 (zq_ii P nb sz b k) = nI (zt (zt_c t) (zq_ii P nb sz b k)) := hN.1.2.2 _ (Nat.le_of_lt (Nat.lt_of_lt_of_le hlt.2 (zq_st_up (by omega))))
            rw [y1, nI_add, zc_ck (show zq_ii P nb sz b k < 262 by omega) (by decide), zc_cl (show zq_ii P nb sz b k < 2 ^ 31 by omega), zc_ck (show 10 * b + zq_y P b k < 160 by omega) (by decide), zc_cl (show 10 * b + zq_y P b k < 2 ^ 31 by omega), g2 _ y2, gu 23 _ (Or.inl (by decide)), e23, zc_ck f0 (by decide), zc_cl (show zt (zt_c t) (zq_ii P nb sz b k) < 2 ^ 31 by omega), zs_ne (Or.inl (by decide)), gu 6 _ (Or.inl (by decide)), p6, if_neg c1, z1, nI_add, zc_ck (show zq_ii P nb sz b k < 262 by omega) (by decide), zc_ck (show 10 * b + zq_z P b k < 160 by omega) (by decide), zc_cl (show 10 * b + zq_z P b k < 2 ^ 31 by omega), zs_ne (c := 32) (Or.inl (by decide)), g2 _ z2, zs_ne (c := 23) (Or.inl (by decide)), gu 23 _ (Or.inl (by decide)), e23, nI_1, zc_ck f1 (by decide), zc_cl (show zt (zt_c t) (zq_ii P nb sz b k) + 1 < 2 ^ 31 by omega)]
            have k1 : zX_Kp P nb sz t b s (zx_su u 25 (zt (zt_c t) (zq_ii P nb sz b k)) (nI (zq_At P nb sz b k (zq_y P b k)))) := g1.trans (zX_Kp.w25 (t := t) (j := 0) isN (by omega) _ u)
            refine fin _ (k1.trans (zX_Kp.w25 (t := t) (j := 1) isN (by omega) _ _)) (fun c i hc => by rw [zs_ne (Or.inl hc), zs_ne (Or.inl hc)]) (fun i k' hk' hN' j hj => ?_) (fun j hj => ?_)
            · have hne : i ≠ zq_ii P nb sz b k := fun e => by
                subst e
                have := (hN'.uniq isN).2; omega
              rw [zs_ne (Or.inr (zq_fo_ne hj (show 1 < zt_c t (zq_ii P nb sz b k) by omega) hne)), zs_ne (i := zt (zt_c t) (zq_ii P nb sz b k)) (Or.inr (zq_fo_ne (j' := 0) hj (show 0 < zt_c t (zq_ii P nb sz b k) by omega) hne))]
              exact g4 i k' hk' hN' j hj
            · rw [hc] at hj
              rcases (show j = 0 ∨ j = 1 by omega) with e | e
              · subst e
                rw [zs_ne (Or.inr (by omega)), to.1]; exact zs_eq _ _ _ _
              · subst e
                rw [zs_eq, to.2]) (n := 10000) (a := s) ⟨zX_Kp.refl b s, h32, fun k' hk' => by omega, fun i k' hk' => by omega⟩ (by omega)
  obtain ⟨s', ⟨w1, w2, w3, w4⟩, w5⟩ := this
  exact ⟨s', ⟨w1, w2, w3, fun i k hN' => w4 i k hN'.2.1 hN'⟩, w5⟩
theorem zX_endVariable_eq (hW : zq_WF P nb sz) {s : zx_S} (hP : zX_Pe P nb s) {b : Nat} (hb : b < nb) (hj : ¬ zq_how P b = 1) : zX_Program_endVariable (nI b) s = some (nI (zq_ev P b)) ∧ zq_ev P b < 10 := by
  have hnb := hW.2.1
  unfold zX_Program_endVariable
  rw [zX_endCounts_eq hW hP hb, zc_b1]
  simp only [zi_0]
  unfold zq_ev
  by_cases c : zp (zq_how P b = P 6 b) = false
  · rw [if_pos c, if_neg (by rw [c]; decide)]
    exact ⟨by rw [nI_0], by decide⟩
  · rw [if_neg c, if_pos (by simpa using c), zc_ck (show b < 16 by omega) (by decide), zc_cl (by omega)]
    have hc : zq_how P b = P 6 b := zp_t.mp (by simpa using c)
    have ab := hP.2.1 b hb
    rcases hW.2.2.2.1 b hb with ⟨h1, y, hy, h2⟩ | ⟨h1, -⟩ | ⟨h1, ⟨y, hy, h2⟩, -⟩
    · rw [ab.2.1 h1, h2, nI_clamp (by omega)]; exact ⟨rfl, hy⟩
    · exact absurd (hc.trans h1) hj
    · rw [(ab.2.2.2 h1).1, h2, nI_clamp (by omega)]; exact ⟨rfl, hy⟩
theorem zX_follow_spec (hW : zq_WF P nb sz) (h : zq_Tab P nb sz t) {b : Nat} (hr : zq_rc P nb b) {s : zx_S} (hP : zX_Pr P nb sz s) (hN : zX_Nr P nb sz t 16 s) (h32 : ∀ v, v < 10 → s 32 (10 * b + v) = nI (zq_Bg P nb sz b v)) : ∃ s', (zX_Kp P nb sz t b s s' ∧ zX_Bk P nb sz t b s') ∧ zX_Values_followBlock (nI b) s = some s' := by
  have hnb := hW.2.1
  have hb := hr.1
  have hb16 : b < 16 := by omega
  unfold zX_Values_followBlock
  rw [zc_lt, zc_ck (show b < 17 by omega) (by decide), zc_cl (by omega), zc_lt, nI_x10, hP.2.2.1 b (by omega)]
  obtain ⟨s1, ⟨a1, a2, a3, a4⟩, a5⟩ := zX_follow_L13_spec hW h (fun s17 => zx_b1 (zX_Program_howCounts (nI b) s17) fun r18 => if r18 = (1 : Int32) then zX_Values_followBlock_J222 (nI b) (nI (10 * b)) (1 : Int32) s17 else zX_Values_followBlock_J222 (nI b) (nI (10 * b)) (0 : Int32) s17) hr hP.2 hN h32
  rw [a5]
  have hP1 : zX_Pr P nb sz s1 := hP.keep (fun c i h1 h2 => a1.1 c i (by omega) (by omega) (by omega) (by omega))
  show ∃ s', _ ∧ (zx_b1 (zX_Program_howCounts (nI b) s1) fun r18 => if r18 = (1 : Int32) then zX_Values_followBlock_J222 (nI b) (nI (10 * b)) (1 : Int32) s1 else zX_Values_followBlock_J222 (nI b) (nI (10 * b)) (0 : Int32) s1) = some s'
  rw [zX_howCounts_eq hW hP1.1 hb, zc_b1]
  have fin : ∀ x : Int32, (x = if zq_how P b = 1 then -1 else nI (zq_En P nb sz b (zq_ev P b))) → zX_Kp P nb sz t b s (zx_su s1 27 b x) ∧ zX_Bk P nb sz t b (zx_su s1 27 b x) := fun x hx => by
    refine ⟨a1.trans (zX_Kp.w27 b x s1), fun v hv => by rw [zs_ne (Or.inl (by decide))]; exact a2 v hv, fun k hk h14 => by rw [zs_ne (Or.inl (by decide))]; exact a3 k hk h14, fun i k hN' j hj => by rw [zs_ne (Or.inl (by decide))]; exact a4 i k hN' j hj, by rw [zs_eq]; exact hx⟩
  by_cases c : zq_how P b = 1
  · rw [if_pos c]
    unfold zX_Values_followBlock_J222
    rw [if_neg (by decide), zc_ck hb16 (by decide), zc_cl (by omega), zc_ls]
    exact ⟨_, fin (-1) (by rw [if_pos c]), rfl⟩
  · rw [if_neg c]
    unfold zX_Values_followBlock_J222
    obtain ⟨e1, e2⟩ := zX_endVariable_eq hW hP1.1 hb c
    rw [if_pos rfl, e1, zc_b1, nI_add, zc_ck (show 10 * b + zq_ev P b < 160 by omega) (by decide), zc_cl (show 10 * b + zq_ev P b < 2 ^ 31 by omega), zc_lt, zc_ck hb16 (by decide), zc_cl (by omega), zc_ls, a2 _ e2]
    exact ⟨_, fin _ (by rw [if_neg c]), rfl⟩
end XF
