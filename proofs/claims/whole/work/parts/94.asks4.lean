/-! PURE: about, count -/
section AC
variable {P : zx_S} {nb : Nat} {sz : Nat → Nat} {t : zc_Tb}
theorem zI_ite (f : Nat → Bool) (c i : Nat) : (if f i = true then nI (c + 1) else nI c) = nI (c + (if f i then 1 else 0)) := by
  cases f i <;> rfl
theorem zI_about : zp_S4 zI := by
  rintro σ τ p w ⟨P, nb, sz, t, h⟩
  have hW := h.1
  have hnb := hW.2.1
  unfold zX_ValueBench_about zM_ValueBenchModel_about
  rcases zM_block_cases hW h.2.2.1.1 p with ⟨m1, m2⟩ | ⟨b, rfl, hb, m1⟩
  · have hx : zX_Program_has p σ = some 0 := by
      rcases zI_int p with q | ⟨n, hn, rfl⟩
      · exact zX_has_neg q σ
      · rw [zX_has_eq h.2.2.2.1.1.1.1 hnb hn, decide_eq_false (fun z => m2 ⟨n, rfl, z⟩)]; rfl
    rw [m1, zc_b1, if_pos rfl, hx, zc_b1, if_pos rfl]
    exact ⟨_, _, _, rfl, rfl, P, nb, sz, t, h⟩
  · have hx : zX_Program_has (nI b) σ = some 1 := by
      rw [zX_has_eq h.2.2.2.1.1.1.1 hnb (show b < 2 ^ 31 by omega), decide_eq_true hb]; rfl
    have hn : 0 < nb := by omega
    have ht := h.2.1 hn
    obtain ⟨σ1, x1, x2, x3⟩ := h.X
    obtain ⟨τ1, y1, y2, y3⟩ := x3.M
    have ca := y2.1 hn
    obtain ⟨xl, xe, -⟩ := x2.2.2.1 hn
    have hP1 := y3.2.2.1.1
    rw [m1, zc_b1, if_neg z10, hx, zc_b1, if_neg z10, x1, zc_b1, y1, zc_b1]
    have e10 := y2.r10 hb
    have hs2 : (σ1 2 (b + 1)) - (σ1 2 b) = nI (sz b) := by
      rw [x2.1.2.2.1 (b + 1) (by omega), x2.1.2.2.1 b (by omega), zt_step, ← nI_add, Int32.add_comm, Int32.add_sub_cancel]
    simp only [zc_ck (show b < 16 by omega) (by decide), zc_cl (show b < 2 ^ 31 by omega), e10, zX_reaches_eq hnb x2.2.1.1 (show b < 2 ^ 31 by omega), zc_b1, zi_0, nI_1, zc_ck (show b + 1 < 17 by omega) (by decide), zc_ck (show b < 17 by omega) (by decide), zc_cl (show b + 1 < 2 ^ 31 by omega), hs2, zX_howCounts_eq hW x2.1.1 hb, zM_howOf_eq hP1 (show b < 16 by omega), hP1.at (c := 5) (by decide) (by decide), (hW.2.2.1 b hb).1]
    by_cases c0 : w = 0
    · rw [if_pos c0, if_pos c0]
      by_cases c : zp (zq_rc P nb b) = false
      · rw [if_pos c, if_pos c]; exact ⟨_, _, _, rfl, rfl, P, nb, sz, t, y3⟩
      · rw [if_neg c, if_neg c]; exact ⟨_, _, _, rfl, rfl, P, nb, sz, t, y3⟩
    rw [if_neg c0, if_neg c0]
    by_cases c3 : w = 3
    · rw [if_pos c3, if_pos c3]; exact ⟨_, _, _, rfl, rfl, P, nb, sz, t, y3⟩
    rw [if_neg c3, if_neg c3]
    by_cases c6 : w = 6
    · rw [if_pos c6, if_pos c6]; exact ⟨_, _, _, rfl, rfl, P, nb, sz, t, y3⟩
    rw [if_neg c6, if_neg c6]
    by_cases c : zp (zq_rc P nb b) = false
    · rw [if_pos c, if_pos c]; exact ⟨_, _, _, rfl, rfl, P, nb, sz, t, y3⟩
    rw [if_neg c, if_neg c]
    have hr : zq_rc P nb b := zp_t.mp (by simpa using c)
    unfold zX_ValueBench_aboutReached
    simp only [if_neg c3, zc_ck (show b < 16 by omega) (by decide), zc_cl (show b < 2 ^ 31 by omega)]
    by_cases c1 : w = 1
    · rw [if_pos c1, if_pos c1, zc_b1]
      have e : σ1 16 b = τ1 13 b := by
        have g16 := x2.2.1.2.2.2.2.1 b (by omega)
        have g13 := ca.1.2.2.1 b hb
        by_cases q : b = 0
        · rw [g16.2 (Or.inr q), g13.2 (fun a ha hp => by
            subst q
            exact hp.1 (zq_D.anti hp.2.1 (zq_D.zero hp.2.1.rcl)))]
        · have hp := zq_pa_ok hr q
          rw [g16.1 hr q, g13.1 _ hp.2.1.rcl.1 hp]
      rw [e]; exact ⟨_, _, _, rfl, rfl, P, nb, sz, t, y3⟩
    rw [if_neg c1, if_neg c1]
    by_cases c2 : w = 2
    · rw [if_pos c2, if_pos c2]
      have g13 := x2.2.1.2.1 b (by omega)
      rw [zX_bitCount_eq g13.1, zc_b1, zc_b1, zb_cnt hnb g13.2 (fun p hp => hp.1.1)]
      have := zf_first (L := fun n i => zM_ValueBenchModel_about_L111 (nI b) τ1 (fun v3_16 => some (v3_16, τ1)) n i) (K := fun i => some (nI i, τ1)) (E := some (nI (zq_np P nb b nb), τ1)) (zq_np P nb b nb) 0 (fun _ => False) (fun n => by
        show zM_ValueBenchModel_about_L111 (nI b) τ1 (fun v3_16 => some (v3_16, τ1)) (n + 1) (nI (zq_np P nb b nb)) = _
        have l : zq_np P nb b nb ≤ nb := zn_le _ _
        rw [zM_ValueBenchModel_about_L111, zM_predecessorAt_eq hW hP1 ca.1.1 hb (by omega), zc_b1, zq_nt_no (fun p hp => by have : zq_np P nb b p < zq_np P nb b nb := zn_in hp.1.1 (zp_t.mpr hp); omega), if_neg (Nat.lt_irrefl _), if_pos (by decide)]) (fun n i _ _ hf => hf.elim) (fun n i _ hi _ => by
        show zM_ValueBenchModel_about_L111 (nI b) τ1 (fun v3_16 => some (v3_16, τ1)) (n + 1) (nI i) = zM_ValueBenchModel_about_L111 (nI b) τ1 (fun v3_16 => some (v3_16, τ1)) n (nI (i + 1))
        have l : zq_np P nb b nb ≤ nb := zn_le _ _
        obtain ⟨p, p1, p2, p3⟩ := zn_surj hi
        have hpr : zq_pr P nb b p := zp_t.mp p2
        have e : zq_nt P nb b i = p := by rw [← p3]; exact zq_nt_eq hpr
        rw [zM_ValueBenchModel_about_L111, zM_predecessorAt_eq hW hP1 ca.1.1 hb (by omega), zc_b1, e, if_pos p1, if_neg (nI_pos (by omega)), zc_lt, nI_1]) (Nat.zero_le _) (n := 10000) (by have l : zq_np P nb b nb ≤ nb := zn_le _ _; omega)
      rw [nI_0] at this
      rcases this with ⟨i, -, -, hf, -⟩ | ⟨-, e⟩
      · exact hf.elim
      · exact ⟨_, _, _, rfl, e, P, nb, sz, t, y3⟩
    rw [if_neg c2, if_neg c2]
    by_cases c4 : w = 4
    · rw [if_pos c4, if_pos c4, zc_b1, (xl.1.1.2.2.2.1 b (by omega) hr).2]
      have := zf_cnt (L := fun n c i => zM_ValueBenchModel_about_L131 (nI b) τ1 (fun v3_13 => some (v3_13, τ1)) n c i) (K := fun c => some (c, τ1)) 10 (zq_hc P nb sz b) (fun n c => by
        show zM_ValueBenchModel_about_L131 (nI b) τ1 (fun v3_13 => some (v3_13, τ1)) (n + 1) c (nI 10) = _
        rw [zM_ValueBenchModel_about_L131, if_pos (by decide)]) (fun n c v hv => by
        show zM_ValueBenchModel_about_L131 (nI b) τ1 (fun v3_13 => some (v3_13, τ1)) (n + 1) (nI c) (nI v) = zM_ValueBenchModel_about_L131 (nI b) τ1 (fun v3_13 => some (v3_13, τ1)) n _ (nI (v + 1))
        rw [zM_ValueBenchModel_about_L131, if_neg (by rw [show (10 : Int32) = nI 10 by decide, nI_leI (by omega) (by omega)]; omega), nI_10, zc_ck (show 10 * b + v < 160 by omega) (by decide), zc_cl (show 10 * b + v < 2 ^ 31 by omega), ca.2.1 b v (by omega) hv]
        simp only [zi_0, zc_lt, nI_1, Int32.add_zero]
        have ez : zp (zq_HC P nb sz v b) = zq_hc P nb sz b v := rfl
        rw [ez]
        cases zq_hc P nb sz b v <;> rfl) (n := 10000) (by decide)
      exact ⟨_, _, _, rfl, this, P, nb, sz, t, y3⟩
    rw [if_neg c4, if_neg c4]
    by_cases c5 : w = 5
    · rw [if_pos c5, if_pos c5]
      have g17 := x2.2.1.2.2.2.2.2 b (by omega)
      rw [zX_bitCount_eq g17.1, zc_b1, zc_b1, zb_cnt hnb g17.2 (fun p hp => (hp.rc hnb).2.1)]
      have := zf_cnt (L := fun n c i => zM_ValueBenchModel_about_L172 (nI b) τ1 (fun v3_8 => some (v3_8, τ1)) n c i) (K := fun c => some (c, τ1)) nb (fun x => zp (zq_Fr P nb b x)) (fun n c => by
        show zM_ValueBenchModel_about_L172 (nI b) τ1 (fun v3_8 => some (v3_8, τ1)) (n + 1) c (nI nb) = _
        rw [zM_ValueBenchModel_about_L172, hP1.1, hW.1, if_pos (Int32.le_refl _)]) (fun n c v hv => by
        show zM_ValueBenchModel_about_L172 (nI b) τ1 (fun v3_8 => some (v3_8, τ1)) (n + 1) (nI c) (nI v) = zM_ValueBenchModel_about_L172 (nI b) τ1 (fun v3_8 => some (v3_8, τ1)) n _ (nI (v + 1))
        rw [zM_ValueBenchModel_about_L172, hP1.1, hW.1, if_neg (by rw [nI_leI (by omega) (by omega)]; omega), nI_16, zc_ck (show 16 * b + v < 256 by omega) (by decide), zc_cl (show 16 * b + v < 2 ^ 31 by omega), ca.1.2.2.2 b v hb hv]
        simp only [zi_0, zc_lt, nI_1, Int32.add_zero]
        cases zp (zq_Fr P nb b v) <;> rfl) (n := 10000) (by omega)
      exact ⟨_, _, _, rfl, this, P, nb, sz, t, y3⟩
    rw [if_neg c5, if_neg c5, zc_b1]
    exact ⟨_, _, _, rfl, rfl, P, nb, sz, t, y3⟩
end AC
