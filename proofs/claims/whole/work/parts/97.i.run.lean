/-! PURE: RUN: all of it -/
section RN
variable {P : zx_S} {nb : Nat} {sz : Nat → Nat} {t : zc_Tb}
theorem zr_F.I (hW : zq_WF P nb sz) (ht : 0 < nb → zq_Tab P nb sz t) (hn : 0 < nb) {σ τ : zx_S} (h : zr_F P nb sz t σ τ) : zI σ τ := by
  obtain ⟨f, u, ⟨⟨a1, a2, a3, a4, a5⟩, ⟨b1, b2, b3, b4, b5, b6, b7⟩, ⟨e, e1, e2, e3, e4⟩, d1, d2, d3, d4⟩, h7⟩ := h
  refine ⟨P, nb, sz, t, hW, ht, ⟨a3, fun _ => ⟨fun _ => a4, fun z => by omega⟩, a5⟩, ⟨a1.1, a2, fun _ => a1⟩, by rw [b4, b5], ⟨f, b1, b2, b5⟩, d1, by rw [b6, b7], by rw [e2, e3], h7, fun i h1 h2 => ?_, d2, d3⟩
  rw [e3, nI_ltI (by omega) (by omega)] at h2
  exact e4 i h1 h2
theorem zr_start {σ τ : zx_S} (h : zI_P P nb sz t σ τ) (hX : zX_Ca P nb sz t σ) (hM : zm_Ca P nb sz t τ) {σ3 τ3 : zx_S} (x : ∀ c i, c ≤ 49 ∨ c = 52 ∨ (c = 50 ∧ i = 3) → σ3 c i = σ c i) (x4 : σ3 50 4 = 0) (x5 : σ3 50 5 = 0) (x6 : σ3 50 6 = 0) (y : ∀ c i, (c = 0 ∧ (i < 35 ∨ 38 ≤ i)) ∨ (1 ≤ c ∧ c ≤ 31) → τ3 c i = τ c i) (y4 : τ3 0 35 = 0) (y5 : τ3 0 36 = 0) (y6 : τ3 0 37 = 0) (hi : ∀ i, i < 4 → σ3 51 i = τ3 35 i) : ∃ f, f ≤ 5000 ∧ zr_C P nb sz t f 0 0 σ3 τ3 := by
  obtain ⟨hW, ht, ⟨m1, m2, m3⟩, ⟨n1, n2, n3⟩, r1, ⟨f, f1, f2, f3⟩, r3, r4, r5, r6, r7, r8, r9⟩ := h
  refine ⟨f, f1, ⟨hX.keep (fun c i _ q => x c i (by omega)), by rw [x 23 0 (by decide)]; exact n2, m1.keep (fun c i q => y c i (by omega)), hM.keep (fun c i q => y c i (by omega)), by rw [y 0 1 (by decide)]; exact m3⟩, ⟨f1, f2, Nat.zero_le _, by rw [x 50 3 (by decide), r1, f3], by rw [y 0 34 (by decide)]; exact f3, by rw [x5, nI_0], by rw [y5, nI_0]⟩, ⟨0, by decide, by rw [x6, nI_0], by rw [y6, nI_0], fun i _ q => by omega⟩, by rw [x4, y4], by rw [x 45 0 (by decide)]; exact r8, by rw [x 48 0 (by decide)]; exact r9, hi⟩
theorem zX_take (p1 p2 p3 p4 : Int32) (s : zx_S) : zX_Machine_takeInputs p1 p2 p3 p4 s = some (zx_su (zx_su (zx_su (zx_su s 51 0 p1) 51 1 p2) 51 2 p3) 51 3 p4) := rfl
theorem zM_L70_eq (v1 : Int32) (K : zx_S → Option (Int32 × zx_S)) (s : zx_S) : ∃ s', ((∀ v, v < 10 → s' 32 v = 0) ∧ ∀ c i, c ≠ 32 → s' c i = s c i) ∧ zM_ValueBenchModel_run_L70 v1 K 10000 (0 : Int32) s = K s' := by
  have := zf_for (L := fun n i u => zM_ValueBenchModel_run_L70 v1 K n i u) (k := K) 10 (fun v u => (∀ w, w < v → u 32 w = 0) ∧ ∀ c i, c ≠ 32 → u c i = s c i) (fun n u _ => by
    show zM_ValueBenchModel_run_L70 v1 K (n + 1) (nI 10) u = _
    rw [zM_ValueBenchModel_run_L70, if_pos (by decide)]) (fun n v u hv q => by
    show ∃ a', _ ∧ zM_ValueBenchModel_run_L70 v1 K (n + 1) (nI v) u = zM_ValueBenchModel_run_L70 v1 K n (nI (v + 1)) a'
    rw [zM_ValueBenchModel_run_L70, if_neg (by rw [show (10 : Int32) = nI 10 by decide, nI_leI (by omega) (by omega)]; omega), zc_ck hv (by decide), zc_cl (show v < 2 ^ 31 by omega), zc_ls, zc_lt, nI_1]
    refine ⟨_, ⟨fun w hw => ?_, fun c i hc => by rw [zs_ne (Or.inl hc)]; exact q.2 c i hc⟩, rfl⟩
    by_cases e : w = v
    · rw [e, zs_eq]
    · rw [zs_ne (Or.inr e)]; exact q.1 w (by omega)) (i := 0) (n := 10000) (Nat.zero_le _) (a := s) ⟨fun w hw => by omega, fun _ _ _ => rfl⟩ (by decide)
  rw [nI_0] at this
  exact this
def zX_s4 (s : zx_S) : zx_S := zx_su (zx_su (zx_su (zx_su s 50 4 0) 50 5 0) 50 6 0) 50 7 0
theorem zG_kX_eq : (fun (v5_19 : Int32) (s20 : zx_S) => zx_ls (zx_su s20 50 4 v5_19) fun s21 => some ((0 : Int32), s21)) = zG_kX := rfl
theorem zG_kM_eq : (fun (v9_30 : Int32) (s31 : zx_S) => zx_ls (zx_su s31 0 35 v9_30) fun s32 => some ((0 : Int32), s32)) = zG_kM := rfl
theorem zk_40 {α : Type} (k : Option α) : zx_ck (0 : Int32) 4 k = k := zc_ck (i := 0) (by decide) (by decide) k
theorem zk_41 {α : Type} (k : Option α) : zx_ck (1 : Int32) 4 k = k := zc_ck (i := 1) (by decide) (by decide) k
theorem zk_42 {α : Type} (k : Option α) : zx_ck (2 : Int32) 4 k = k := zc_ck (i := 2) (by decide) (by decide) k
theorem zk_43 {α : Type} (k : Option α) : zx_ck (3 : Int32) 4 k = k := zc_ck (i := 3) (by decide) (by decide) k
theorem zG_p1 (s : zx_S) : zX_Machine_perform s = zG_pf zX_ToldForm_begin (zG_fo zX_ToldForm_keeps zX_Machine_follow) zX_ToldForm_endCell 10 43 zG_kX 10000 (-1) 0 (zX_s4 s) := by
  unfold zX_Machine_perform; rw [zG_pf1, zG_kX_eq]; simp only [zc_ls, zX_s4]
theorem zG_p2 (s : zx_S) : zX_Machine_perform_2 s = zG_pf zX_ValueForm_begin (zG_fo zX_ValueForm_keeps zX_Machine_follow_2) zX_ValueForm_endCell 261 45 zG_kX 10000 (-1) 0 (zX_s4 s) := by
  unfold zX_Machine_perform_2; rw [zG_pf2, zG_kX_eq]; simp only [zc_ls, zX_s4]
theorem zG_p3 (s : zx_S) : zX_Machine_perform_3 s = zG_pf zX_ValueForm_begin_2 (zG_fo zX_ValueForm_keeps_2 zX_Machine_follow_3) zX_ValueForm_endCell_2 261 48 zG_kX 10000 (-1) 0 (zX_s4 s) := by
  unfold zX_Machine_perform_3; rw [zG_pf3, zG_kX_eq]; simp only [zc_ls, zX_s4]
theorem zx_b2_id (r : Option (Int32 × zx_S)) : (zx_b2 r fun a b => some (a, b)) = r := by
  cases r with
  | none => rfl
  | some q => rfl
theorem zI_run : zp_S14 zI := by
  rintro σ τ p0 p1 p2 p3 p4 ⟨P, nb, sz, t, h⟩
  have hW := h.1
  have hnb := hW.2.1
  have e19 : σ 1 9 = nI nb := h.2.2.2.1.1.1.1
  have e00 : τ 0 0 = nI nb := by rw [h.2.2.1.1.1, hW.1]
  have same : ∃ v σ1 τ1, some ((-1 : Int32), σ) = some (v, σ1) ∧ some ((-1 : Int32), τ) = some (v, τ1) ∧ zI σ1 τ1 := ⟨_, _, _, rfl, rfl, P, nb, sz, t, h⟩
  unfold zX_ValueBench_run zM_ValueBenchModel_run
  by_cases hn0 : nb = 0
  · rw [if_pos (show σ 1 9 = 0 by rw [e19, hn0, nI_0])]
    by_cases c : p0 < 0
    · rw [if_pos c]; exact same
    · rw [if_neg c]
      by_cases c2 : 2 < p0
      · rw [if_pos c2]; exact same
      · rw [if_neg c2, if_pos (show τ 0 0 = 0 by rw [e00, hn0, nI_0])]; exact same
  · have hn : 0 < nb := by omega
    have ht := h.2.1 hn
    have nz : ¬ nI nb = 0 := fun z => hn0 (nI_inj (b := 0) (by omega) (by omega) (z.trans nI_0.symm))
    rw [if_neg (show ¬ σ 1 9 = 0 by rw [e19]; exact nz)]
    by_cases c : p0 < 0
    · rw [if_pos c, if_pos c]; exact same
    · rw [if_neg c, if_neg c]
      by_cases c2 : p0 ≤ 2
      · rw [if_pos c2, if_neg (show ¬ 2 < p0 by rw [Int32.lt_iff_toInt_lt]; rw [Int32.le_iff_toInt_le] at c2; omega), if_neg (show ¬ τ 0 0 = 0 by rw [e00]; exact nz)]
        obtain ⟨σ1, x1, x2, x3⟩ := h.X
        obtain ⟨τ1, y1, y2, y3⟩ := x3.M
        rw [x1, zc_b1, zX_take, zc_b1, y1, zc_b1]
        have z2 : (2 : Int32) = nI 2 := by decide
        have t0 : (0 : Int32).toNatClampNeg = 0 := by decide
        have t1 : (1 : Int32).toNatClampNeg = 1 := by decide
        have t2 : (2 : Int32).toNatClampNeg = 2 := by decide
        have t3 : (3 : Int32).toNatClampNeg = 3 := by decide
        obtain ⟨τ3, ⟨w1, w2⟩, w3⟩ := zM_L70_eq p0 (fun s11 => zM_ValueBenchModel_run_L97 p0 (fun v9_30 s31 => zx_ls (zx_su s31 0 35 v9_30) fun s32 => some ((0 : Int32), s32)) 10000 (-1 : Int32) (0 : Int32) s11) (zx_su (zx_su (zx_su (zx_su (zx_su (zx_su (zx_su τ1 35 0 p1) 35 1 p2) 35 2 p3) 35 3 p4) 0 35 0) 0 36 0) 0 37 0)
        rw [zk_40, zc_ls, t0, zk_41, zc_ls, t1, zk_42, zc_ls, t2, zk_43, zc_ls, t3, zc_ls, zc_ls, zc_ls, w3, zG_kM_eq]
        generalize eσ : zx_su (zx_su (zx_su (zx_su σ1 51 0 p1) 51 1 p2) 51 2 p3) 51 3 p4 = σ2
        have s2 : ∀ c i, c ≠ 51 → σ2 c i = σ1 c i := fun c i hc => by rw [← eσ, zs_ne (Or.inl hc), zs_ne (Or.inl hc), zs_ne (Or.inl hc), zs_ne (Or.inl hc)]
        have i2 : σ2 51 0 = p1 ∧ σ2 51 1 = p2 ∧ σ2 51 2 = p3 ∧ σ2 51 3 = p4 := by
          rw [← eσ]
          refine ⟨?_, ?_, ?_, ?_⟩
          · rw [zs_ne (Or.inr (by decide)), zs_ne (Or.inr (by decide)), zs_ne (Or.inr (by decide)), zs_eq]
          · rw [zs_ne (Or.inr (by decide)), zs_ne (Or.inr (by decide)), zs_eq]
          · rw [zs_ne (Or.inr (by decide)), zs_eq]
          · rw [zs_eq]
        have s3 : ∀ c i, ¬ (c = 50 ∧ 4 ≤ i ∧ i ≤ 7) → zX_s4 σ2 c i = σ2 c i := fun c i hc => by
          unfold zX_s4
          rw [zs_ne (by omega), zs_ne (by omega), zs_ne (by omega), zs_ne (by omega)]
        have v4 : zX_s4 σ2 50 4 = 0 := by unfold zX_s4; rw [zs_ne (Or.inr (by decide)), zs_ne (Or.inr (by decide)), zs_ne (Or.inr (by decide)), zs_eq]
        have v5 : zX_s4 σ2 50 5 = 0 := by unfold zX_s4; rw [zs_ne (Or.inr (by decide)), zs_ne (Or.inr (by decide)), zs_eq]
        have v6 : zX_s4 σ2 50 6 = 0 := by unfold zX_s4; rw [zs_ne (Or.inr (by decide)), zs_eq]
        have v7 : zX_s4 σ2 50 7 = nI 0 := by unfold zX_s4; rw [zs_eq, nI_0]
        have m3 : ∀ c i, c ≠ 32 → c ≠ 35 → ¬ (c = 0 ∧ 35 ≤ i ∧ i ≤ 37) → τ3 c i = τ1 c i := fun c i h1 h2 h3 => by
          rw [w2 c i h1, zs_ne (by omega), zs_ne (by omega), zs_ne (by omega), zs_ne (by omega), zs_ne (by omega), zs_ne (by omega), zs_ne (by omega)]
        have k35 : τ3 0 35 = 0 := by rw [w2 0 35 (by decide), zs_ne (Or.inr (by decide)), zs_ne (Or.inr (by decide)), zs_eq]
        have k36 : τ3 0 36 = 0 := by rw [w2 0 36 (by decide), zs_ne (Or.inr (by decide)), zs_eq]
        have k37 : τ3 0 37 = 0 := by rw [w2 0 37 (by decide), zs_eq]
        have j3 : τ3 35 0 = p1 ∧ τ3 35 1 = p2 ∧ τ3 35 2 = p3 ∧ τ3 35 3 = p4 := by
          refine ⟨?_, ?_, ?_, ?_⟩
          · rw [w2 35 0 (by decide), zs_ne (Or.inl (by decide)), zs_ne (Or.inl (by decide)), zs_ne (Or.inl (by decide)), zs_ne (Or.inr (by decide)), zs_ne (Or.inr (by decide)), zs_ne (Or.inr (by decide)), zs_eq]
          · rw [w2 35 1 (by decide), zs_ne (Or.inl (by decide)), zs_ne (Or.inl (by decide)), zs_ne (Or.inl (by decide)), zs_ne (Or.inr (by decide)), zs_ne (Or.inr (by decide)), zs_eq]
          · rw [w2 35 2 (by decide), zs_ne (Or.inl (by decide)), zs_ne (Or.inl (by decide)), zs_ne (Or.inl (by decide)), zs_ne (Or.inr (by decide)), zs_eq]
          · rw [w2 35 3 (by decide), zs_ne (Or.inl (by decide)), zs_ne (Or.inl (by decide)), zs_ne (Or.inl (by decide)), zs_eq]
        obtain ⟨f, f1, hC⟩ := zr_start y3 x2 (y2.1 hn) (σ3 := zX_s4 σ2) (τ3 := τ3) (fun c i q => by rw [s3 c i (by omega), s2 c i (by omega)]) v4 v5 v6 (fun c i q => m3 c i (by omega) (by omega) (by omega)) k35 k36 k37 (fun i hi => by
          rw [s3 51 i (by omega)]
          rcases (show i = 0 ∨ i = 1 ∨ i = 2 ∨ i = 3 by omega) with e | e | e | e
          · rw [e, i2.1, j3.1]
          · rw [e, i2.2.1, j3.2.1]
          · rw [e, i2.2.2.1, j3.2.2.1]
          · rw [e, i2.2.2.2, j3.2.2.2])
        have rc0 := zq_rc.zero (P := P) hn
        by_cases q0 : p0 = 0
        · subst q0
          rw [if_pos rfl, zx_b2_id, zG_p1]
          obtain ⟨r, σ', τ', o1, o2, o3⟩ := zG_sim hW (by decide) (zG_H_told hW) (zG_B_told hW) (zG_E_told hW) 10000 0 (-1) f 0 0 (zX_s4 σ2) τ3 rc0 hC v7 (Or.inl ⟨rfl, rfl, w1⟩) (Nat.le_refl _) (by omega)
          rw [nI_0] at o1 o2
          exact ⟨r, σ', τ', o1, o2, o3.I hW h.2.1 hn⟩
        · rw [if_neg q0]
          by_cases q1 : p0 = 1
          · subst q1
            rw [if_pos rfl, zx_b2_id, zG_p2]
            obtain ⟨r, σ', τ', o1, o2, o3⟩ := zG_sim hW (by decide) (zG_H_v hW hn ht) (zG_B_v hW hn ht) (zG_E_v hW hn ht) 10000 0 (-1) f 0 0 (zX_s4 σ2) τ3 rc0 hC v7 (Or.inl ⟨rfl, rfl, w1⟩) (Nat.le_refl _) (by omega)
            rw [nI_0] at o1 o2
            exact ⟨r, σ', τ', o1, o2, o3.I hW h.2.1 hn⟩
          · have q2 : p0 = 2 := by
              rcases zI_int p0 with q | ⟨n, n1, n2⟩
              · exact absurd q c
              · subst n2
                rw [z2, nI_leI n1 (by omega)] at c2
                rcases (show n = 0 ∨ n = 1 ∨ n = 2 by omega) with e | e | e
                · exact absurd (by rw [e]; decide) q0
                · exact absurd (by rw [e]; decide) q1
                · rw [e]; decide
            subst q2
            rw [if_neg q1, zx_b2_id, zG_p3]
            obtain ⟨r, σ', τ', o1, o2, o3⟩ := zG_sim hW (by decide) (zG_H_l hW hn ht) (zG_B_l hW hn ht) (zG_E_l hW hn ht) 10000 0 (-1) f 0 0 (zX_s4 σ2) τ3 rc0 hC v7 (Or.inl ⟨rfl, rfl, w1⟩) (Nat.le_refl _) (by omega)
            rw [nI_0] at o1 o2
            exact ⟨r, σ', τ', o1, o2, o3.I hW h.2.1 hn⟩
      · rw [if_neg c2, if_pos (show 2 < p0 by rw [Int32.lt_iff_toInt_lt]; rw [Int32.le_iff_toInt_le] at c2; omega)]; exact same
end RN
