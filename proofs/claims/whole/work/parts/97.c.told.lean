/-! PURE: RUN: what INSTRUCTIONS compute; TOLD -/
theorem zG_neg (x : Int32) : x / (-1) = -x := by
  apply Int32.toInt_inj.mp
  have e : (-1 : Int32).toInt = -1 := by decide
  rw [Int32.toInt_div, e, Int32.toInt_neg, Int.tdiv_neg, Int.tdiv_one]
theorem zG_comp {kd : Nat} (h3 : 3 ≤ kd) (h13 : kd ≤ 13) (x y : Int32) (s s' : zx_S) : ∃ r, zX_Machine_compute (nI kd) x y s = some r ∧ zM_ValueBenchModel_work (nI kd) x y s' = some r := by
  unfold zX_Machine_compute zM_ValueBenchModel_work
  by_cases c3 : nI kd = 3
  · rw [if_pos c3, if_pos c3]; exact ⟨_, rfl, rfl⟩
  rw [if_neg c3, if_neg c3]
  by_cases c4 : nI kd = 4
  · rw [if_pos c4, if_pos c4]; exact ⟨_, rfl, rfl⟩
  rw [if_neg c4, if_neg c4]
  by_cases c5 : nI kd = 5
  · rw [if_pos c5, if_pos c5]; exact ⟨_, rfl, rfl⟩
  rw [if_neg c5, if_neg c5]
  by_cases c6 : nI kd = 6
  · rw [if_pos c6, if_pos c6]; exact ⟨_, rfl, rfl⟩
  rw [if_neg c6, if_neg c6]
  by_cases c7 : nI kd = 7
  · rw [if_pos c7, if_pos c7]; exact ⟨_, rfl, rfl⟩
  rw [if_neg c7, if_neg c7]
  by_cases c8 : nI kd = 8
  · rw [if_pos c8, if_pos c8]; exact ⟨_, rfl, rfl⟩
  rw [if_neg c8, if_neg c8]
  by_cases c9 : nI kd = 9
  · rw [if_pos c9, if_pos c9]
    by_cases d : x = y
    · rw [if_pos d]; exact ⟨_, rfl, rfl⟩
    · rw [if_neg d]; exact ⟨_, rfl, rfl⟩
  rw [if_neg c9, if_neg c9]
  by_cases c10 : nI kd = 10
  · rw [if_pos c10, if_pos c10]
    by_cases d : y ≤ x
    · rw [if_pos d]; exact ⟨_, rfl, rfl⟩
    · rw [if_neg d]; exact ⟨_, rfl, rfl⟩
  rw [if_neg c10, if_neg c10]
  by_cases c11 : nI kd = 11
  · rw [if_pos c11, if_pos c11]; exact ⟨_, rfl, rfl⟩
  rw [if_neg c11, if_neg c11]
  by_cases c12 : nI kd = 12
  · rw [if_pos c12, if_pos c12]; exact ⟨_, rfl, rfl⟩
  rw [if_neg c12, if_neg c12]
  have c13 : nI kd = 13 := by
    have e : kd = 13 := by
      rcases (show kd = 13 ∨ kd = 3 ∨ kd = 4 ∨ kd = 5 ∨ kd = 6 ∨ kd = 7 ∨ kd = 8 ∨ kd = 9 ∨ kd = 10 ∨ kd = 11 ∨ kd = 12 by omega) with q | q | q | q | q | q | q | q | q | q | q
      · exact q
      · exact absurd (by rw [q]; decide) c3
      · exact absurd (by rw [q]; decide) c4
      · exact absurd (by rw [q]; decide) c5
      · exact absurd (by rw [q]; decide) c6
      · exact absurd (by rw [q]; decide) c7
      · exact absurd (by rw [q]; decide) c8
      · exact absurd (by rw [q]; decide) c9
      · exact absurd (by rw [q]; decide) c10
      · exact absurd (by rw [q]; decide) c11
      · exact absurd (by rw [q]; decide) c12
    rw [e]; decide
  rw [if_pos c13]
  unfold zX_Machine_divide
  by_cases d : y = 0
  · rw [if_pos d, if_pos d]; exact ⟨_, rfl, rfl⟩
  · rw [if_neg d, if_neg d, zc_ne d]
    by_cases d1 : y = -1
    · rw [if_pos d1, d1, zG_neg]; exact ⟨_, rfl, rfl⟩
    · rw [if_neg d1]; exact ⟨_, rfl, rfl⟩
section RT
variable {P : zx_S} {nb : Nat} {sz : Nat → Nat} {t : zc_Tb}
def zV_t (σ τ : zx_S) : Prop := ∀ v, v < 10 → σ 43 v = τ 32 v
theorem zV_t.set {f u : Nat} {σ τ : zx_S} (hV : zV_t σ τ) (hC : zr_C P nb sz t f u 1 σ τ) (x : Nat) (y : Int32) : zr_C P nb sz t f u 0 (zx_su σ 43 x y) (zx_su τ 32 x y) ∧ zx_su σ 43 x y 50 7 = σ 50 7 ∧ zx_su τ 32 x y 0 38 = τ 0 38 ∧ zV_t (zx_su σ 43 x y) (zx_su τ 32 x y) := by
  refine ⟨hC.weak.keep (fun c i h _ _ _ _ _ => zs_ne (Or.inl h)) (fun c i _ h _ _ _ => zs_ne (Or.inl h)), zs_ne (Or.inl (by decide)), zs_ne (Or.inl (by decide)), fun v hv => ?_⟩
  by_cases e : v = x
  · rw [e, zs_eq, zs_eq]
  · rw [zs_ne (Or.inr e), zs_ne (Or.inr e)]; exact hV v hv
theorem nI_lit {kd : Nat} (h : kd ≤ 14) : (nI kd = 0 ↔ kd = 0) ∧ (nI kd = 1 ↔ kd = 1) ∧ (nI kd = 2 ↔ kd = 2) ∧ (nI kd = 14 ↔ kd = 14) ∧ (2 ≤ nI kd ↔ 2 ≤ kd) := by
  refine ⟨?_, ?_, ?_, ?_, ?_⟩
  · rw [show (0 : Int32) = nI 0 by decide, nI_eq (by omega) (by omega)]
  · rw [show (1 : Int32) = nI 1 by decide, nI_eq (by omega) (by omega)]
  · rw [show (2 : Int32) = nI 2 by decide, nI_eq (by omega) (by omega)]
  · rw [show (14 : Int32) = nI 14 by decide, nI_eq (by omega) (by omega)]
  · rw [show (2 : Int32) = nI 2 by decide, nI_leI (by omega) (by omega)]
theorem zG_H_told (hW : zq_WF P nb sz) : zG_H P nb sz t 0 zX_ToldForm_keeps zX_Machine_follow (fun _ _ => true) (fun _ _ => zV_t) := by
  have hnb := hW.2.1
  refine ⟨fun b k f u m σ τ hb hk hC => ⟨rfl, ?_⟩, fun b k σ τ _ _ q => (by cases q), ?_, fun b k σ τ σ' τ' hV h1 h2 v hv => by rw [h1 43 v (Or.inl rfl), h2 32 v (Or.inl rfl)]; exact hV v hv⟩
  · unfold zM_ValueBenchModel_costs; rw [zc_lt, if_pos rfl]; rfl
  · intro b k f u σ τ hb hk _ hC hV
    have hbn := hb.1
    have hp := (hC.1.1.1.2.bnd hW hk).2
    have hsz := (hW.2.2.1 b hbn).2
    obtain ⟨g3, g4, g5, g6⟩ := hC.1.1.1.2.2.2 b k hbn hk
    obtain ⟨kd, kd1, kd2, ⟨x, x1, x2⟩, w1, w2, w3⟩ := hW.2.2.2.2.1 b k hbn hk
    have mm : ∀ c i, 1 ≤ c → c ≤ 9 → τ c i = P c i := fun c i h1 h2 => by rw [hC.1.2.2.1.at h1 h2]
    obtain ⟨l0, l1, l2, l14, -⟩ := nI_lit kd1
    rw [kd2] at g3 g4 g5 g6
    unfold zX_Machine_follow zX_ToldForm_target zX_ToldForm_left zX_ToldForm_right zM_ValueBenchModel_acts
    simp only [zc_ck hp (by decide), zc_cl (show zt sz b + k < 2 ^ 31 by omega), nI_100, zc_lt, zc_b1, zc_ls, zc_ck (show 100 * b + k < 1600 by omega) (by decide), zc_cl (show 100 * b + k < 2 ^ 31 by omega), mm 1 _ (by decide) (by decide), mm 2 _ (by decide) (by decide), mm 3 _ (by decide) (by decide), mm 4 _ (by decide) (by decide), g3, kd2, x2, zc_ck x1 (by decide), zc_cl (show x < 2 ^ 31 by omega)]
    rw [if_pos trivial]
    by_cases c14 : kd = 14
    · have c0 : ¬ kd = 0 := by omega
      have c1 : ¬ kd = 1 := by omega
      have c2 : ¬ kd = 2 := by omega
      rw [if_neg (mt l0.mp c0), if_neg (mt l1.mp c1), if_neg (mt l2.mp c2), if_pos (l14.mpr c14), if_pos (l14.mpr c14), g5, if_pos (l14.mpr c14), x2, zc_ck x1 (by decide), zc_cl (show x < 2 ^ 31 by omega), hV x x1]
      obtain ⟨σ', τ', t1, t2, t3, t4, t5⟩ := hC.tell (τ 32 x)
      rw [t1, t2, zc_b1, zc_b1]
      exact ⟨σ', τ', rfl, rfl, t3, t4 50 7 (by decide) (by decide), t5 0 38 (by decide) (by decide), fun v hv => by rw [t4 43 v (by decide) (by omega), t5 32 v (by decide) (by omega)]; exact hV v hv⟩
    · rw [if_neg (mt l14.mp c14)] at g4 g5 g6
      rw [x2] at g4
      simp only [g4, g5, g6, zc_ck x1 (by decide), zc_cl (show x < 2 ^ 31 by omega)]
      rw [if_neg (mt l14.mp c14), if_neg (mt l14.mp c14)]
      by_cases c0 : kd = 0
      · rw [if_pos (l0.mpr c0), if_pos (l0.mpr c0)]
        exact ⟨_, _, rfl, rfl, hV.set hC x _⟩
      · rw [if_neg (mt l0.mp c0), if_neg (mt l0.mp c0)]
        by_cases c1 : kd = 1
        · obtain ⟨y, y1, y2⟩ := w1 c1
          rw [if_pos (l1.mpr c1), if_pos (l1.mpr c1), y2, zc_ck y1 (by decide), zc_ck y1 (by decide), zc_cl (show y < 2 ^ 31 by omega), hC.2.2.2.2.2.2 y y1]
          exact ⟨_, _, rfl, rfl, hV.set hC x _⟩
        · rw [if_neg (mt l1.mp c1), if_neg (mt l1.mp c1)]
          obtain ⟨y, y1, y2⟩ := w2 (by omega) (by omega)
          simp only [y2, zc_ck y1 (by decide), zc_cl (show y < 2 ^ 31 by omega)]
          by_cases c2 : kd = 2
          · rw [if_pos (l2.mpr c2), if_pos (l2.mpr c2), hV y y1]
            exact ⟨_, _, rfl, rfl, hV.set hC x _⟩
          · obtain ⟨z, z1, z2⟩ := w3 (by omega) (by omega)
            rw [if_neg (mt l2.mp c2), if_neg (mt l2.mp c2), hV y y1]
            simp only [z2, zc_ck z1 (by decide), zc_cl (show z < 2 ^ 31 by omega), hV z z1]
            obtain ⟨r, r1, r2⟩ := zG_comp (show 3 ≤ kd by omega) (show kd ≤ 13 by omega) (τ 32 y) (τ 32 z) σ τ
            rw [r1, r2, zc_b1, zc_b1]
            exact ⟨_, _, rfl, rfl, hV.set hC x _⟩
theorem zX_fill_6 (s : zx_S) : ∃ s', ((∀ v, v < 10 → s' 43 v = 0) ∧ ∀ c i, c ≠ 43 → s' c i = s c i) ∧ zX_Arrays_fill_6 0 s = some s' := by
  unfold zX_Arrays_fill_6
  have := zf_for (L := fun n i u => zX_Arrays_fill_6_L5 0 10 (fun s3 => some s3) n i u) (k := fun s3 => some s3) 10 (fun v u => (∀ w, w < v → u 43 w = 0) ∧ ∀ c i, c ≠ 43 → u c i = s c i) (fun n u _ => by
    show zX_Arrays_fill_6_L5 0 10 _ (n + 1) (nI 10) u = _
    rw [zX_Arrays_fill_6_L5, if_pos (by decide)]) (fun n v u hv q => by
    show ∃ a', _ ∧ zX_Arrays_fill_6_L5 0 10 _ (n + 1) (nI v) u = zX_Arrays_fill_6_L5 0 10 _ n (nI (v + 1)) a'
    rw [zX_Arrays_fill_6_L5, if_neg (by rw [show (10 : Int32) = nI 10 by decide, nI_leI (by omega) (by omega)]; omega), zc_ck hv (by decide), zc_cl (show v < 2 ^ 31 by omega), zc_ls, zc_lt, nI_1]
    refine ⟨_, ⟨fun w hw => ?_, fun c i hc => by rw [zs_ne (Or.inl hc)]; exact q.2 c i hc⟩, rfl⟩
    by_cases e : w = v
    · rw [e, zs_eq]
    · rw [zs_ne (Or.inr e)]; exact q.1 w (by omega)) (i := 0) (n := 10000) (Nat.zero_le _) (a := s) ⟨fun w hw => by omega, fun _ _ _ => rfl⟩ (by decide)
  rw [nI_0] at this
  exact this
theorem zG_B_told (hW : zq_WF P nb sz) : zG_B P nb sz t 0 zX_ToldForm_begin (fun _ _ => zV_t) := by
  have hnb := hW.2.1
  intro b fr f u σ τ hb hC hE
  unfold zX_ToldForm_begin
  rw [if_pos (show (0 : Int32) ≤ 0 by decide)]
  rcases hE with ⟨e1, e2, e3⟩ | ⟨p, e1, e2, e3⟩
  · obtain ⟨s', ⟨a1, a2⟩, a3⟩ := zX_fill_6 σ
    rw [if_pos e1, a3, zc_b1]
    exact ⟨s', τ, rfl, rfl, hC.keep (fun c i h _ _ _ _ _ => a2 c i h) (fun _ _ _ _ _ _ _ => rfl), a2 50 7 (by decide), rfl, fun v hv => by rw [a1 v hv, e3 v hv]⟩
  · have := e2.1.1
    rw [e1, if_neg (nI_nm1 (by omega))]
    exact ⟨σ, τ, rfl, rfl, hC, rfl, rfl, e3⟩
theorem zG_E_told (hW : zq_WF P nb sz) : zG_E P nb sz t 0 zX_ToldForm_endCell 10 43 (fun _ _ => zV_t) := by
  intro b f u m σ τ hb hj hC hV
  obtain ⟨x1, x2⟩ := zX_endVariable_eq hW hC.1.1.1.1 hb.1 hj
  obtain ⟨y1, y2⟩ := zM_yOf_eq hW hC.1.2.2.1 hb.1 hj
  refine ⟨zq_ev P b, x2, by unfold zX_ToldForm_endCell; rw [x1, zc_b1], fun K => ?_⟩
  unfold zM_en
  rw [if_pos rfl, y1, zc_b1, zc_ck y2 (by decide), zc_cl (show zq_ev P b < 2 ^ 31 by omega), hV _ y2]
end RT
