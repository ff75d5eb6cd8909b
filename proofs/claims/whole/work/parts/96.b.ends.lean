/-! PURE: ends -/
theorem zI_var (p : Int32) (σ τ : zx_S) : (zX_Program_isVariable p σ = some 1 ∧ zM_ValueBenchModel_isVariable p τ = some 1 ∧ ∃ x, x < 10 ∧ p = nI x) ∨ (zX_Program_isVariable p σ = some 0 ∧ zM_ValueBenchModel_isVariable p τ = some 0) := by
  unfold zX_Program_isVariable zM_ValueBenchModel_isVariable
  rcases zI_int p with q | ⟨n, hn, rfl⟩
  · right; rw [if_pos q]; exact ⟨rfl, rfl⟩
  · rw [if_neg (nI_pos hn)]
    by_cases c : n < 10
    · left
      have : ¬ (10 : Int32) ≤ nI n := by rw [show (10 : Int32) = nI 10 by decide, nI_leI (by omega) hn]; omega
      rw [if_neg this]; exact ⟨rfl, rfl, n, c, rfl⟩
    · right
      have : (10 : Int32) ≤ nI n := by rw [show (10 : Int32) = nI 10 by decide, nI_leI (by omega) hn]; omega
      rw [if_pos this]; exact ⟨rfl, rfl⟩
theorem zI_blk (p : Int32) (σ : zx_S) : (zX_Program_isBlockNumber p σ = some 1 ∧ ¬ p < 0 ∧ ¬ (16 : Int32) ≤ p ∧ p < 16 ∧ ∃ e, e < 16 ∧ p = nI e) ∨ (zX_Program_isBlockNumber p σ = some 0 ∧ (p < 0 ∨ (¬ p < 0 ∧ (16 : Int32) ≤ p ∧ ¬ p < 16))) := by
  unfold zX_Program_isBlockNumber
  rcases zI_int p with q | ⟨n, hn, rfl⟩
  · right; rw [if_pos q]; exact ⟨rfl, Or.inl q⟩
  · rw [if_neg (nI_pos hn)]
    by_cases c : n < 16
    · left
      have : ¬ (16 : Int32) ≤ nI n := by rw [show (16 : Int32) = nI 16 by decide, nI_leI (by omega) hn]; omega
      rw [if_neg this]; exact ⟨rfl, nI_pos hn, this, by rw [show (16 : Int32) = nI 16 by decide, nI_ltI hn (by omega)]; exact c, n, c, rfl⟩
    · right
      have : (16 : Int32) ≤ nI n := by rw [show (16 : Int32) = nI 16 by decide, nI_leI (by omega) hn]; omega
      rw [if_pos this]; exact ⟨rfl, Or.inr ⟨nI_pos hn, this, by rw [show (16 : Int32) = nI 16 by decide, nI_ltI hn (by omega)]; omega⟩⟩
theorem zI_ends_ok {σ τ : zx_S} {nb : Nat} {sz : Nat → Nat} (hW : zq_WF τ nb sz) (hX : zX_Pr τ nb sz σ) (h23 : σ 23 0 = 0) (h1 : τ 0 1 = nI (zt sz nb)) (hR : zI_R σ τ) {b : Nat} (hb : b < nb) {p2 p3 p4 p5 : Int32} (hV : (p2 = 0 ∧ ∃ y, y < 10 ∧ p3 = nI y) ∨ (p2 = 1 ∧ ∃ e, e < 16 ∧ p4 = nI e) ∨ (p2 = 2 ∧ (∃ y, y < 10 ∧ p3 = nI y) ∧ (∃ e, e < 16 ∧ p4 = nI e) ∧ ∃ e, e < 16 ∧ p5 = nI e)) : ∃ σ', zX_Program_setEnd (nI b) p2 p3 p4 p5 (zx_su σ 0 9 1) = some σ' ∧ zI σ' (zx_su (zx_su (zx_su (zx_su (zx_su τ 6 b p2) 7 b p3) 8 b p4) 9 b p5) 0 11 0) := by
  have hnb := hW.2.1
  have hb16 : b < 16 := by omega
  -- what the class sets
  have hx : ∃ y9 y10, zX_Program_setEnd (nI b) p2 p3 p4 p5 (zx_su σ 0 9 1) = some (zx_su (zx_su (zx_su (zx_su (zx_su σ 0 9 1) 7 b p2) 8 b (if p2 = 1 then 0 else p3)) 9 b y9) 10 b y10) ∧ (p2 = 1 → y9 = p4 ∧ y10 = p4) ∧ (p2 = 2 → y9 = p4 ∧ y10 = p5) := by
    unfold zX_Program_setEnd
    rw [zc_ck hb16 (by decide), zc_cl (by omega), zc_ls]
    have j22 : ∀ x : Int32, zX_Program_setEnd_J22 (nI b) p2 p4 p5 (nI b) x (zx_su (zx_su σ 0 9 1) 7 b p2) = zX_Program_setEnd_J38 (nI b) p2 p5 (nI b) (if p2 = 0 then 0 else p4) (zx_su (zx_su (zx_su σ 0 9 1) 7 b p2) 8 b x) := fun x => by
      unfold zX_Program_setEnd_J22
      rw [zc_ck hb16 (by decide), zc_cl (by omega), zc_ls]
      by_cases c : p2 = 0
      · rw [if_pos c, if_pos c]
      · rw [if_neg c, if_neg c]
    have j38 : ∀ (x y : Int32), zX_Program_setEnd_J38 (nI b) p2 p5 (nI b) y (zx_su (zx_su (zx_su σ 0 9 1) 7 b p2) 8 b x) = some (zx_su (zx_su (zx_su (zx_su (zx_su σ 0 9 1) 7 b p2) 8 b x) 9 b y) 10 b (if p2 = 2 then p5 else y)) := fun x y => by
      unfold zX_Program_setEnd_J38
      rw [zc_ck hb16 (by decide), zc_cl (by omega), zc_ls]
      by_cases c : p2 = 2
      · rw [if_pos c, if_pos c, zc_ck hb16 (by decide), zc_ls]
      · rw [if_neg c, if_neg c, zc_ck hb16 (by decide), zs_eq, zc_lt, zc_ck hb16 (by decide), zc_ls]
    refine ⟨if p2 = 0 then 0 else p4, if p2 = 2 then p5 else (if p2 = 0 then 0 else p4), ?_, fun c => ?_, fun c => ?_⟩
    · by_cases c : p2 = 1
      · rw [if_pos c, if_pos c, j22, j38]
      · rw [if_neg c, if_neg c, j22, j38]
    · rw [if_neg (show ¬ p2 = 0 by rw [c]; decide), if_neg (show ¬ p2 = 2 by rw [c]; decide)]; exact ⟨rfl, rfl⟩
    · rw [if_neg (show ¬ p2 = 0 by rw [c]; decide), if_pos c]; exact ⟨rfl, rfl⟩
  obtain ⟨y9, y10, hx1, hx2, hx3⟩ := hx
  refine ⟨_, hx1, ?_⟩
  have fT : ∀ c i, ((c ≠ 6 ∧ c ≠ 7 ∧ c ≠ 8 ∧ c ≠ 9) ∨ i ≠ b) → (c ≠ 0 ∨ i ≠ 11) → zx_su (zx_su (zx_su (zx_su (zx_su τ 6 b p2) 7 b p3) 8 b p4) 9 b p5) 0 11 0 c i = τ c i := fun c i h1 h2 => by
    rw [zs_ne (by omega), zs_ne (by omega), zs_ne (by omega), zs_ne (by omega), zs_ne (by omega)]
  have fX : ∀ c i, ((c ≠ 7 ∧ c ≠ 8 ∧ c ≠ 9 ∧ c ≠ 10) ∨ i ≠ b) → (c ≠ 0 ∨ i ≠ 9) → zx_su (zx_su (zx_su (zx_su (zx_su σ 0 9 1) 7 b p2) 8 b (if p2 = 1 then 0 else p3)) 9 b y9) 10 b y10 c i = σ c i := fun c i h1 h2 => by
    rw [zs_ne (by omega), zs_ne (by omega), zs_ne (by omega), zs_ne (by omega), zs_ne (by omega)]
  have t6 : zx_su (zx_su (zx_su (zx_su (zx_su τ 6 b p2) 7 b p3) 8 b p4) 9 b p5) 0 11 0 6 b = p2 := by rw [zs_ne (Or.inl (by decide)), zs_ne (Or.inl (by decide)), zs_ne (Or.inl (by decide)), zs_ne (Or.inl (by decide)), zs_eq]
  have t7 : zx_su (zx_su (zx_su (zx_su (zx_su τ 6 b p2) 7 b p3) 8 b p4) 9 b p5) 0 11 0 7 b = p3 := by rw [zs_ne (Or.inl (by decide)), zs_ne (Or.inl (by decide)), zs_ne (Or.inl (by decide)), zs_eq]
  have t8 : zx_su (zx_su (zx_su (zx_su (zx_su τ 6 b p2) 7 b p3) 8 b p4) 9 b p5) 0 11 0 8 b = p4 := by rw [zs_ne (Or.inl (by decide)), zs_ne (Or.inl (by decide)), zs_eq]
  have t9 : zx_su (zx_su (zx_su (zx_su (zx_su τ 6 b p2) 7 b p3) 8 b p4) 9 b p5) 0 11 0 9 b = p5 := by rw [zs_ne (Or.inl (by decide)), zs_eq]
  have x7 : zx_su (zx_su (zx_su (zx_su (zx_su σ 0 9 1) 7 b p2) 8 b (if p2 = 1 then 0 else p3)) 9 b y9) 10 b y10 7 b = p2 := by rw [zs_ne (Or.inl (by decide)), zs_ne (Or.inl (by decide)), zs_ne (Or.inl (by decide)), zs_eq]
  have x8 : zx_su (zx_su (zx_su (zx_su (zx_su σ 0 9 1) 7 b p2) 8 b (if p2 = 1 then 0 else p3)) 9 b y9) 10 b y10 8 b = if p2 = 1 then 0 else p3 := by rw [zs_ne (Or.inl (by decide)), zs_ne (Or.inl (by decide)), zs_eq]
  have x9 : zx_su (zx_su (zx_su (zx_su (zx_su σ 0 9 1) 7 b p2) 8 b (if p2 = 1 then 0 else p3)) 9 b y9) 10 b y10 9 b = y9 := by rw [zs_ne (Or.inl (by decide)), zs_eq]
  have x10 : zx_su (zx_su (zx_su (zx_su (zx_su σ 0 9 1) 7 b p2) 8 b (if p2 = 1 then 0 else p3)) 9 b y9) 10 b y10 10 b = y10 := zs_eq _ _ _ _
  have n9 : zx_su (zx_su (zx_su (zx_su (zx_su σ 0 9 1) 7 b p2) 8 b (if p2 = 1 then 0 else p3)) 9 b y9) 10 b y10 0 9 = 1 := by rw [zs_ne (Or.inl (by decide)), zs_ne (Or.inl (by decide)), zs_ne (Or.inl (by decide)), zs_ne (Or.inl (by decide)), zs_eq]
  have n11 : zx_su (zx_su (zx_su (zx_su (zx_su τ 6 b p2) 7 b p3) 8 b p4) 9 b p5) 0 11 0 0 11 = 0 := zs_eq _ _ _ _
  generalize zx_su (zx_su (zx_su (zx_su (zx_su τ 6 b p2) 7 b p3) 8 b p4) 9 b p5) 0 11 0 = τ' at *
  generalize zx_su (zx_su (zx_su (zx_su (zx_su σ 0 9 1) 7 b p2) 8 b (if p2 = 1 then 0 else p3)) 9 b y9) 10 b y10 = σ' at *
  refine zI_new (nb := nb) (sz := sz) ?_ ?_ n11 n9 ?_ ?_ ?_
  · refine ⟨by rw [fT 0 0 (Or.inl (by decide)) (Or.inr (by decide))]; exact hW.1, hnb, fun c hc => by rw [fT 5 c (Or.inl (by decide)) (Or.inl (by decide))]; exact hW.2.2.1 c hc, fun c hc => ?_, fun c k hc hk => ?_, hW.2.2.2.2.2⟩
    · by_cases e : c = b
      · subst e; rw [t6, t7, t8, t9]; exact hV
      · rw [fT 6 c (Or.inr e) (Or.inl (by decide)), fT 7 c (Or.inr e) (Or.inl (by decide)), fT 8 c (Or.inr e) (Or.inl (by decide)), fT 9 c (Or.inr e) (Or.inl (by decide))]; exact hW.2.2.2.1 c hc
    · rw [fT 1 _ (Or.inl (by decide)) (Or.inl (by decide)), fT 2 _ (Or.inl (by decide)) (Or.inl (by decide)), fT 3 _ (Or.inl (by decide)) (Or.inl (by decide)), fT 4 _ (Or.inl (by decide)) (Or.inl (by decide))]; exact hW.2.2.2.2.1 c k hc hk
  · refine ⟨⟨by rw [fX 1 9 (Or.inl (by decide)) (Or.inl (by decide))]; exact hX.1.1, fun c hc => ?_, fun c h2 h3 => ?_⟩, hX.2.1, fun c hc => by rw [fX 2 c (Or.inl (by decide)) (Or.inl (by decide))]; exact hX.2.2.1 c hc, fun c k hc hk => ?_⟩
    · by_cases e : c = b
      · subst e
        rw [t6, t7, t8, t9, x7, x8, x9, x10]
        exact ⟨rfl, fun z => by rw [if_neg (by rw [z]; decide)], fun z => hx2 z, fun z => ⟨by rw [if_neg (by rw [z]; decide)], hx3 z⟩⟩
      · rw [fT 6 c (Or.inr e) (Or.inl (by decide)), fT 7 c (Or.inr e) (Or.inl (by decide)), fT 8 c (Or.inr e) (Or.inl (by decide)), fT 9 c (Or.inr e) (Or.inl (by decide)), fX 7 c (Or.inr e) (Or.inl (by decide)), fX 8 c (Or.inr e) (Or.inl (by decide)), fX 9 c (Or.inr e) (Or.inl (by decide)), fX 10 c (Or.inr e) (Or.inl (by decide))]; exact hX.1.2.1 c hc
    · have e : c ≠ b := by omega
      rw [fX 7 c (Or.inr e) (Or.inl (by decide)), fX 8 c (Or.inr e) (Or.inl (by decide))]; exact hX.1.2.2 c h2 h3
    · rw [fX 3 _ (Or.inl (by decide)) (Or.inl (by decide)), fX 4 _ (Or.inl (by decide)) (Or.inl (by decide)), fX 5 _ (Or.inl (by decide)) (Or.inl (by decide)), fX 6 _ (Or.inl (by decide)) (Or.inl (by decide)), fT 1 _ (Or.inl (by decide)) (Or.inl (by decide)), fT 2 _ (Or.inl (by decide)) (Or.inl (by decide)), fT 3 _ (Or.inl (by decide)) (Or.inl (by decide)), fT 4 _ (Or.inl (by decide)) (Or.inl (by decide))]; exact hX.2.2.2 c k hc hk
  · rw [fX 23 0 (Or.inl (by decide)) (Or.inl (by decide))]; exact h23
  · rw [fT 0 1 (Or.inl (by decide)) (Or.inr (by decide))]; exact h1
  · exact hR.keep' (fun c i hc => fX c i (by omega) (by omega)) (fun c i hc => fT c i (by omega) (by omega))
theorem zI_ends : zp_S2 zI := by
  rintro σ τ p1 p2 p3 p4 p5 h
  obtain ⟨nb, sz, hW, hX, h23, h1, hR⟩ := zI_own h
  have hnb := hW.2.1
  unfold zX_ValueBench_ends zM_ValueBenchModel_ends zX_Program_endFits
  rcases zM_block_cases hW (P := τ) ⟨rfl, fun _ _ _ => rfl⟩ p1 with ⟨m1, m2⟩ | ⟨b, rfl, hb, m1⟩
  · have hx : zX_Program_has p1 σ = some 0 := by
      rcases zI_int p1 with q | ⟨n, hn, rfl⟩
      · exact zX_has_neg q σ
      · rw [zX_has_eq hX.1.1 hnb hn, decide_eq_false (fun z => m2 ⟨n, rfl, z⟩)]; rfl
    rw [m1, zc_b1, if_pos rfl, hx, zc_b1, if_pos rfl]
    exact ⟨_, _, _, rfl, rfl, h⟩
  · have hx : zX_Program_has (nI b) σ = some 1 := by
      rw [zX_has_eq hX.1.1 hnb (show b < 2 ^ 31 by omega), decide_eq_true hb]; rfl
    rw [m1, zc_b1, if_neg z10, hx, zc_b1, if_neg z10]
    simp only [zc_ck (show b < 16 by omega) (by decide), zc_cl (show b < 2 ^ 31 by omega), zc_ls]
    have ok : ∀ (hV : (p2 = 0 ∧ ∃ y, y < 10 ∧ p3 = nI y) ∨ (p2 = 1 ∧ ∃ e, e < 16 ∧ p4 = nI e) ∨ (p2 = 2 ∧ (∃ y, y < 10 ∧ p3 = nI y) ∧ (∃ e, e < 16 ∧ p4 = nI e) ∧ ∃ e, e < 16 ∧ p5 = nI e)), ∃ v σ1 τ1, (zx_b1 (zX_Program_setEnd (nI b) p2 p3 p4 p5 (zx_su σ 0 9 1)) fun s4 => some ((1 : Int32), s4)) = some (v, σ1) ∧ some ((1 : Int32), zx_su (zx_su (zx_su (zx_su (zx_su τ 6 b p2) 7 b p3) 8 b p4) 9 b p5) 0 11 0) = some (v, τ1) ∧ zI σ1 τ1 := fun hV => by
      obtain ⟨σ', e1, e2⟩ := zI_ends_ok hW hX h23 h1 hR hb hV
      rw [e1, zc_b1]
      exact ⟨_, _, _, rfl, rfl, e2⟩
    by_cases c0 : p2 = 0
    · have k1 : ¬ p2 < 0 := by rw [c0]; decide
      have k2 : ¬ (2 : Int32) < p2 := by rw [c0]; decide
      have k3 : ¬ p2 = 1 := by rw [c0]; decide
      have k4 : p2 ≤ 0 := by rw [c0]; decide
      have k5 : ¬ p2 = 2 := by rw [c0]; decide
      rw [if_pos c0, if_neg k1, if_neg k2, if_neg k3]
      rcases zI_var p3 σ τ with ⟨v1, v2, v3⟩ | ⟨v1, v2⟩
      · rw [v1, zc_b1, zc_zr (Or.inr rfl), zc_b1, if_neg z10, v2, zc_b1, if_neg z10, if_pos k4, if_neg k5]
        exact ok (Or.inl ⟨c0, v3⟩)
      · rw [v1, zc_b1, zc_zr (Or.inl rfl), zc_b1, if_pos rfl, v2, zc_b1, if_pos rfl]
        exact ⟨_, _, _, rfl, rfl, h⟩
    rw [if_neg c0]
    by_cases c1 : p2 = 1
    · have k1 : ¬ p2 < 0 := by rw [c1]; decide
      have k2 : ¬ (2 : Int32) < p2 := by rw [c1]; decide
      have k4 : ¬ p2 ≤ 0 := by rw [c1]; decide
      have k5 : ¬ p2 = 2 := by rw [c1]; decide
      rw [if_pos c1, if_neg k1, if_neg k2, if_pos c1, if_neg k4]
      rcases zI_blk p4 σ with ⟨v1, v2, v3, -, v4⟩ | ⟨v1, v2 | ⟨v2, v3, v4⟩⟩
      · rw [v1, zc_b1, zc_zr (Or.inr rfl), zc_b1, if_neg z10, if_neg v2, if_neg v3, if_neg k5]
        exact ok (Or.inr (Or.inl ⟨c1, v4⟩))
      · rw [v1, zc_b1, zc_zr (Or.inl rfl), zc_b1, if_pos rfl, if_pos v2]
        exact ⟨_, _, _, rfl, rfl, h⟩
      · rw [v1, zc_b1, zc_zr (Or.inl rfl), zc_b1, if_pos rfl, if_neg v2, if_pos v3]
        exact ⟨_, _, _, rfl, rfl, h⟩
    rw [if_neg c1]
    by_cases c2 : p2 = 2
    · have k1 : ¬ p2 < 0 := by rw [c2]; decide
      have k2 : ¬ (2 : Int32) < p2 := by rw [c2]; decide
      have k4 : ¬ p2 ≤ 0 := by rw [c2]; decide
      rw [if_pos c2, if_neg k1, if_neg k2, if_neg c1]
      rcases zI_var p3 σ τ with ⟨v1, v2, v3⟩ | ⟨v1, v2⟩
      · rw [v1, zc_b1, if_neg z10, v2, zc_b1, if_neg z10, if_neg k4]
        rcases zI_blk p4 σ with ⟨w1, w2, w3, -, w4⟩ | ⟨w1, w2 | ⟨w2, w3, w4⟩⟩
        · rw [w1, zc_b1, if_neg z10, if_neg w2, if_neg w3, if_pos c2]
          rcases zI_blk p5 σ with ⟨u1, u2, u3, u5, u4⟩ | ⟨u1, u2 | ⟨u2, u3, u4⟩⟩
          · rw [u1, zc_b1, if_neg z10, zc_b1, if_neg z10, if_neg u2, if_pos u5]
            exact ok (Or.inr (Or.inr ⟨c2, v3, w4, u4⟩))
          · rw [u1, zc_b1, if_pos rfl, zc_b1, if_pos rfl, if_pos u2]
            exact ⟨_, _, _, rfl, rfl, h⟩
          · rw [u1, zc_b1, if_pos rfl, zc_b1, if_pos rfl, if_neg u2, if_neg u4]
            exact ⟨_, _, _, rfl, rfl, h⟩
        · rw [w1, zc_b1, if_pos rfl, zc_b1, if_pos rfl, if_pos w2]
          exact ⟨_, _, _, rfl, rfl, h⟩
        · rw [w1, zc_b1, if_pos rfl, zc_b1, if_pos rfl, if_neg w2, if_pos w3]
          exact ⟨_, _, _, rfl, rfl, h⟩
      · rw [v1, zc_b1, if_pos rfl, zc_b1, if_pos rfl, v2, zc_b1, if_pos rfl]
        exact ⟨_, _, _, rfl, rfl, h⟩
    rw [if_neg c2, zc_b1, if_pos rfl]
    by_cases k1 : p2 < 0
    · rw [if_pos k1]; exact ⟨_, _, _, rfl, rfl, h⟩
    · by_cases k2 : (2 : Int32) < p2
      · rw [if_neg k1, if_pos k2]; exact ⟨_, _, _, rfl, rfl, h⟩
      · exfalso
        obtain ⟨n, hn, rfl⟩ := nI_of k1
        rw [show (2 : Int32) = nI 2 by decide, nI_ltI (by omega) hn] at k2
        rcases (show n = 0 ∨ n = 1 ∨ n = 2 by omega) with e | e | e
        · exact c0 (by rw [e]; decide)
        · exact c1 (by rw [e]; decide)
        · exact c2 (by rw [e]; decide)
