/-! PURE: which VALUE a VARIABLE is -/
section EV
variable (P : zx_S) (nb : Nat) (sz : Nat → Nat)
def zq_x (b k : Nat) : Nat := (P 2 (100 * b + k)).toNatClampNeg
def zq_y (b k : Nat) : Nat := (P 3 (100 * b + k)).toNatClampNeg
def zq_z (b k : Nat) : Nat := (P 4 (100 * b + k)).toNatClampNeg
/-- INSTRUCTION k of b -/
noncomputable def zq_nx (b k : Nat) (e : Nat → Nat) : Nat → Nat := if P 1 (100 * b + k) = 14 then e else if P 1 (100 * b + k) = 2 then fun v => if v = zq_x P b k then e (zq_y P b k) else e v else fun v => if v = zq_x P b k then zq_ii P nb sz b k else e v
noncomputable def zq_th (b : Nat) : Nat → (Nat → Nat) → Nat → Nat
  | 0, e => e
  | k + 1, e => zq_nx P nb sz b k (zq_th b k e)
noncomputable def zq_pa (b : Nat) : Nat := @dite _ (∃ a, zq_Par P nb a b) (Classical.propDecidable _) (fun h => Classical.choose h) (fun _ => 0)
noncomputable def zq_bgn : Nat → Nat → Nat → Nat
  | 0, _, _ => 0
  | n + 1, b, v => if zp (zq_HC P nb sz v b) then zq_ic P nb sz b v else if b = 0 then 0 else zq_th P nb sz (zq_pa P nb b) (sz (zq_pa P nb b)) (zq_bgn n (zq_pa P nb b)) v
noncomputable def zq_Bg (b : Nat) : Nat → Nat := zq_bgn P nb sz (zq_dep P nb b) b
noncomputable def zq_En (b : Nat) : Nat → Nat := zq_th P nb sz b (sz b) (zq_Bg P nb sz b)
/-- ahead of INSTRUCTION k of b -/
noncomputable def zq_At (b k : Nat) : Nat → Nat := zq_th P nb sz b k (zq_Bg P nb sz b)
end EV
section EW
variable {P : zx_S} {nb : Nat} {sz : Nat → Nat}
theorem zq_pa_ok {b : Nat} (h : zq_rc P nb b) (h0 : b ≠ 0) : zq_Par P nb (zq_pa P nb b) b := by
  have hx := zq_Par.ex h h0
  unfold zq_pa
  rw [dif_pos hx]
  exact Classical.choose_spec hx
theorem zq_Bg_eq {b : Nat} (h : zq_rc P nb b) (v : Nat) : zq_Bg P nb sz b v = if zp (zq_HC P nb sz v b) then zq_ic P nb sz b v else if b = 0 then 0 else zq_En P nb sz (zq_pa P nb b) v := by
  unfold zq_Bg
  by_cases h0 : b = 0
  · have hd := zq_dep_pos h
    obtain ⟨n, hn⟩ : ∃ n, zq_dep P nb b = n + 1 := ⟨zq_dep P nb b - 1, by omega⟩
    rw [hn, zq_bgn]
    by_cases c1 : zp (zq_HC P nb sz v b) = true
    · rw [if_pos c1, if_pos c1]
    · rw [if_neg c1, if_neg c1, if_pos h0, if_pos h0]
  · have hp := zq_pa_ok h h0
    rw [hp.dep, zq_bgn]
    rfl
theorem zq_th_step (b k : Nat) (e : Nat → Nat) : zq_th P nb sz b (k + 1) e = zq_nx P nb sz b k (zq_th P nb sz b k e) := rfl
/-- how WF speaks of one INSTRUCTION -/
theorem zq_WF.ins (h : zq_WF P nb sz) {b k : Nat} (hb : b < nb) (hk : k < sz b) : (∃ kd, kd ≤ 14 ∧ P 1 (100 * b + k) = nI kd) ∧ P 2 (100 * b + k) = nI (zq_x P b k) ∧ zq_x P b k < 10 := by
  obtain ⟨kd, h1, h2, ⟨x, hx, h3⟩, -⟩ := h.2.2.2.2.1 b k hb hk
  have e : zq_x P b k = x := by unfold zq_x; rw [h3, nI_clamp (by omega)]
  exact ⟨⟨kd, h1, h2⟩, by rw [e]; exact h3, by omega⟩
theorem zq_WF.insY (h : zq_WF P nb sz) {b k : Nat} (hb : b < nb) (hk : k < sz b) {kd : Nat} (hkd : P 1 (100 * b + k) = nI kd) (h2 : 2 ≤ kd) (h14 : kd < 14) : P 3 (100 * b + k) = nI (zq_y P b k) ∧ zq_y P b k < 10 := by
  obtain ⟨kd', h1, h2', -, -, h3, -⟩ := h.2.2.2.2.1 b k hb hk
  have ek : kd' = kd := nI_inj (by omega) (by omega) (h2'.symm.trans hkd)
  subst ek
  obtain ⟨y, hy, h4⟩ := h3 h2 h14
  have e : zq_y P b k = y := by unfold zq_y; rw [h4, nI_clamp (by omega)]
  exact ⟨by rw [e]; exact h4, by omega⟩
theorem zq_WF.insZ (h : zq_WF P nb sz) {b k : Nat} (hb : b < nb) (hk : k < sz b) {kd : Nat} (hkd : P 1 (100 * b + k) = nI kd) (h2 : 3 ≤ kd) (h14 : kd < 14) : P 4 (100 * b + k) = nI (zq_z P b k) ∧ zq_z P b k < 10 := by
  obtain ⟨kd', h1, h2', -, -, -, h3⟩ := h.2.2.2.2.1 b k hb hk
  have ek : kd' = kd := nI_inj (by omega) (by omega) (h2'.symm.trans hkd)
  subst ek
  obtain ⟨y, hy, h4⟩ := h3 h2 h14
  have e : zq_z P b k = y := by unfold zq_z; rw [h4, nI_clamp (by omega)]
  exact ⟨by rw [e]; exact h4, by omega⟩
end EW
/-! the reference's adds, through -/
theorem zM_adds_eq {s : zx_S} {i c : Nat} (hi : i < 270) (h : s 22 i = nI c) (hc : c < 20) (x : Int32) : zM_ValueBenchModel_adds (nI i) x s = some (zx_su (zx_su s 21 (20 * i + c) x) 22 i (nI (c + 1))) := by
  unfold zM_ValueBenchModel_adds
  rw [zc_ck hi (by decide), zc_cl (by omega), h, nI_20, zc_ck (show 20 * i + c < 5400 by omega) (by decide), zc_cl (show 20 * i + c < 2 ^ 31 by omega), zc_ls, zc_ck hi (by decide), zs_ne (Or.inl (by decide)), h, zc_lt, zc_ck hi (by decide), zc_ls, nI_1]
/-- behind k INSTRUCTIONS of b, begun at e in the world s0 -/
def zh_I (P s0 : zx_S) (nb : Nat) (sz : Nat → Nat) (b : Nat) (tl : Bool) (e : Nat → Nat) (k : Nat) (s : zx_S) : Prop :=
  zq_Pg P s ∧ (∀ v, v < 10 → s 27 v = nI (zq_th P nb sz b k e v)) ∧ (∀ c, c ≠ 21 → c ≠ 22 → c ≠ 27 → s c = s0 c) ∧
  (∀ i k', k' < k → zq_isN P nb sz i b k' → tl = true → 3 ≤ P 1 (100 * b + k') → s 22 i = 2 ∧ s 21 (20 * i) = nI (zq_th P nb sz b k' e (zq_y P b k')) ∧ s 21 (20 * i + 1) = nI (zq_th P nb sz b k' e (zq_z P b k'))) ∧
  (∀ i, (tl = false ∨ ∀ k', k' < k → zq_isN P nb sz i b k' → ¬ 3 ≤ P 1 (100 * b + k')) → s 22 i = s0 22 i ∧ ∀ j, j < 20 → s 21 (20 * i + j) = s0 21 (20 * i + j))
section TH
variable {P s0 : zx_S} {nb : Nat} {sz : Nat → Nat}
theorem zM_through_spec (hW : zq_WF P nb sz) {b many : Nat} (hb : zq_rc P nb b) (hm : many ≤ sz b) (tl : Bool) {e : Nat → Nat} (hs : zq_Pg P s0) (h27 : ∀ v, v < 10 → s0 27 v = nI (e v)) (h24 : ∀ i k, zq_isN P nb sz i b k → s0 24 (100 * b + k) = nI i ∧ i < 270) (h22 : tl = true → ∀ i k, zq_isN P nb sz i b k → s0 22 i = 0) : ∃ s', zh_I P s0 nb sz b tl e many s' ∧ zM_ValueBenchModel_through (nI b) (nI many) (zi tl) s0 = some s' := by
  have hnb := hW.2.1
  have hbn := hb.1
  have hsz := (hW.2.2.1 b hbn).2
  unfold zM_ValueBenchModel_through
  have := zf_for (L := fun n i s => zM_ValueBenchModel_through_L3 (nI b) (nI many) (zi tl) (fun s11 => some s11) n i s) (k := fun s11 => some s11) many (fun k s => zh_I P s0 nb sz b tl e k s) (fun n s h => by
    show zM_ValueBenchModel_through_L3 (nI b) (nI many) (zi tl) (fun s11 => some s11) (n + 1) (nI many) s = some s
    rw [zM_ValueBenchModel_through_L3, if_pos (Int32.le_refl _)]) (fun n k s hk h => by
    obtain ⟨g1, g2, g3, g4, g5⟩ := h
    have hx : 100 * b + k < 1600 := by omega
    obtain ⟨⟨kd, kd1, kd2⟩, x1, x2⟩ := hW.ins hbn (show k < sz b by omega)
    show ∃ a', _ ∧ zM_ValueBenchModel_through_L3 (nI b) (nI many) (zi tl) (fun s11 => some s11) (n + 1) (nI k) s = _
    rw [zM_ValueBenchModel_through_L3, if_neg (by rw [nI_leI (by omega) (by omega)]; omega)]
    simp only [zc_lt, nI_100, zc_ck hx (by decide), zc_cl (show 100 * b + k < 2 ^ 31 by omega), g1.at (c := 1) (by decide) (by decide), g1.at (c := 2) (by decide) (by decide), g1.at (c := 3) (by decide) (by decide), nI_1, zc_ls]
    have split5 : ∀ i, (tl = false ∨ ∀ k', k' < k + 1 → zq_isN P nb sz i b k' → ¬ 3 ≤ P 1 (100 * b + k')) → (tl = false ∨ ∀ k', k' < k → zq_isN P nb sz i b k' → ¬ 3 ≤ P 1 (100 * b + k')) := fun i q => q.imp_right (fun q k' hk' => q k' (by omega))
    by_cases c1 : P 1 (100 * b + k) = 14
    · rw [if_pos c1]
      refine ⟨s, ⟨g1, fun v hv => ?_, g3, fun i k' hk' hN ht h3 => ?_, fun i q => g5 i (split5 i q)⟩, rfl⟩
      · rw [zq_th_step, zq_nx, if_pos c1]; exact g2 v hv
      · by_cases q : k' = k
        · rw [q] at hN; exact absurd c1 ((zm_iv P b k).mp hN.2.2.1).2
        · exact g4 i k' (by omega) hN ht h3
    · rw [if_neg c1]
      by_cases c2 : P 1 (100 * b + k) = 2
      · rw [if_pos c2]
        have hk2 : kd = 2 := nI_inj (by omega) (by omega) (kd2.symm.trans (c2.trans (show (2 : Int32) = nI 2 by decide)))
        obtain ⟨y1, y2⟩ := hW.insY hbn (show k < sz b by omega) kd2 (by omega) (by omega)
        rw [y1, x1, zc_ck y2 (by decide), zc_cl (by omega), zc_ck x2 (by decide), zc_cl (by omega), g2 _ y2]
        refine ⟨_, ⟨g1.su (Or.inl (by decide)), fun v hv => ?_, fun c h1 h2 h3 => by rw [zs_c h3]; exact g3 c h1 h2 h3, fun i k' hk' hN ht h3 => ?_, fun i q => ?_⟩, rfl⟩
        · rw [zq_th_step, zq_nx, if_neg c1, if_pos c2]
          by_cases q : v = zq_x P b k
          · rw [if_pos q, q, zs_eq]
          · rw [if_neg q, zs_ne (Or.inr q)]; exact g2 v hv
        · rw [zs_ne (Or.inl (by decide)), zs_ne (Or.inl (by decide)), zs_ne (Or.inl (by decide))]
          by_cases q : k' = k
          · rw [q] at hN; exact absurd c2 ((zm_iv P b k).mp hN.2.2.1).1
          · exact g4 i k' (by omega) hN ht h3
        · rw [zs_ne (Or.inl (by decide))]
          refine ⟨(g5 i (split5 i q)).1, fun j hj => ?_⟩
          rw [zs_ne (Or.inl (by decide))]; exact (g5 i (split5 i q)).2 j hj
      · rw [if_neg c2]
        have hN : zq_isN P nb sz (zq_ii P nb sz b k) b k := ⟨hb, by omega, (zm_iv P b k).mpr ⟨c2, c1⟩, rfl⟩
        obtain ⟨i1, i2⟩ := h24 _ _ hN
        generalize hT : zq_ii P nb sz b k = t at *
        -- the last part: now[x] = t
        have last : ∀ r : zx_S, zq_Pg P r → (∀ v, v < 10 → r 27 v = nI (zq_th P nb sz b k e v)) → (∀ c, c ≠ 21 → c ≠ 22 → c ≠ 27 → r c = s0 c) → (∀ i k', k' < k + 1 → zq_isN P nb sz i b k' → tl = true → 3 ≤ P 1 (100 * b + k') → r 22 i = 2 ∧ r 21 (20 * i) = nI (zq_th P nb sz b k' e (zq_y P b k')) ∧ r 21 (20 * i + 1) = nI (zq_th P nb sz b k' e (zq_z P b k'))) → (∀ i, (tl = false ∨ ∀ k', k' < k + 1 → zq_isN P nb sz i b k' → ¬ 3 ≤ P 1 (100 * b + k')) → r 22 i = s0 22 i ∧ ∀ j, j < 20 → r 21 (20 * i + j) = s0 21 (20 * i + j)) → ∃ a', zh_I P s0 nb sz b tl e (k + 1) a' ∧ zM_ValueBenchModel_through_J132 (zM_ValueBenchModel_through_L3 (nI b) (nI many) (zi tl) (fun s11 => some s11) n) (nI b) (nI many) (zi tl) (nI k) (nI (100 * b + k)) r = zM_ValueBenchModel_through_L3 (nI b) (nI many) (zi tl) (fun s11 => some s11) n (nI (k + 1)) a' := by
          intro r r1 r2 r3 r4 r5
          unfold zM_ValueBenchModel_through_J132
          simp only [zc_ck hx (by decide), zc_cl (show 100 * b + k < 2 ^ 31 by omega), r1.at (c := 2) (by decide) (by decide), zc_lt, zc_ls, nI_1]
          rw [x1, zc_ck x2 (by decide), zc_cl (by omega), r3 24 (by decide) (by decide) (by decide), i1]
          refine ⟨_, ⟨r1.su (Or.inl (by decide)), fun v hv => ?_, fun c h1 h2 h3 => by rw [zs_c h3]; exact r3 c h1 h2 h3, fun i k' hk' hN' ht h3 => ?_, fun i q => ?_⟩, rfl⟩
          · rw [zq_th_step, zq_nx, if_neg c1, if_neg c2]
            by_cases q : v = zq_x P b k
            · rw [if_pos q, q, zs_eq, hT]
            · rw [if_neg q, zs_ne (Or.inr q)]; exact r2 v hv
          · rw [zs_ne (Or.inl (by decide)), zs_ne (Or.inl (by decide)), zs_ne (Or.inl (by decide))]; exact r4 i k' hk' hN' ht h3
          · rw [zs_ne (Or.inl (by decide))]
            refine ⟨(r5 i q).1, fun j hj => ?_⟩
            rw [zs_ne (Or.inl (by decide))]; exact (r5 i q).2 j hj
        -- nothing is told of this one
        have plain : (tl = false ∨ ¬ 3 ≤ P 1 (100 * b + k)) → ∃ a', zh_I P s0 nb sz b tl e (k + 1) a' ∧ zM_ValueBenchModel_through_J132 (zM_ValueBenchModel_through_L3 (nI b) (nI many) (zi tl) (fun s11 => some s11) n) (nI b) (nI many) (zi tl) (nI k) (nI (100 * b + k)) s = zM_ValueBenchModel_through_L3 (nI b) (nI many) (zi tl) (fun s11 => some s11) n (nI (k + 1)) a' := by
          intro hp
          refine last s g1 g2 g3 (fun i k' hk' hN' ht h3 => ?_) (fun i q => g5 i (split5 i q))
          by_cases q : k' = k
          · rw [q] at h3
            rcases hp with hp | hp
            · rw [hp] at ht; cases ht
            · exact absurd h3 hp
          · exact g4 i k' (by omega) hN' ht h3
        cases htl : tl with
        | false =>
          rw [htl] at plain
          rw [if_pos zi_f]
          exact plain (Or.inl rfl)
        | true =>
          rw [if_neg (show ¬ zi true = 0 by decide)]
          rw [htl] at plain last
          by_cases c3 : P 1 (100 * b + k) < 3
          · rw [if_pos c3]
            exact plain (Or.inr (fun q => by rw [Int32.le_iff_toInt_le] at q; rw [Int32.lt_iff_toInt_lt] at c3; omega))
          · rw [if_neg c3]
            have h3 : 3 ≤ P 1 (100 * b + k) := by rw [Int32.le_iff_toInt_le]; rw [Int32.lt_iff_toInt_lt] at c3; omega
            have hkd : 3 ≤ kd ∧ kd < 14 := by
              rw [kd2, show (3 : Int32) = nI 3 by decide, nI_leI (by omega) (by omega)] at h3
              refine ⟨h3, ?_⟩
              by_cases q : kd = 14
              · rw [kd2, q] at c1; exact absurd (by decide) c1
              · omega
            obtain ⟨y1, y2⟩ := hW.insY hbn (show k < sz b by omega) kd2 (by omega) (by omega)
            obtain ⟨z1, z2⟩ := hW.insZ hbn (show k < sz b by omega) kd2 (by omega) (by omega)
            have hz0 : s 22 t = nI 0 := by
              rw [(g5 t (Or.inr (fun k' hk' hN' => by
                have := (hN.uniq hN').2; omega))).1, h22 htl t k hN, nI_0]
            rw [y1, zc_ck y2 (by decide), zc_cl (by omega), g2 _ y2, g3 24 (by decide) (by decide) (by decide), i1, zM_adds_eq i2 hz0 (by decide), zc_b1]
            have o1 : ∀ c i, c ≠ 21 → c ≠ 22 → zx_su (zx_su s 21 (20 * t + 0) (nI (zq_th P nb sz b k e (zq_y P b k)))) 22 t (nI (0 + 1)) c i = s c i := fun c i h1 h2 => by rw [zs_ne (Or.inl h2), zs_ne (Or.inl h1)]
            rw [o1 4 _ (by decide) (by decide), g1.at (c := 4) (by decide) (by decide), z1, zc_ck z2 (by decide), zc_cl (show zq_z P b k < 2 ^ 31 by omega), o1 27 _ (by decide) (by decide), g2 _ z2, o1 24 _ (by decide) (by decide), g3 24 (by decide) (by decide) (by decide), i1, zM_adds_eq (c := 1) i2 (zs_eq _ _ _ _) (by decide), zc_b1]
            have o2 : ∀ c i, c ≠ 21 → c ≠ 22 → zx_su (zx_su (zx_su (zx_su s 21 (20 * t + 0) (nI (zq_th P nb sz b k e (zq_y P b k)))) 22 t (nI (0 + 1))) 21 (20 * t + 1) (nI (zq_th P nb sz b k e (zq_z P b k)))) 22 t (nI (1 + 1)) c i = s c i := fun c i h1 h2 => by rw [zs_ne (Or.inl h2), zs_ne (Or.inl h1), o1 c i h1 h2]
            have oth : ∀ i, i ≠ t → zx_su (zx_su (zx_su (zx_su s 21 (20 * t + 0) (nI (zq_th P nb sz b k e (zq_y P b k)))) 22 t (nI (0 + 1))) 21 (20 * t + 1) (nI (zq_th P nb sz b k e (zq_z P b k)))) 22 t (nI (1 + 1)) 22 i = s 22 i ∧ ∀ j, j < 20 → zx_su (zx_su (zx_su (zx_su s 21 (20 * t + 0) (nI (zq_th P nb sz b k e (zq_y P b k)))) 22 t (nI (0 + 1))) 21 (20 * t + 1) (nI (zq_th P nb sz b k e (zq_z P b k)))) 22 t (nI (1 + 1)) 21 (20 * i + j) = s 21 (20 * i + j) := by
              intro i hi
              refine ⟨?_, fun j hj => ?_⟩
              · rw [zs_ne (Or.inr hi), zs_ne (Or.inl (by decide)), zs_ne (Or.inr hi), zs_ne (Or.inl (by decide))]
              · rw [zs_ne (Or.inl (by decide)), zs_ne (Or.inr (by omega)), zs_ne (Or.inl (by decide)), zs_ne (Or.inr (by omega))]
            refine last _ ?_ (fun v hv => by rw [o2 27 v (by decide) (by decide)]; exact g2 v hv) (fun c h1 h2 h3 => by funext i; rw [o2 c i h1 h2, g3 c h1 h2 h3]) (fun i k' hk' hN' ht h3' => ?_) (fun i q => ?_)
            · exact ((((g1.su (Or.inl (by decide))).su (Or.inl (by decide))).su (Or.inl (by decide))).su (Or.inl (by decide)))
            · by_cases q : i = t
              · subst q
                have e2 := (hN.uniq hN').2
                subst e2
                refine ⟨by rw [zs_eq]; decide, ?_, ?_⟩
                · rw [zs_ne (Or.inl (by decide)), zs_ne (Or.inr (by omega)), zs_ne (Or.inl (by decide))]
                  exact zs_eq _ _ _ _
                · rw [zs_ne (Or.inl (by decide)), zs_eq]
              · have hne : k' ≠ k := fun e2 => q (by rw [hN'.2.2.2, e2, hT])
                have := g4 i k' (by omega) hN' htl h3'
                have w := oth i q
                refine ⟨by rw [w.1]; exact this.1, ?_, by rw [w.2 1 (by decide)]; exact this.2.2⟩
                exact (w.2 0 (by decide)).trans this.2.1
            · have hi : i ≠ t := fun e2 => by
                rcases q with q | q
                · cases q
                · subst e2; exact q k (by omega) hN h3
              have w := oth i hi
              have := g5 i (Or.inr (fun k' hk' hN' => by
                rcases q with q | q
                · cases q
                · exact q k' (by omega) hN'))
              exact ⟨w.1.trans this.1, fun j hj => (w.2 j hj).trans (this.2 j hj)⟩) (i := 0) (n := 10000) (Nat.zero_le many) (a := s0) ⟨hs, h27, fun _ _ _ _ => rfl, fun i k' hk' => by omega, fun i _ => ⟨rfl, fun _ _ => rfl⟩⟩ (by omega)
  rw [nI_0] at this
  exact this
end TH
