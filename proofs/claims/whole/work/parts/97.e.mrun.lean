/-! PURE: RUN: VALUED and LED, the reference -/
section RM
variable {P : zx_S} {nb : Nat} {sz : Nat → Nat} {t : zc_Tb} {R : Nat → Prop} {op ld : Nat → Nat → Nat} {fm : Int32}
theorem zm_ii (hW : zq_WF P nb sz) (h : zq_Tab P nb sz t) {v b k : Nat} (q : zq_isN P nb sz v b k) : v < zt_T t := by
  rw [h.1]
  exact Nat.lt_of_lt_of_le q.lt.2 (zq_st_up (show b + 1 ≤ nb from q.1.1))
theorem zm_ic (hW : zq_WF P nb sz) (h : zq_Tab P nb sz t) {v b x : Nat} (q : zq_isC P nb sz v b x) : v < zt_T t := by
  rw [h.1]
  exact Nat.lt_of_lt_of_le q.lt' (zq_st_up (show b + 1 ≤ nb from q.1.1))
theorem zM_L85_eq (hW : zq_WF P nb sz) {s : zx_S} (hs : zq_Pg P s) (h10 : zm_R10 P nb s) {b p : Nat} (hp : zq_pr P nb b p) (v1 v4 v5 : Int32) (K : Int32 → Option zx_S) : ∀ d j n, j + d = zq_np P nb b p → d < n → zM_ValueBenchModel_chooses_L85 v1 (nI b) (nI p) v4 v5 s K n (nI j) = K (nI (zq_np P nb b p)) := by
  have hnb := hW.2.1
  have hpn := hp.1.1
  have hbn := hp.2.2.1
  have hle : zq_np P nb b p ≤ p := zn_le _ _
  intro d
  induction d with
  | zero =>
    intro j n hj hn
    obtain ⟨n, rfl⟩ : ∃ m, n = m + 1 := ⟨n - 1, by omega⟩
    have e : j = zq_np P nb b p := by omega
    rw [zM_ValueBenchModel_chooses_L85, zM_predecessorAt_eq hW hs h10 hbn (show j < 2 ^ 31 by omega), zc_b1, e, zq_nt_eq hp, if_pos hpn, if_pos rfl]
  | succ d ih =>
    intro j n hj hn
    obtain ⟨n, rfl⟩ : ∃ m, n = m + 1 := ⟨n - 1, by omega⟩
    rw [zM_ValueBenchModel_chooses_L85, zM_predecessorAt_eq hW hs h10 hbn (show j < 2 ^ 31 by omega), zc_b1]
    have hne : ¬ (if zq_nt P nb b j < nb then nI (zq_nt P nb b j) else -1) = nI p := by
      by_cases c : zq_nt P nb b j < nb
      · rw [if_pos c]
        intro z
        have e := nI_inj (by omega) (by omega) z
        have := (zq_nt_lt c).2
        rw [e] at this; omega
      · rw [if_neg c]; exact fun z => nI_nm1 (by omega) z.symm
    rw [if_neg hne, zc_lt, nI_1]
    exact ih (j + 1) n (by omega) (by omega)
theorem zM_L85b_eq (v1 v2 v3 v4 v5 : Int32) (s : zx_S) (K : Int32 → Option zx_S) : ∀ n, zM_ValueBenchModel_chooses_L85b v1 v2 v3 v4 v5 s K n = zM_ValueBenchModel_chooses_L85 v1 v2 v3 v4 v5 s K n := by
  intro n
  induction n with
  | zero => funext v; rfl
  | succ n ih => funext v; rw [zM_ValueBenchModel_chooses_L85b, zM_ValueBenchModel_chooses_L85, ih]
theorem zM_J102b_eq : zM_ValueBenchModel_chooses_J102b = zM_ValueBenchModel_chooses_J102 := rfl
theorem zM_J102_eq (hW : zq_WF P nb sz) (hn : 0 < nb) (h : zq_Tab P nb sz t) (hF : zG_fm P nb t fm R op ld) {s : zx_S} (hP : zq_Pg P s) (hs : zm_Ca P nb sz t s) {v j : Nat} (hv : v < zt_T t) (hj : j < zt_c t v) (hop : op v j < 270) (k10 : Int32 → zx_S → Option zx_S) (v2 v3 v4 : Int32) : zM_ValueBenchModel_chooses_J102 k10 fm v2 v3 v4 (nI v) (nI j) s = k10 (v4 + 1) (zx_su s 34 v (s 33 (op v j))) := by
  have hH := h.H hW hn
  have hT := hH.2.2.2.2
  have hc := hH.2.2.2.1 v hv
  have e21 := (hs.2.2.2.2.1.2 v hv).2.2.2.2 j hj
  unfold zM_ValueBenchModel_chooses_J102
  rcases hF with ⟨rfl, rfl, rfl, rfl⟩ | ⟨rfl, rfl, rfl, rfl⟩
  · rw [if_pos rfl, nI_20, zc_ck (show 20 * v + j < 5400 by omega) (by decide), zc_cl (show 20 * v + j < 2 ^ 31 by omega), e21, zc_ck hop (by decide), zc_cl (Nat.lt_of_lt_of_le hop (by decide)), zc_lt, zc_ck (show v < 270 by omega) (by decide), zc_cl (show v < 2 ^ 31 by omega), zc_ls, zc_lt]
  · rw [if_neg (by decide), zM_ledOperand_eq hW hn h hP hs hv hj, zc_b1, zc_ck hop (by decide), zc_cl (Nat.lt_of_lt_of_le hop (by decide)), zc_lt, zc_ck (show v < 270 by omega) (by decide), zc_cl (show v < 2 ^ 31 by omega), zc_ls, zc_lt]
theorem nI_less (a : Nat) : nI (a + 1) - 1 = nI a := by rw [← nI_1, Int32.add_sub_cancel]
theorem zq_np_lt {b p : Nat} (hp : zq_pr P nb b p) : zq_np P nb b p < zq_np P nb b nb := zn_in (f := fun p => zp (zq_pr P nb b p)) hp.1.1 (zp_t.mpr hp)
/-- one CHOICE is taken -/
theorem zM_take_eq (hW : zq_WF P nb sz) (hn : 0 < nb) (h : zq_Tab P nb sz t) (hF : zG_fm P nb t fm R op ld) {s : zx_S} (hP : zq_Pg P s) (hs : zm_Ca P nb sz t s) {b m v x : Nat} {fr : Int32} (hfr : (fr = -1 ∧ b = 0 ∧ m = zq_np P nb b nb) ∨ ∃ p, fr = nI p ∧ zq_pr P nb b p ∧ m = zq_np P nb b p) (q : zq_isC P nb sz v b x) (k10 : Int32 → zx_S → Option zx_S) (v4 : Int32) : (if fr < (0 : Int32) then (zM_ValueBenchModel_chooses_J102 k10) fm (nI b) fr v4 (nI v) (s 22 v - 1) s else zM_ValueBenchModel_chooses_L85 fm (nI b) fr v4 (nI v) s (fun v6_15 => (zM_ValueBenchModel_chooses_J102 k10) fm (nI b) fr v4 (nI v) v6_15 s) 10000 (0 : Int32)) = k10 (v4 + 1) (zx_su s 34 v (s 33 (op v m))) := by
  have hnb := hW.2.1
  have hO := hF.O hW hn h
  have h261 := zq_st_261 hW (Nat.le_refl nb)
  have hv := zm_ic hW h q
  have ec := (h.2.2.1 v b x q).2.2.2.1
  rcases hfr with ⟨e1, e2, e3⟩ | ⟨p, e1, e2, e3⟩
  · subst e2
    have ec' : zt_c t v = zq_np P nb 0 nb + 1 := by rw [ec]; unfold zq_no; rw [if_pos rfl]
    rw [if_pos (by rw [e1]; decide), (hs.2.2.2.2.1.2 v hv).2.2.2.1, ec', nI_less, ← e3]
    exact zM_J102_eq hW hn h hF hP hs hv (by omega) (by rw [e3, hO.2.2.1 v x q]; decide) k10 _ _ _
  · have hpn := e2.1.1
    have := zq_np_lt e2
    have hle : zq_np P nb b p ≤ p := zn_le _ _
    rw [e1, if_neg (nI_pos (by omega)), ← nI_0, zM_L85_eq hW hP hs.1.1 e2 _ _ _ _ (zq_np P nb b p) 0 10000 (by omega) (by omega), ← e3]
    refine zM_J102_eq hW hn h hF hP hs hv (by rw [ec]; unfold zq_no; omega) ?_ k10 _ _ _
    have := (hO.2.1 v b x p q e2).1.lt hn
    rw [e3]; omega
theorem zM_chooses_spec (hW : zq_WF P nb sz) (hn : 0 < nb) (h : zq_Tab P nb sz t) (hF : zG_fm P nb t fm R op ld) {s : zx_S} (hP : zq_Pg P s) (hs : zm_Ca P nb sz t s) {b m : Nat} (hb : zq_rc P nb b) {fr : Int32} (hfr : (fr = -1 ∧ b = 0 ∧ m = zq_np P nb b nb) ∨ ∃ p, fr = nI p ∧ zq_pr P nb b p ∧ m = zq_np P nb b p) : ∃ s', ((∀ c i, c ≠ 33 → c ≠ 34 → s' c i = s c i) ∧ (∀ i x, zq_isC P nb sz i b x → ¬ R i → s' 33 i = zx_su s 33 0 0 33 (op i m)) ∧ ∀ w, (∀ x, ¬ zq_isC P nb sz w b x) → s' 33 w = zx_su s 33 0 0 33 w) ∧ zM_ValueBenchModel_chooses fm (nI b) fr s = some s' := by
  have hnb := hW.2.1
  have hbn := hb.1
  have h261 := zq_st_261 hW (Nat.le_refl nb)
  have hTT := h.1
  have z21 : ¬ (2 : Int32) = 1 := by decide
  have z12 : ¬ (1 : Int32) = 2 := by decide
  unfold zM_ValueBenchModel_chooses
  rw [← nI_0, zc_ck (show 0 < 270 by decide) (by decide), zc_ls, zc_cl (show 0 < 2 ^ 31 by decide), nI_0]
  generalize e0 : zx_su s 33 0 0 = s0
  have f0 : ∀ c i, c ≠ 33 → s0 c i = s c i := fun c i hc => by rw [← e0]; exact zs_ne (Or.inl hc)
  have keepP : ∀ u : zx_S, (∀ c i, c ≠ 33 → c ≠ 34 → u c i = s c i) → zq_Pg P u ∧ zm_Ca P nb sz t u := fun u hu => ⟨hP.keep (fun c i q => hu c i (by omega) (by omega)), hs.keep (fun c i q => hu c i (by omega) (by omega))⟩
  have l1 := zf_for (L := fun n i u => zM_ValueBenchModel_chooses_L10 fm (nI b) fr (fun s27 => zM_ValueBenchModel_chooses_L152 fm (nI b) (fun s37 => some s37) 10000 (0 : Int32) s27) n i u) (k := fun s27 => zM_ValueBenchModel_chooses_L152 fm (nI b) (fun s37 => some s37) 10000 (0 : Int32) s27) 10 (fun x u => (∀ c i, c ≠ 34 → u c i = s0 c i) ∧ ∀ i x', x' < x → zq_isC P nb sz i b x' → ¬ R i → u 34 i = s0 33 (op i m)) (fun n u _ => by
    show zM_ValueBenchModel_chooses_L10 fm (nI b) fr _ (n + 1) (nI 10) u = _
    rw [zM_ValueBenchModel_chooses_L10, if_pos (by decide)]) (fun n x u hx q => by
    show ∃ a', _ ∧ zM_ValueBenchModel_chooses_L10 fm (nI b) fr _ (n + 1) (nI x) u = zM_ValueBenchModel_chooses_L10 fm (nI b) fr _ n (nI (x + 1)) a'
    have q0 : ∀ c i, c ≠ 33 → c ≠ 34 → u c i = s c i := fun c i h1 h2 => by rw [q.1 c i h2, f0 c i h1]
    obtain ⟨uP, uC⟩ := keepP u q0
    rw [zM_ValueBenchModel_chooses_L10, if_neg (by rw [show (10 : Int32) = nI 10 by decide, nI_leI (by omega) (by omega)]; omega)]
    simp only [nI_10, zc_ck (show 10 * b + x < 160 by omega) (by decide), zc_cl (show 10 * b + x < 2 ^ 31 by omega), uC.2.1 b x (by omega) hx, zi_0, zc_lt, nI_1]
    by_cases c : zq_HC P nb sz x b
    · have hc : zq_isC P nb sz (zq_ic P nb sz b x) b x := ⟨hb, hx, c, rfl⟩
      have hv := zm_ic hW h hc
      have other : ∀ i x', x' < x + 1 → zq_isC P nb sz i b x' → i = zq_ic P nb sz b x ∨ x' < x := fun i x' h1 h2 => by
        by_cases e : x' = x
        · left; rw [e] at h2; exact h2.2.2.2
        · right; omega
      rw [if_neg (by rw [zp_t.mpr c]; decide), (uC.2.2.1.2.2.2.2.1 _ b x hc).1]
      simp only [zc_ck (show zq_ic P nb sz b x < 270 by omega) (by decide), zc_cl (show zq_ic P nb sz b x < 2 ^ 31 by omega)]
      have tk := zM_take_eq hW hn h hF uP uC hfr hc (zM_ValueBenchModel_chooses_L10 fm (nI b) fr (fun s27 => zM_ValueBenchModel_chooses_L152 fm (nI b) (fun s37 => some s37) 10000 (0 : Int32) s27) n) (nI x)
      rw [nI_1] at tk
      have tkI : (∀ c i, c ≠ 34 → zx_su u 34 (zq_ic P nb sz b x) (u 33 (op (zq_ic P nb sz b x) m)) c i = s0 c i) ∧ ∀ i x', x' < x + 1 → zq_isC P nb sz i b x' → ¬ R i → zx_su u 34 (zq_ic P nb sz b x) (u 33 (op (zq_ic P nb sz b x) m)) 34 i = s0 33 (op i m) := by
        refine ⟨fun c i hc => by rw [zs_ne (Or.inl hc)]; exact q.1 c i hc, fun i x' h1 h2 h3 => ?_⟩
        by_cases e : i = zq_ic P nb sz b x
        · rw [e, zs_eq, q.1 33 _ (by decide)]
        · rw [zs_ne (Or.inr e)]
          exact q.2 i x' ((other i x' h1 h2).resolve_left e) h2 h3
      rcases hF with ⟨rfl, rfl, rfl, rfl⟩ | ⟨rfl, rfl, rfl, rfl⟩
      · rw [if_neg z12, zM_J102b_eq]
        simp only [zM_L85b_eq]
        exact ⟨_, tkI, tk⟩
      · rw [if_pos rfl, uC.2.2.2.2.2.2 _ hv]
        simp only [zi_0]
        by_cases c2 : zq_rd P nb t (zq_ic P nb sz b x)
        · rw [if_neg (by rw [zp_t.mpr c2]; decide)]
          refine ⟨u, ⟨q.1, fun i x' h1 h2 h3 => ?_⟩, rfl⟩
          rcases other i x' h1 h2 with z | z
          · rw [z] at h3; exact absurd c2 h3
          · exact q.2 i x' z h2 h3
        · rw [if_pos (zp_f.mpr c2)]
          exact ⟨_, tkI, tk⟩
    · rw [if_pos (zp_f.mpr c)]
      refine ⟨u, ⟨q.1, fun i x' h1 h2 h3 => ?_⟩, rfl⟩
      by_cases e : x' = x
      · rw [e] at h2; exact absurd h2.2.2.1 c
      · exact q.2 i x' (by omega) h2 h3) (i := 0) (n := 10000) (Nat.zero_le _) (a := s0) ⟨fun _ _ _ => rfl, fun i x' h1 => by omega⟩ (by decide)
  rw [nI_0] at l1
  obtain ⟨s1, ⟨a1, a2⟩, a3⟩ := l1
  rw [a3]
  have l2 := zf_for (L := fun n i u => zM_ValueBenchModel_chooses_L152 fm (nI b) (fun s37 => some s37) n i u) (k := fun s37 => some s37) 10 (fun x u => (∀ c i, c ≠ 33 → u c i = s1 c i) ∧ (∀ i x', x' < x → zq_isC P nb sz i b x' → ¬ R i → u 33 i = s1 34 i) ∧ ∀ w, (∀ x', x' < x → ¬ zq_isC P nb sz w b x') → u 33 w = s1 33 w) (fun n u _ => by
    show zM_ValueBenchModel_chooses_L152 fm (nI b) _ (n + 1) (nI 10) u = _
    rw [zM_ValueBenchModel_chooses_L152, if_pos (by decide)]) (fun n x u hx q => by
    show ∃ a', _ ∧ zM_ValueBenchModel_chooses_L152 fm (nI b) _ (n + 1) (nI x) u = zM_ValueBenchModel_chooses_L152 fm (nI b) _ n (nI (x + 1)) a'
    have q0 : ∀ c i, c ≠ 33 → c ≠ 34 → u c i = s c i := fun c i h1 h2 => by rw [q.1 c i h1, a1 c i h2, f0 c i h1]
    obtain ⟨uP, uC⟩ := keepP u q0
    rw [zM_ValueBenchModel_chooses_L152, if_neg (by rw [show (10 : Int32) = nI 10 by decide, nI_leI (by omega) (by omega)]; omega)]
    simp only [nI_10, zc_ck (show 10 * b + x < 160 by omega) (by decide), zc_cl (show 10 * b + x < 2 ^ 31 by omega), uC.2.1 b x (by omega) hx, zi_0, zc_lt, zc_ls, nI_1]
    by_cases c : zq_HC P nb sz x b
    · have hc : zq_isC P nb sz (zq_ic P nb sz b x) b x := ⟨hb, hx, c, rfl⟩
      have hv := zm_ic hW h hc
      have other : ∀ i x', x' < x + 1 → zq_isC P nb sz i b x' → i = zq_ic P nb sz b x ∨ x' < x := fun i x' h1 h2 => by
        by_cases e : x' = x
        · left; rw [e] at h2; exact h2.2.2.2
        · right; omega
      rw [if_neg (by rw [zp_t.mpr c]; decide), (uC.2.2.1.2.2.2.2.1 _ b x hc).1]
      simp only [zc_ck (show zq_ic P nb sz b x < 270 by omega) (by decide), zc_cl (show zq_ic P nb sz b x < 2 ^ 31 by omega)]
      have tkI : (∀ c i, c ≠ 33 → zx_su u 33 (zq_ic P nb sz b x) (u 34 (zq_ic P nb sz b x)) c i = s1 c i) ∧ (∀ i x', x' < x + 1 → zq_isC P nb sz i b x' → ¬ R i → zx_su u 33 (zq_ic P nb sz b x) (u 34 (zq_ic P nb sz b x)) 33 i = s1 34 i) ∧ ∀ w, (∀ x', x' < x + 1 → ¬ zq_isC P nb sz w b x') → zx_su u 33 (zq_ic P nb sz b x) (u 34 (zq_ic P nb sz b x)) 33 w = s1 33 w := by
        refine ⟨fun c i hc => by rw [zs_ne (Or.inl hc)]; exact q.1 c i hc, fun i x' h1 h2 h3 => ?_, fun w hw => ?_⟩
        · by_cases e : i = zq_ic P nb sz b x
          · rw [e, zs_eq, q.1 34 _ (by decide)]
          · rw [zs_ne (Or.inr e)]
            exact q.2.1 i x' ((other i x' h1 h2).resolve_left e) h2 h3
        · have e : w ≠ zq_ic P nb sz b x := (fun e => hw x (by omega) (e ▸ hc))
          rw [zs_ne (Or.inr e)]
          exact q.2.2 w (fun x' h1 => hw x' (by omega))
      rcases hF with ⟨rfl, rfl, rfl, rfl⟩ | ⟨rfl, rfl, rfl, rfl⟩
      · rw [if_pos rfl]
        exact ⟨_, tkI, rfl⟩
      · rw [if_neg z21, uC.2.2.2.2.2.2 _ hv]
        simp only [zi_0]
        by_cases c2 : zq_rd P nb t (zq_ic P nb sz b x)
        · rw [if_neg (by rw [zp_t.mpr c2]; decide)]
          refine ⟨u, ⟨q.1, fun i x' h1 h2 h3 => ?_, fun w hw => q.2.2 w (fun x' h1 => hw x' (by omega))⟩, rfl⟩
          rcases other i x' h1 h2 with z | z
          · rw [z] at h3; exact absurd c2 h3
          · exact q.2.1 i x' z h2 h3
        · rw [if_pos (zp_f.mpr c2)]
          exact ⟨_, tkI, rfl⟩
    · rw [if_pos (zp_f.mpr c)]
      refine ⟨u, ⟨q.1, fun i x' h1 h2 h3 => ?_, fun w hw => q.2.2 w (fun x' h1 => hw x' (by omega))⟩, rfl⟩
      by_cases e : x' = x
      · rw [e] at h2; exact absurd h2.2.2.1 c
      · exact q.2.1 i x' (by omega) h2 h3) (i := 0) (n := 10000) (Nat.zero_le _) (a := s1) ⟨fun _ _ _ => rfl, fun i x' h1 => by omega, fun _ _ => rfl⟩ (by decide)
  rw [nI_0] at l2
  obtain ⟨s2, ⟨c1, c2, c3⟩, c4⟩ := l2
  refine ⟨s2, ⟨fun c i h1 h2 => by rw [c1 c i h1, a1 c i h2, f0 c i h1], fun i x hc hr => ?_, fun w hw => ?_⟩, c4⟩
  · rw [c2 i x hc.2.1 hc hr, a2 i x hc.2.1 hc hr]
  · rw [c3 w (fun x' _ => hw x'), a1 33 w (by decide)]
theorem zM_costs_eq (hW : zq_WF P nb sz) (h : zq_Tab P nb sz t) (hF : zG_fm P nb t fm R op ld) {s : zx_S} (hP : zq_Pg P s) (hs : zm_Ca P nb sz t s) {b k : Nat} (hb : zq_rc P nb b) (hk : k < sz b) : zM_ValueBenchModel_costs fm (nI b) (nI k) s = some (zi (zq_kp P nb sz R b k)) := by
  have hnb := hW.2.1
  have hbn := hb.1
  have hsz := (hW.2.2.1 b hbn).2
  have h261 := zq_st_261 hW (Nat.le_refl nb)
  have hTT := h.1
  have z20 : ¬ (2 : Int32) = 0 := by decide
  have z21 : ¬ (2 : Int32) = 1 := by decide
  unfold zM_ValueBenchModel_costs zq_kp
  simp only [nI_100, zc_lt, zc_ck (show 100 * b + k < 1600 by omega) (by decide), zc_cl (show 100 * b + k < 2 ^ 31 by omega), hP.at (c := 1) (by decide) (by decide)]
  by_cases c2 : P 1 (100 * b + k) = 2
  · rcases hF with ⟨rfl, rfl, rfl, rfl⟩ | ⟨rfl, rfl, rfl, rfl⟩
    · rw [if_neg z10, if_pos c2, if_pos c2]; rfl
    · rw [if_neg z20, if_pos c2, if_pos c2]; rfl
  · rcases hF with ⟨rfl, rfl, rfl, rfl⟩ | ⟨rfl, rfl, rfl, rfl⟩
    · rw [if_neg z10, if_neg c2, if_neg c2, if_pos rfl]
      by_cases c14 : P 1 (100 * b + k) = 14
      · rw [if_pos c14]; rfl
      · rw [if_neg c14, (zp_t (p := ¬ zR_0 (zq_ii P nb sz b k))).mpr (fun z => z)]; rfl
    · rw [if_neg z20, if_neg c2, if_neg c2, if_neg z21]
      by_cases c14 : P 1 (100 * b + k) = 14
      · rw [if_pos c14, if_pos c14]; rfl
      · have q : zq_isN P nb sz (zq_ii P nb sz b k) b k := ⟨hb, hk, (zm_iv P b k).mpr ⟨c2, c14⟩, rfl⟩
        have hv := zm_ii hW h q
        rw [if_neg c14, if_neg c14, (hs.2.2.1.2.2.2.2.2.1 _ b k q).1, zc_ck (show zq_ii P nb sz b k < 270 by omega) (by decide), zc_cl (show zq_ii P nb sz b k < 2 ^ 31 by omega), hs.2.2.2.2.2.2 _ hv]
        by_cases c : zq_rd P nb t (zq_ii P nb sz b k)
        · rw [zp_t.mpr c, zp_f.mpr (fun z => z c)]; rfl
        · rw [zp_f.mpr c, zp_t.mpr c]; rfl
theorem zM_en_eq (hW : zq_WF P nb sz) (hn : 0 < nb) (h : zq_Tab P nb sz t) (hF : zG_fm P nb t fm R op ld) {s : zx_S} (hP : zq_Pg P s) (hs : zm_Ca P nb sz t s) {b : Nat} (hb : zq_rc P nb b) (hj : ¬ zq_how P b = 1) (K : Int32 → Option (Int32 × zx_S)) : zM_en fm (nI b) s K = K (s 33 (ld (zq_En P nb sz b (zq_ev P b)) b)) := by
  have h261 := zq_st_261 hW (Nat.le_refl nb)
  have y2 := (zM_yOf_eq hW hP hb.1 hj).2
  have hO := hF.O hW hn h
  have hl := (hO.2.2.2 _ b (sz b) hb (hW.2.2.1 b hb.1).2 (zq_Ah.en hW hb y2)).1.lt hn
  unfold zM_en
  rcases hF with ⟨rfl, rfl, rfl, rfl⟩ | ⟨rfl, rfl, rfl, rfl⟩
  · rw [if_neg z10, if_neg (by decide), zM_reads_eq hW hn h hP hs hb hj, zc_b1, if_pos rfl, zc_ck (Nat.lt_of_lt_of_le hl (by omega)) (by decide), zc_cl (Nat.lt_of_lt_of_le hl (by omega))]
  · rw [if_neg (by decide), if_pos rfl, zM_reads_eq hW hn h hP hs hb hj, zc_b1, if_neg z10, zc_ck (Nat.lt_of_lt_of_le hl (by omega)) (by decide), zc_cl (Nat.lt_of_lt_of_le hl (by omega))]
/-- an EMIT -/
theorem zM_acts_em (hW : zq_WF P nb sz) (hn : 0 < nb) (h : zq_Tab P nb sz t) (hF : zG_fm P nb t fm R op ld) {s : zx_S} (hP : zq_Pg P s) (hs : zm_Ca P nb sz t s) {b k : Nat} (hb : zq_rc P nb b) (hk : k < sz b) (h14 : P 1 (100 * b + k) = 14) : ∃ s', zM_ValueBenchModel_acts fm (nI b) (nI k) s = zx_b1 (zM_ValueBenchModel_emit (s 33 (ld (zq_At P nb sz b k (zq_x P b k)) b)) s') (fun s13 => some s13) ∧ ∀ c i, c ≠ 27 → s' c i = s c i := by
  have hnb := hW.2.1
  have hbn := hb.1
  have hsz := (hW.2.2.1 b hbn).2
  have h261 := zq_st_261 hW (Nat.le_refl nb)
  have hO := hF.O hW hn h
  obtain ⟨-, x2, x1⟩ := hW.ins hbn hk
  have ah := zq_Ah.at hW hb (Nat.le_of_lt hk) x1
  have hl := (hO.2.2.2 _ b k hb (by omega) ah).1.lt hn
  obtain ⟨s', r1, r2⟩ := zM_readAt_eq hW hn h hP hs hb (Nat.le_of_lt hk) x1
  refine ⟨s', ?_, r2⟩
  have hs' : zm_Ca P nb sz t s' := hs.keep (fun c i q => r2 c i (by omega))
  unfold zM_ValueBenchModel_acts
  simp only [nI_100, zc_lt, zc_ck (show 100 * b + k < 1600 by omega) (by decide), zc_cl (show 100 * b + k < 2 ^ 31 by omega), hP.at (c := 1) (by decide) (by decide), hP.at (c := 2) (by decide) (by decide), x2, r1, zc_b2]
  have eT : zq_At P nb sz b k (zq_x P b k) < zt_T t := by rw [h.1]; exact ah.lt hn
  rcases hF with ⟨rfl, rfl, rfl, rfl⟩ | ⟨rfl, rfl, rfl, rfl⟩
  · rw [if_neg z10, if_pos h14, if_pos rfl, zc_ck (Nat.lt_of_lt_of_le hl (by omega)) (by decide), zc_cl (Nat.lt_of_lt_of_le hl (by omega)), r2 33 _ (by decide)]
  · rw [if_neg (by decide), if_pos h14, if_neg (by decide), zM_leader_eq hW hn h hs' hbn eT (ah.hd hW hn h hs'.2.2.1.2.2.1 hb (by omega)), zc_b1, zc_ck (Nat.lt_of_lt_of_le hl (by omega)) (by decide), zc_cl (Nat.lt_of_lt_of_le hl (by omega)), r2 33 _ (by decide)]
/-- what defines a VALUE -/
theorem zM_acts_v (hW : zq_WF P nb sz) (hn : 0 < nb) (h : zq_Tab P nb sz t) (hF : zG_fm P nb t fm R op ld) {s : zx_S} (hP : zq_Pg P s) (hs : zm_Ca P nb sz t s) {v b k kd : Nat} (q : zq_isN P nb sz v b k) (kd1 : kd ≤ 14) (kd2 : P 1 (100 * b + k) = nI kd) : zM_ValueBenchModel_acts fm (nI b) (nI k) s = if kd = 0 then some (zx_su s 33 v (P 3 (100 * b + k))) else if kd = 1 then some (zx_su s 33 v (s 35 (zq_y P b k))) else zx_b1 (zM_ValueBenchModel_work (nI kd) (s 33 (op v 0)) (s 33 (op v 1)) s) fun r21 => some (zx_su s 33 v r21) := by
  have hnb := hW.2.1
  have hb := q.1
  have hk := q.2.1
  have hbn := hb.1
  have hsz := (hW.2.2.1 b hbn).2
  have h261 := zq_st_261 hW (Nat.le_refl nb)
  have hTT := h.1
  have hO := hF.O hW hn h
  have hv := zm_ii hW h q
  obtain ⟨i2, i14⟩ := (zm_iv P b k).mp q.2.2.1
  obtain ⟨l0, l1, l2, l14, l2'⟩ := nI_lit kd1
  have n0 : ¬ fm = 0 := by rcases hF with ⟨rfl, -⟩ | ⟨rfl, -⟩ <;> decide
  unfold zM_ValueBenchModel_acts
  simp only [nI_100, zc_lt, zc_ls, zc_ck (show 100 * b + k < 1600 by omega) (by decide), zc_cl (show 100 * b + k < 2 ^ 31 by omega), hP.at (c := 1) (by decide) (by decide), hP.at (c := 3) (by decide) (by decide), (hs.2.2.1.2.2.2.2.2.1 v b k q).1, zc_ck (show v < 270 by omega) (by decide), zc_cl (show v < 2 ^ 31 by omega)]
  rw [if_neg n0, if_neg i14, kd2]
  rw [kd2] at i2 i14
  have k2 := mt l2.mpr i2
  have k14 := mt l14.mpr i14
  by_cases c0 : kd = 0
  · rw [if_neg (mt l2'.mp (by omega)), if_pos (l0.mpr c0), if_pos c0]
  · by_cases c1 : kd = 1
    · obtain ⟨kd', kd1', kd2', -, w1, -, -⟩ := hW.2.2.2.2.1 b k hbn hk
      have ek : kd' = kd := nI_inj (by omega) (by omega) (kd2'.symm.trans kd2)
      obtain ⟨y, y1, y2⟩ := w1 (ek.trans c1)
      have ey : zq_y P b k = y := by unfold zq_y; rw [y2, zc_cl (by omega)]
      rw [if_neg (mt l2'.mp (by omega)), if_neg (mt l0.mp c0), if_neg c0, if_pos c1, y2, ey, zc_ck y1 (by decide), zc_cl (show y < 2 ^ 31 by omega)]
    · rw [if_pos (l2'.mpr (by omega)), if_neg c0, if_neg c1]
      have h3 : (3 : Int32) ≤ P 1 (100 * b + k) := (zq_kd3 kd1 kd2).1.mpr (by omega)
      have ec : zt_c t v = 2 := by rw [(h.2.2.2 v b k q).2.2.2.1, if_pos h3]
      have o0 := (hO.1 v b k 0 q (by omega)).1.lt hn
      have o1 := (hO.1 v b k 1 q (by omega)).1.lt hn
      have e21 := (hs.2.2.2.2.1.2 v hv).2.2.2.2
      have e0 := e21 0 (by omega)
      have e1 := e21 1 (by omega)
      rw [Nat.add_zero] at e0
      have L0 := zM_ledOperand_eq hW hn h hP hs hv (show 0 < zt_c t v by omega)
      have L1 := zM_ledOperand_eq hW hn h hP hs hv (show 1 < zt_c t v by omega)
      rw [nI_0] at L0
      rw [show nI 1 = (1 : Int32) by decide] at L1
      have e20 : (20 : Int32) * nI v + 1 = nI (20 * v + 1) := by rw [show (1 : Int32) = nI 1 by decide, nI_20]
      have p1 : P 1 (100 * b + k) = nI kd := kd2
      rcases hF with ⟨rfl, rfl, rfl, rfl⟩ | ⟨rfl, rfl, rfl, rfl⟩
      · rw [if_pos rfl, nI_20z, zc_ck (show 20 * v < 5400 by omega) (by decide), zc_cl (show 20 * v < 2 ^ 31 by omega), e0]
        unfold zM_ValueBenchModel_acts_J302
        rw [if_pos rfl, e20, zc_ck (show 20 * v + 1 < 5400 by omega) (by decide), zc_cl (show 20 * v + 1 < 2 ^ 31 by omega), e1]
        unfold zM_ValueBenchModel_acts_J331
        rw [zc_ck (show 100 * b + k < 1600 by omega) (by decide), zc_cl (show 100 * b + k < 2 ^ 31 by omega), hP.at (c := 1) (by decide) (by decide), p1, zc_ck (Nat.lt_of_lt_of_le o0 (by omega)) (by decide), zc_ck (Nat.lt_of_lt_of_le o1 (by omega)) (by decide), zc_cl (Nat.lt_of_lt_of_le o0 (by omega)), zc_cl (Nat.lt_of_lt_of_le o1 (by omega))]
        simp only [zc_ck (show v < 270 by omega) (by decide), zc_cl (show v < 2 ^ 31 by omega), zc_ls]
      · rw [if_neg (by decide), L0, zc_b1]
        unfold zM_ValueBenchModel_acts_J302
        rw [if_neg (by decide), L1, zc_b1]
        unfold zM_ValueBenchModel_acts_J331
        rw [zc_ck (show 100 * b + k < 1600 by omega) (by decide), zc_cl (show 100 * b + k < 2 ^ 31 by omega), hP.at (c := 1) (by decide) (by decide), p1, zc_ck (Nat.lt_of_lt_of_le o0 (by omega)) (by decide), zc_ck (Nat.lt_of_lt_of_le o1 (by omega)) (by decide), zc_cl (Nat.lt_of_lt_of_le o0 (by omega)), zc_cl (Nat.lt_of_lt_of_le o1 (by omega))]
        simp only [zc_ck (show v < 270 by omega) (by decide), zc_cl (show v < 2 ^ 31 by omega), zc_ls]
end RM
