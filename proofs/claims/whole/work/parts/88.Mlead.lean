/-! PURE: the reference: make with and without BLOCKS; leader, OPERANDS of LED, what is read -/
section MR
variable {P : zx_S} {nb : Nat} {sz : Nat → Nat} {t : zc_Tb}
theorem zm_Tb.keep {s s' : zx_S} (h : zm_Tb t s) (hk : ∀ c i, (c = 0 ∧ i = 18) ∨ (16 ≤ c ∧ c ≤ 22) → s' c i = s c i) : zm_Tb t s' := by
  refine ⟨by rw [hk 0 18 (by decide)]; exact h.1, fun i hi => ?_⟩
  obtain ⟨a1, a2, a3, a4, a5⟩ := h.2 i hi
  exact ⟨by rw [hk 16 i (by omega)]; exact a1, by rw [hk 17 i (by omega)]; exact a2, by rw [hk 19 i (by omega)]; exact a3, by rw [hk 22 i (by omega)]; exact a4, fun j hj => by rw [hk 21 _ (by omega)]; exact a5 j hj⟩
theorem zm_Ca.keep {s s' : zx_S} (h : zm_Ca P nb sz t s) (hk : ∀ c i, (c = 0 ∧ i = 18) ∨ (10 ≤ c ∧ c ≤ 30 ∧ c ≠ 11 ∧ c ≠ 27 ∧ c ≠ 29) → s' c i = s c i) : zm_Ca P nb sz t s' := by
  obtain ⟨a1, a2, a3, a4, a5, a6, a7⟩ := h
  exact ⟨a1.keep (fun c i h1 h2 h3 => hk c i (by omega)), fun b v hb hv => by rw [hk 15 _ (by omega)]; exact a2 b v hb hv, a3.keep (fun c i hc => hk c i (by omega)), fun b k h1 h2 h3 => by rw [hk 24 _ (by omega)]; exact a4 b k h1 h2 h3, a5.keep (fun c i hc => hk c i (by omega)), fun i hi => by rw [hk 28 i (by omega)]; exact a6 i hi, fun i hi => by rw [hk 30 i (by omega)]; exact a7 i hi⟩
/-- the reference's world, all made -/
def zm_Cb (P : zx_S) (nb : Nat) (sz : Nat → Nat) (t : zc_Tb) (s : zx_S) : Prop := (0 < nb → zm_Ca P nb sz t s) ∧ (nb = 0 → s 0 18 = 0)
theorem zm_Cb.keep {s s' : zx_S} (h : zm_Cb P nb sz t s) (hk : ∀ c i, (c = 0 ∧ i = 18) ∨ (10 ≤ c ∧ c ≤ 30 ∧ c ≠ 11 ∧ c ≠ 27 ∧ c ≠ 29) → s' c i = s c i) : zm_Cb P nb sz t s' :=
  ⟨fun hn => (h.1 hn).keep hk, fun h0 => by rw [hk 0 18 (by decide)]; exact h.2 h0⟩
theorem zM_make_spec0 (hW : zq_WF P nb sz) (h0 : nb = 0) {s : zx_S} (hs : zq_Pg P s) (h11 : s 0 11 = 0) : ∃ s', (zq_Pg P s' ∧ s' 0 18 = 0 ∧ s' 0 11 = 1 ∧ ∀ c i, (c = 0 ∧ i ≠ 18 ∧ i ≠ 11) ∨ 30 < c → s' c i = s c i) ∧ zM_ValueBenchModel_make s = some s' := by
  have hP := hW.1
  have hnb := hW.2.1
  unfold zM_ValueBenchModel_make
  rw [if_pos h11, zc_ls]
  have hs0 : zq_Pg P (zx_su s 0 11 1) := hs.su (Or.inr ⟨rfl, by decide⟩)
  obtain ⟨s1, ⟨a1, a2⟩, a3⟩ := zM_dominance_spec hP hnb hs0
  rw [a3, zc_b1]
  obtain ⟨s2, ⟨b1, b2, -⟩, b4⟩ := zM_choices_spec hW a1.1 a2.2.2.2
  rw [b4, zc_b1]
  have z2 : s2 0 0 = 0 := by rw [b1.1, hP, h0]; exact nI_0
  have z3 : zx_su s2 0 18 0 0 0 = 0 := by rw [zs_ne (Or.inr (by decide))]; exact z2
  unfold zM_ValueBenchModel_numbers
  rw [zc_ls, if_pos z3, zc_b1]
  have le0 : zx_su s2 0 18 0 0 0 ≤ 0 := by rw [z3]; exact Int32.le_refl _
  unfold zM_ValueBenchModel_names
  rw [zM_ValueBenchModel_names_L2, if_pos le0, zM_ValueBenchModel_names_L38, if_neg (by decide), zM_ValueBenchModel_names_L46, if_pos le0, zM_ValueBenchModel_names_L38, if_pos rfl, zM_ValueBenchModel_names_L236, if_pos le0, zc_b1]
  obtain ⟨s3, ⟨c1, -, c3⟩, c4⟩ := zM_classes_spec (t := (0, fun _ => 0, fun _ => 0, fun _ => 0, fun _ => 0, fun _ _ => 0)) (s := zx_su s2 0 18 0) ⟨fun u v hu => absurd hu (Nat.not_lt_zero _), fun u hu => absurd hu (Nat.not_lt_zero _), fun u j hu => absurd hu (Nat.not_lt_zero _), fun u hu => absurd hu (Nat.not_lt_zero _), Nat.zero_le _⟩ ⟨by rw [zs_eq]; exact nI_0.symm, fun u hu => absurd hu (Nat.not_lt_zero _)⟩
  rw [c4, zc_b1]
  have z18 : s3 0 18 = 0 := by rw [c3 0 18 (by decide) (by decide), zs_eq]
  unfold zM_ValueBenchModel_redundant
  rw [zM_ValueBenchModel_redundant_L2, if_pos (by rw [z18]; exact Int32.le_refl _), zc_b1]
  have F : ∀ c i, (c = 0 ∧ i ≠ 18) ∨ 30 < c → s3 c i = zx_su s 0 11 1 c i := fun c i hc => by
    rw [c3 c i (by omega) (by omega), zs_ne (by omega), b2 c (by omega), a1.2 c (by omega)]
  refine ⟨s3, ⟨⟨by rw [c3 0 0 (by decide) (by decide), zs_ne (Or.inr (by decide))]; exact b1.1, fun c h1 h2 => by funext i; rw [c3 c i (by omega) (by omega), zs_ne (Or.inl (by omega)), b1.2 c h1 h2]⟩, z18, by rw [F 0 11 (by decide), zs_eq], fun c i hc => by rw [F c i (by omega), zs_ne (by omega)]⟩, rfl⟩
theorem zM_make_all (hW : zq_WF P nb sz) (ht : 0 < nb → zq_Tab P nb sz t) {s : zx_S} (hs : zq_Pg P s) (hc : s 0 11 ≠ 0 → zm_Cb P nb sz t s) : ∃ s', (zq_Pg P s' ∧ zm_Cb P nb sz t s' ∧ s' 0 11 ≠ 0 ∧ ∀ c i, (c = 0 ∧ i ≠ 18 ∧ i ≠ 11) ∨ 30 < c → s' c i = s c i) ∧ zM_ValueBenchModel_make s = some s' := by
  by_cases h11 : s 0 11 = 0
  · by_cases hn : 0 < nb
    · obtain ⟨s', ⟨a1, a2, a3, a4⟩, a5⟩ := zM_make_spec hW hn (ht hn) hs h11
      exact ⟨s', ⟨a1, ⟨fun _ => a2, fun z => by omega⟩, by rw [a3]; decide, a4⟩, a5⟩
    · obtain ⟨s', ⟨a1, a2, a3, a4⟩, a5⟩ := zM_make_spec0 hW (by omega) hs h11
      exact ⟨s', ⟨a1, ⟨fun z => absurd z hn, fun _ => a2⟩, by rw [a3]; decide, a4⟩, a5⟩
  · refine ⟨s, ⟨hs, hc h11, h11, fun _ _ _ => rfl⟩, ?_⟩
    unfold zM_ValueBenchModel_make
    rw [if_neg h11]
theorem zm_Ca.rd {s : zx_S} (h : zm_Ca P nb sz t s) : zm_Rd P nb t (s 20) s := ⟨h.2.2.2.2.1, h.1.2.1, h.2.2.2.2.2.1, fun _ => rfl⟩
theorem zM_leader_eq (hW : zq_WF P nb sz) (hn : 0 < nb) (h : zq_Tab P nb sz t) {s : zx_S} (hs : zm_Ca P nb sz t s) {v b : Nat} (hb : b < nb) {p : Int32} (hv : v < zt_T t) (hh : zq_hd P nb t (s 20) v b p) : zM_ValueBenchModel_leader (nI v) (nI b) p s = some (nI (zq_Ld P nb t v b)) := by
  have hnb := hW.2.1
  have hT := (h.H hW hn).2.2.2.2
  have kle : ∀ i, zc_K t i ≤ i := fun i => zc_rp_le _ _
  have kv := kle v
  have pl := hs.2.2.1.2.2.1
  obtain ⟨lr, lh⟩ := zq_hd.Ld hW hn h pl hv hh
  have rd := hs.rd
  have e18 := hs.2.2.2.2.1.1
  unfold zM_ValueBenchModel_leader
  have := zf_first (L := fun n i => zM_ValueBenchModel_leader_L3 (nI v) (nI b) p s (fun v4_5 => some v4_5) n i) (K := fun i => some (nI i)) (E := some (-1 : Int32)) (zt_T t) 0 (fun u => zq_lr P nb t v b u ∧ zq_hd P nb t (s 20) u b p) (fun n => by
    show zM_ValueBenchModel_leader_L3 (nI v) (nI b) p s (fun v4_5 => some v4_5) (n + 1) (nI (zt_T t)) = some (-1)
    rw [zM_ValueBenchModel_leader_L3, e18, if_pos (Int32.le_refl _)]) (fun n u _ hu hp => by
    show zM_ValueBenchModel_leader_L3 (nI v) (nI b) p s (fun v4_5 => some v4_5) (n + 1) (nI u) = some (nI u)
    rw [zM_ValueBenchModel_leader_L3, e18, if_neg (by rw [nI_leI (by omega) (by omega)]; omega)]
    simp only [zc_ck (show u < 270 by omega) (by decide), zc_ck (show v < 270 by omega) (by decide), zc_cl (show u < 2 ^ 31 by omega), zc_cl (show v < 2 ^ 31 by omega), rd.2.2.1 u hu, rd.2.2.1 v hv, hs.2.2.2.2.2.2 u hu, zM_isAhead_eq hW hn h rd hu hb p, zc_b1, zi_0]
    rw [if_pos (by rw [hp.1.2.1]), if_pos (zp_f.mpr hp.1.2.2.1), if_neg (by rw [zp_t.mpr hp.2]; decide)]) (fun n u _ hu hp => by
    show zM_ValueBenchModel_leader_L3 (nI v) (nI b) p s (fun v4_5 => some v4_5) (n + 1) (nI u) = zM_ValueBenchModel_leader_L3 (nI v) (nI b) p s (fun v4_5 => some v4_5) n (nI (u + 1))
    have ku := kle u
    rw [zM_ValueBenchModel_leader_L3, e18, if_neg (by rw [nI_leI (by omega) (by omega)]; omega)]
    simp only [zc_ck (show u < 270 by omega) (by decide), zc_ck (show v < 270 by omega) (by decide), zc_cl (show u < 2 ^ 31 by omega), zc_cl (show v < 2 ^ 31 by omega), rd.2.2.1 u hu, rd.2.2.1 v hv, hs.2.2.2.2.2.2 u hu, zM_isAhead_eq hW hn h rd hu hb p, zc_b1, zi_0, zc_lt, nI_1]
    by_cases c1 : nI (zc_K t u) = nI (zc_K t v)
    · have e1 : zc_K t u = zc_K t v := nI_inj (by omega) (by omega) c1
      rw [if_pos c1]
      by_cases c2 : zp (zq_rd P nb t u) = false
      · rw [if_pos c2, if_pos (zp_f.mpr (fun z => hp ⟨⟨hu, e1, zp_f.mp c2, z.D hW hn h hu⟩, z⟩))]
      · rw [if_neg c2]
    · rw [if_neg c1]) (Nat.zero_le _) (n := 10000) (by omega)
  rw [nI_0] at this
  rcases this with ⟨i, i1, i2, i3, -, e⟩ | ⟨hno, e⟩
  · rw [e, zq_Ld_eq i3.1]
  · exact absurd ⟨lr, lh⟩ (hno _ (Nat.zero_le _) lr.1)
theorem zM_predecessorAt_eq (hW : zq_WF P nb sz) {s : zx_S} (hs : zq_Pg P s) (h10 : zm_R10 P nb s) {b : Nat} (hb : b < nb) {j : Nat} (hj : j < 2 ^ 31) : zM_ValueBenchModel_predecessorAt (nI b) (nI j) s = some (if zq_nt P nb b j < nb then nI (zq_nt P nb b j) else -1) := by
  have hnb := hW.2.1
  have e00 : s 0 0 = nI nb := hs.1.trans hW.1
  unfold zM_ValueBenchModel_predecessorAt
  have := zf_loop (A := Nat × Nat) (L := fun n a => zM_ValueBenchModel_predecessorAt_L5 (nI b) (nI j) s (fun v4_6 => some v4_6) n (nI a.1) (nI a.2)) (Out := fun o => o = some (if zq_nt P nb b j < nb then nI (zq_nt P nb b j) else -1)) (Inv := fun m a => a.2 ≤ nb ∧ m = nb - a.2 ∧ a.1 = zq_np P nb b a.2 ∧ a.1 ≤ j) (fun n m a ha => by
    obtain ⟨c, p⟩ := a
    obtain ⟨h1, h2, h3, h4⟩ := ha
    dsimp only at h1 h2 h3 h4
    subst h3
    show (zM_ValueBenchModel_predecessorAt_L5 (nI b) (nI j) s (fun v4_6 => some v4_6) (n + 1) (nI (zq_np P nb b p)) (nI p) = _) ∨ ∃ m' a', _ ∧ _ ∧ zM_ValueBenchModel_predecessorAt_L5 (nI b) (nI j) s (fun v4_6 => some v4_6) (n + 1) (nI (zq_np P nb b p)) (nI p) = _
    rw [zM_ValueBenchModel_predecessorAt_L5, e00]
    by_cases e : p = nb
    · left
      subst e
      rw [if_pos (Int32.le_refl _), if_neg]
      intro z
      have := zq_nt_lt z
      have hlt : zq_np P p b (zq_nt P p b j) < zq_np P p b p := zn_in (f := fun q => zp (zq_pr P p b q)) z (zp_t.mpr this.1)
      omega
    · have hp : p < nb := by omega
      rw [if_neg (by rw [nI_leI (by omega) (by omega)]; omega), if_neg (nI_pos hj), zc_ck (show p < 16 by omega) (by decide), zc_cl (by omega), h10 p hp]
      simp only [zi_0, zc_lt, nI_1, zM_leads_eq hs hnb hp hb, zc_b1]
      have stp : zq_np P nb b (p + 1) = zq_np P nb b p + (if zp (zq_pr P nb b p) then 1 else 0) := rfl
      have skip : ¬ zq_pr P nb b p → ∃ m', ∃ a' : Nat × Nat, m' < m ∧ (a'.2 ≤ nb ∧ m' = nb - a'.2 ∧ a'.1 = zq_np P nb b a'.2 ∧ a'.1 ≤ j) ∧ zM_ValueBenchModel_predecessorAt_L5 (nI b) (nI j) s (fun v4_6 => some v4_6) n (nI (zq_np P nb b p)) (nI (p + 1)) = zM_ValueBenchModel_predecessorAt_L5 (nI b) (nI j) s (fun v4_6 => some v4_6) n (nI a'.1) (nI a'.2) := fun hno =>
        ⟨nb - (p + 1), (zq_np P nb b p, p + 1), by omega, ⟨by show p + 1 ≤ nb; omega, rfl, by show zq_np P nb b p = zq_np P nb b (p + 1); rw [stp, zp_f.mpr hno]; rfl, h4⟩, rfl⟩
      by_cases c1 : zp (zq_rc P nb p) = false
      · right
        rw [if_pos c1]
        exact skip (fun q => zp_f.mp c1 q.1)
      · rw [if_neg c1]
        by_cases c3 : zp (zq_ld P nb p b) = false
        · right
          rw [if_pos c3]
          exact skip (fun q => zp_f.mp c3 q.2)
        · rw [if_neg c3]
          have hpr : zq_pr P nb b p := ⟨zp_t.mp (by simpa using c1), zp_t.mp (by simpa using c3)⟩
          by_cases c2 : nI (zq_np P nb b p) = nI j
          · left
            have ej : zq_np P nb b p = j := nI_inj (by omega) hj c2
            rw [if_pos c2, ← ej, zq_nt_eq hpr, if_pos hp]
          · right
            rw [if_neg c2]
            have hne : zq_np P nb b p ≠ j := fun z => c2 (by rw [z])
            exact ⟨nb - (p + 1), (zq_np P nb b p + 1, p + 1), by omega, ⟨by show p + 1 ≤ nb; omega, rfl, by show zq_np P nb b p + 1 = zq_np P nb b (p + 1); rw [stp, zp_t.mpr hpr]; rfl, by show zq_np P nb b p + 1 ≤ j; omega⟩, rfl⟩) 10000 nb (0, 0) ⟨Nat.zero_le _, rfl, rfl, Nat.zero_le _⟩ (by omega)
  dsimp only at this
  rw [nI_0] at this
  exact this
end MR
