/-! PURE: the class's refresh -/
section XRf
variable {P : zx_S} {nb : Nat} {sz : Nat → Nat} {t : zc_Tb}
/-- the class's world, all made anew -/
def zX_Ca (P : zx_S) (nb : Nat) (sz : Nat → Nat) (t : zc_Tb) (s : zx_S) : Prop := zX_Pr P nb sz s ∧ zX_Gr P nb s ∧ (0 < nb → zX_Lw P nb sz t s ∧ zX_Le P nb sz t s ∧ s 33 2 = nI (zn (fun v => zp (zc_K t v = v)) (zt_T t))) ∧ (nb = 0 → s 18 11 = 0 ∧ (∀ b, b < 16 → s 30 b = 0) ∧ s 33 2 = 0 ∧ s 36 2 = 0)
theorem zX_part_spec0 {s : zx_S} (h : s 18 11 = 0) (h23 : s 23 0 = 0) : ∃ s', (s' 33 2 = 0 ∧ ∀ c i, c ≠ 33 → c ≠ 34 → c ≠ 35 → s' c i = s c i) ∧ zX_Classes_part s = some s' := by
  obtain ⟨s', ⟨a1, -, a3⟩, a4⟩ := zX_part_spec (t := (0, fun _ => 0, fun _ => 0, fun _ => 0, fun _ => 0, fun _ _ => 0)) (s := s) ⟨⟨fun u v hu => absurd hu (Nat.not_lt_zero _), fun u hu => absurd hu (Nat.not_lt_zero _), fun u j hu => absurd hu (Nat.not_lt_zero _), fun u hu => absurd hu (Nat.not_lt_zero _), Nat.zero_le _⟩, Nat.zero_le _, fun u hu => absurd hu (Nat.not_lt_zero _)⟩ ⟨by rw [h]; exact nI_0.symm, fun u hu => absurd hu (Nat.not_lt_zero _), fun i hi => by
    have : i = 0 := Nat.le_zero.mp hi
    rw [this, h23]; exact nI_0.symm, fun u hu => absurd hu (Nat.not_lt_zero _)⟩
  exact ⟨s', ⟨a3.trans nI_0, a1⟩, a4⟩
theorem zX_lead_spec0 (hnb : nb ≤ 16) (h0 : nb = 0) {s : zx_S} (h : s 18 11 = 0) (hG : zX_Gr P nb s) : ∃ s', (s' 36 2 = 0 ∧ ∀ c i, c ≠ 36 → s' c i = s c i) ∧ zX_Leaders_lead s = some s' := by
  unfold zX_Leaders_lead
  rw [zc_ls]
  have h18 : zx_su s 36 2 0 18 11 = 0 := by rw [zs_ne (Or.inl (by decide))]; exact h
  rw [zX_Leaders_lead_L8, if_pos (by rw [h18]; exact Int32.le_refl _), zX_Leaders_lead_L66, if_pos (by rw [h18]; exact Int32.le_refl _)]
  have rch : ∀ b, b < 2 ^ 31 → zX_Graph_reaches (nI b) (zx_su s 36 2 0) = some (zi false) := fun b hb => by
    rw [zX_reaches_eq (P := P) (s := zx_su s 36 2 0) hnb (by rw [zs_ne (Or.inl (by decide))]; exact hG.1) hb, zp_f.mpr (zX_no_rc h0 b)]
  have := zf_for (L := fun n i u => zX_Leaders_lead_L104 (fun s24 => some s24) n i u) (k := fun s24 => some s24) 16 (fun _ u => u = zx_su s 36 2 0) (fun n u _ => by
    show zX_Leaders_lead_L104 (fun s24 => some s24) (n + 1) (nI 16) u = some u
    rw [zX_Leaders_lead_L104, if_pos (by decide)]) (fun n b u hb q => by
    show ∃ a', _ ∧ zX_Leaders_lead_L104 (fun s24 => some s24) (n + 1) (nI b) u = zX_Leaders_lead_L104 (fun s24 => some s24) n (nI (b + 1)) a'
    rw [zX_Leaders_lead_L104, if_neg (by rw [show (16 : Int32) = nI 16 by decide, nI_leI (by omega) (by omega)]; omega), q, rch b (by omega), zc_b1, if_pos zi_f, zc_lt, nI_1]
    exact ⟨_, rfl, rfl⟩) (i := 0) (n := 10000) (Nat.zero_le _) (a := zx_su s 36 2 0) rfl (by decide)
  rw [nI_0] at this
  obtain ⟨s', e, h3⟩ := this
  subst e
  exact ⟨_, ⟨zs_eq _ _ _ _, fun c i hc => zs_ne (Or.inl hc)⟩, h3⟩
theorem zX_Ca.su0 {s : zx_S} (h : zX_Ca P nb sz t s) (i : Nat) (x : Int32) : zX_Ca P nb sz t (zx_su s 0 i x) := by
  have hk : ∀ c j, 1 ≤ c → zx_su s 0 i x c j = s c j := fun c j hc => zs_ne (Or.inl (by omega))
  refine ⟨h.1.keep (fun c j h1 _ => hk c j h1), h.2.1.keep (fun c j h1 _ => hk c j (by omega)), fun hn => ?_, fun h0 => ?_⟩
  · obtain ⟨a1, ⟨b1, b2, b3, b4⟩, a3⟩ := h.2.2.1 hn
    refine ⟨a1.keep (fun c j h1 _ => hk c j h1), ⟨fun v hv => by rw [hk 37 v (by decide)]; exact b1 v hv, by rw [hk 36 2 (by decide)]; exact b2, fun v j h1 h2 h3 => by rw [hk 39 _ (by decide)]; exact b3 v j h1 h2 h3, fun b hb => ⟨fun k h1 h2 => by rw [hk 40 _ (by decide)]; exact (b4 b hb).1 k h1 h2, by rw [hk 41 _ (by decide)]; exact (b4 b hb).2⟩⟩, by rw [hk 33 2 (by decide)]; exact a3⟩
  · obtain ⟨a1, a2, a3, a4⟩ := h.2.2.2 h0
    exact ⟨by rw [hk 18 11 (by decide)]; exact a1, fun b hb => by rw [hk 30 b (by decide)]; exact a2 b hb, by rw [hk 33 2 (by decide)]; exact a3, by rw [hk 36 2 (by decide)]; exact a4⟩
theorem zX_refresh_spec (hW : zq_WF P nb sz) (ht : 0 < nb → zq_Tab P nb sz t) {s : zx_S} (hP : zX_Pr P nb sz s) (h23 : s 23 0 = 0) (hc : s 0 9 = 0 → zX_Ca P nb sz t s) : ∃ s', (zX_Ca P nb sz t s' ∧ s' 0 9 = 0 ∧ s' 23 0 = 0 ∧ ∀ c i, (c = 0 ∧ i ≠ 9) ∨ (1 ≤ c ∧ c ≤ 10) ∨ 41 < c → s' c i = s c i) ∧ zX_ValueBench_refresh s = some s' := by
  have hnb := hW.2.1
  unfold zX_ValueBench_refresh
  by_cases q : s 0 9 = 0
  · rw [if_pos q]
    exact ⟨s, ⟨hc q, q, h23, fun _ _ _ => rfl⟩, rfl⟩
  · rw [if_neg q]
    obtain ⟨s1, a1, a2, a3⟩ := zX_draw_spec hW hP
    rw [a1, zc_b1]
    have hP1 : zX_Pr P nb sz s1 := hP.keep (fun c i h1 h2 => a3 c i (by omega))
    have h23' : s1 23 0 = 0 := by rw [a3 23 0 (by decide)]; exact h23
    by_cases hn : 0 < nb
    · have h := ht hn
      obtain ⟨s2, ⟨b1, b2⟩, b3⟩ := zX_make_spec hW hn h hP1 a2 h23'
      rw [b3, zc_b1]
      have tb := b1.tb hW hn h
      obtain ⟨s3, ⟨c1, c2, c3⟩, c4⟩ := zX_part_spec (h.Ht hW hn) tb
      rw [c4, zc_b1]
      have hL : zX_Lw P nb sz t s3 := ⟨b1.keep (fun c i h1 h2 => c1 c i (by omega) (by omega) (by omega)), tb.keep (fun c i h1 h2 => c1 c i (by omega) (by omega) (by omega)), c2⟩
      obtain ⟨s4, ⟨d1, d2⟩, d3⟩ := zX_lead_spec hW hn h hL
      rw [d3, zc_b1, zc_ls]
      have hL4 : zX_Lw P nb sz t s4 := hL.keep (fun c i _ h2 => d2 c i (by omega))
      have ca : zX_Ca P nb sz t s4 := ⟨hL4.1.1.1, hL4.1.1.2.1, fun _ => ⟨hL4, d1, by rw [d2 33 2 (by decide)]; exact c3⟩, fun z => by omega⟩
      refine ⟨_, ⟨ca.su0 9 0, zs_eq _ _ _ _, ?_, fun c i hc' => ?_⟩, rfl⟩
      · rw [zs_ne (Or.inl (by decide)), hL4.2.1.2.2.1 0 (Nat.zero_le _)]; exact nI_0
      · rw [zs_ne (by omega), d2 c i (by omega), c1 c i (by omega) (by omega) (by omega), b2 c i (by omega), a3 c i (by omega)]
    · have h0 : nb = 0 := by omega
      obtain ⟨s2, ⟨b1, b2, b3⟩, b4⟩ := zX_make_spec0 hW h0 hP1 a2
      rw [b4, zc_b1]
      obtain ⟨s3, ⟨c1, c2⟩, c3⟩ := zX_part_spec0 b1 (by rw [b3 23 0 (by decide) (by decide) (by decide) (by decide)]; exact h23')
      rw [c3, zc_b1]
      have hG3 : zX_Gr P nb s3 := a2.keep (fun c i h1 h2 => by rw [c2 c i (by omega) (by omega) (by omega), b3 c i (by omega) (by omega) (by omega) (by omega)])
      obtain ⟨s4, ⟨d1, d2⟩, d3⟩ := zX_lead_spec0 hnb h0 (by rw [c2 18 11 (by decide) (by decide) (by decide)]; exact b1) hG3
      rw [d3, zc_b1, zc_ls]
      have ca : zX_Ca P nb sz t s4 := ⟨hP1.keep (fun c i h1 h2 => by rw [d2 c i (by omega), c2 c i (by omega) (by omega) (by omega), b3 c i (by omega) (by omega) (by omega) (by omega)]), hG3.keep (fun c i h1 h2 => d2 c i (by omega)), fun z => by omega, fun _ => ⟨by rw [d2 18 11 (by decide), c2 18 11 (by decide) (by decide) (by decide)]; exact b1, fun b hb => by rw [d2 30 b (by decide), c2 30 b (by decide) (by decide) (by decide)]; exact b2 b hb, by rw [d2 33 2 (by decide)]; exact c1, d1⟩⟩
      refine ⟨_, ⟨ca.su0 9 0, zs_eq _ _ _ _, ?_, fun c i hc' => ?_⟩, rfl⟩
      · rw [zs_ne (Or.inl (by decide)), d2 23 0 (by decide), c2 23 0 (by decide) (by decide) (by decide), b3 23 0 (by decide) (by decide) (by decide) (by decide)]; exact h23'
      · rw [zs_ne (by omega), d2 c i (by omega), c2 c i (by omega) (by omega) (by omega), b3 c i (by omega) (by omega) (by omega) (by omega), a3 c i (by omega)]
end XRf
