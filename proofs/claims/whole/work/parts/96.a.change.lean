/-! PURE: the program changes: block, clear, ends -/
theorem zI_R.keep' {σ σ' τ τ' : zx_S} (h : zI_R σ τ) (h1 : ∀ c i, 41 < c → σ' c i = σ c i) (h2 : ∀ c i, (c = 0 ∧ 34 ≤ i ∧ i ≤ 38) ∨ c = 31 → τ' c i = τ c i) : zI_R σ' τ' := by
  obtain ⟨a1, a2, a3, a4, a5, a6, a7, a8, a9⟩ := h
  refine ⟨?_, ?_, ?_, ?_, ?_, ?_, fun i hi => ?_, ?_, ?_⟩
  · rw [h1 50 3 (by decide), h2 0 34 (by decide)]; exact a1
  · rw [h2 0 34 (by decide)]; exact a2
  · rw [h1 50 4 (by decide), h2 0 35 (by decide)]; exact a3
  · rw [h1 50 5 (by decide), h2 0 36 (by decide)]; exact a4
  · rw [h1 50 6 (by decide), h2 0 37 (by decide)]; exact a5
  · rw [h1 50 7 (by decide), h2 0 38 (by decide)]; exact a6
  · rw [h1 52 i (by decide), h2 0 37 (by decide), h2 31 i (Or.inr rfl)]; exact a7 i hi
  · rw [h1 45 0 (by decide)]; exact a8
  · rw [h1 48 0 (by decide)]; exact a9
theorem zI_new {σ τ : zx_S} {nb : Nat} {sz : Nat → Nat} (hW : zq_WF τ nb sz) (hX : zX_Pr τ nb sz σ) (h11 : τ 0 11 = 0) (h9 : σ 0 9 = 1) (h23 : σ 23 0 = 0) (h1 : τ 0 1 = nI (zt sz nb)) (hR : zI_R σ τ) : zI σ τ := by
  have ht : ∃ t, 0 < nb → zq_Tab τ nb sz t := by
    by_cases hn : 0 < nb
    · obtain ⟨t, h⟩ := zq_Tab.ex hW hn
      exact ⟨t, fun _ => h⟩
    · exact ⟨(0, fun _ => 0, fun _ => 0, fun _ => 0, fun _ => 0, fun _ _ => 0), fun z => absurd z hn⟩
  obtain ⟨t, ht⟩ := ht
  exact ⟨τ, nb, sz, t, hW, ht, ⟨⟨rfl, fun _ _ _ => rfl⟩, fun z => absurd h11 z, h1⟩, ⟨hX, h23, fun z => by rw [h9] at z; exact absurd z (by decide)⟩, hR⟩
/-- the program of the reference's own world -/
theorem zI_own {σ τ : zx_S} (h : zI σ τ) : ∃ nb sz, zq_WF τ nb sz ∧ zX_Pr τ nb sz σ ∧ σ 23 0 = 0 ∧ τ 0 1 = nI (zt sz nb) ∧ zI_R σ τ := by
  obtain ⟨P, nb, sz, t, hW, -, ⟨m1, -, m3⟩, ⟨x1, x2, -⟩, hR⟩ := h
  refine ⟨nb, sz, ?_, ?_, x2, m3, hR⟩
  · obtain ⟨a1, a2, a3, a4, a5, a6⟩ := hW
    refine ⟨m1.1.trans a1, a2, fun b hb => ?_, fun b hb => ?_, fun b k hb hk => ?_, a6⟩
    · rw [m1.at (c := 5) (by decide) (by decide)]; exact a3 b hb
    · rw [m1.at (c := 6) (by decide) (by decide), m1.at (c := 7) (by decide) (by decide), m1.at (c := 8) (by decide) (by decide), m1.at (c := 9) (by decide) (by decide)]; exact a4 b hb
    · rw [m1.at (c := 1) (by decide) (by decide), m1.at (c := 2) (by decide) (by decide), m1.at (c := 3) (by decide) (by decide), m1.at (c := 4) (by decide) (by decide)]; exact a5 b k hb hk
  · obtain ⟨⟨b1, b2, b3⟩, c1, c2, c3⟩ := x1
    refine ⟨⟨b1, fun b hb => ?_, b3⟩, c1, c2, fun b k hb hk => ?_⟩
    · rw [m1.at (c := 6) (by decide) (by decide), m1.at (c := 7) (by decide) (by decide), m1.at (c := 8) (by decide) (by decide), m1.at (c := 9) (by decide) (by decide)]; exact b2 b hb
    · rw [m1.at (c := 1) (by decide) (by decide), m1.at (c := 2) (by decide) (by decide), m1.at (c := 3) (by decide) (by decide), m1.at (c := 4) (by decide) (by decide)]; exact c3 b k hb hk
theorem zI_block : zp_S0 zI := by
  rintro σ τ h
  obtain ⟨nb, sz, hW, hX, h23, h1, hR⟩ := zI_own h
  have hnb := hW.2.1
  unfold zX_ValueBench_block zM_ValueBenchModel_block
  rw [hX.1.1, hW.1]
  by_cases c : nb = 16
  · rw [if_neg (by rw [c]; decide), if_pos (by rw [c]; decide)]
    exact ⟨_, _, _, rfl, rfl, h⟩
  · have hn : nb < 16 := by omega
    rw [if_pos (by rw [show (16 : Int32) = nI 16 by decide, nI_ltI (by omega) (by omega)]; exact hn), if_neg (fun z => c (nI_inj (b := 16) (by omega) (by omega) (z.trans (show (16 : Int32) = nI 16 by decide))))]
    have e0 : ∀ (s : zx_S) (k i : Nat) (x : Int32), k ≠ 0 → zx_su s k i x 0 0 = s 0 0 := fun s k i x hk => zs_ne (Or.inl (fun z => hk z.symm))
    have x9 : zx_su σ 0 9 1 1 9 = nI nb := by rw [zs_ne (Or.inl (by decide))]; exact hX.1.1
    simp only [zc_ls, zc_lt, zc_ck hn (by decide), zc_cl (show nb < 2 ^ 31 by omega), e0 _ 5 _ _ (by decide), e0 _ 6 _ _ (by decide), e0 _ 7 _ _ (by decide), hW.1, x9, nI_1, zs_eq]
    have z00 : zx_su (zx_su (zx_su (zx_su (zx_su τ 5 nb 0) 6 nb 0) 7 nb 0) 0 0 (nI (nb + 1))) 0 11 0 0 0 = nI (nb + 1) := by rw [zs_ne (Or.inr (by decide)), zs_eq]
    rw [z00]
    have fT : ∀ c i, (c ≠ 5 ∧ c ≠ 6 ∧ c ≠ 7) ∨ i ≠ nb → (c ≠ 0 ∨ (i ≠ 0 ∧ i ≠ 11)) → zx_su (zx_su (zx_su (zx_su (zx_su τ 5 nb 0) 6 nb 0) 7 nb 0) 0 0 (nI (nb + 1))) 0 11 0 c i = τ c i := fun c i h1 h2 => by
      rw [zs_ne (by omega), zs_ne (by omega), zs_ne (by omega), zs_ne (by omega), zs_ne (by omega)]
    have fX : ∀ c i, (c ≠ 0 ∨ i ≠ 9) → (c ≠ 1 ∨ i ≠ 9) → zx_su (zx_su σ 0 9 1) 1 9 (nI (nb + 1)) c i = σ c i := fun c i h1 h2 => by rw [zs_ne h2, zs_ne h1]
    have n0 := hX.2.1 nb (Nat.le_refl _)
    have t5 : zx_su (zx_su (zx_su (zx_su (zx_su τ 5 nb 0) 6 nb 0) 7 nb 0) 0 0 (nI (nb + 1))) 0 11 0 5 nb = 0 := by rw [zs_ne (Or.inl (by decide)), zs_ne (Or.inl (by decide)), zs_ne (Or.inl (by decide)), zs_ne (Or.inl (by decide)), zs_eq]
    have t6 : zx_su (zx_su (zx_su (zx_su (zx_su τ 5 nb 0) 6 nb 0) 7 nb 0) 0 0 (nI (nb + 1))) 0 11 0 6 nb = 0 := by rw [zs_ne (Or.inl (by decide)), zs_ne (Or.inl (by decide)), zs_ne (Or.inl (by decide)), zs_eq]
    have t7 : zx_su (zx_su (zx_su (zx_su (zx_su τ 5 nb 0) 6 nb 0) 7 nb 0) 0 0 (nI (nb + 1))) 0 11 0 7 nb = 0 := by rw [zs_ne (Or.inl (by decide)), zs_ne (Or.inl (by decide)), zs_eq]
    refine ⟨_, _, _, rfl, rfl, ?_⟩
    generalize hτ' : zx_su (zx_su (zx_su (zx_su (zx_su τ 5 nb 0) 6 nb 0) 7 nb 0) 0 0 (nI (nb + 1))) 0 11 0 = τ' at *
    refine zI_new (nb := nb + 1) (sz := sz) ?_ ?_ ?_ ?_ ?_ ?_ ?_
    · refine ⟨z00, by omega, fun b hb => ?_, fun b hb => ?_, fun b k hb hk => ?_, ?_⟩
      · by_cases e : b = nb
        · subst e; rw [t5, n0]; exact ⟨nI_0.symm, by omega⟩
        · rw [fT 5 b (Or.inr e) (Or.inl (by decide))]; exact hW.2.2.1 b (by omega)
      · by_cases e : b = nb
        · subst e; left; exact ⟨t6, 0, by decide, by rw [t7]; exact nI_0.symm⟩
        · rw [fT 6 b (Or.inr e) (Or.inl (by decide)), fT 7 b (Or.inr e) (Or.inl (by decide)), fT 8 b (Or.inr e) (Or.inl (by decide)), fT 9 b (Or.inr e) (Or.inl (by decide))]; exact hW.2.2.2.1 b (by omega)
      · by_cases e : b = nb
        · subst e; rw [n0] at hk; omega
        · rw [fT 1 _ (Or.inl (by decide)) (Or.inl (by decide)), fT 2 _ (Or.inl (by decide)) (Or.inl (by decide)), fT 3 _ (Or.inl (by decide)) (Or.inl (by decide)), fT 4 _ (Or.inl (by decide)) (Or.inl (by decide))]; exact hW.2.2.2.2.1 b k (by omega) hk
      · rw [zt_step, n0]; exact hW.2.2.2.2.2
    · refine ⟨⟨zs_eq _ _ _ _, fun b hb => ?_, fun b h1 h2 => ?_⟩, fun b hb => hX.2.1 b (by omega), fun b hb => by rw [fX 2 b (Or.inl (by decide)) (Or.inl (by decide))]; exact hX.2.2.1 b hb, fun b k hb hk => ?_⟩
      · rw [fX 7 b (Or.inl (by decide)) (Or.inl (by decide)), fX 8 b (Or.inl (by decide)) (Or.inl (by decide)), fX 9 b (Or.inl (by decide)) (Or.inl (by decide)), fX 10 b (Or.inl (by decide)) (Or.inl (by decide))]
        by_cases e : b = nb
        · subst e
          have := hX.1.2.2 b (Nat.le_refl _) (by omega)
          rw [t6, t7]
          exact ⟨this.1, fun _ => this.2, fun z => absurd z (by decide), fun z => absurd z (by decide)⟩
        · rw [fT 6 b (Or.inr e) (Or.inl (by decide)), fT 7 b (Or.inr e) (Or.inl (by decide)), fT 8 b (Or.inr e) (Or.inl (by decide)), fT 9 b (Or.inr e) (Or.inl (by decide))]; exact hX.1.2.1 b (by omega)
      · rw [fX 7 b (Or.inl (by decide)) (Or.inl (by decide)), fX 8 b (Or.inl (by decide)) (Or.inl (by decide))]; exact hX.1.2.2 b (by omega) h2
      · by_cases e : b = nb
        · subst e; rw [n0] at hk; omega
        · rw [fX 3 _ (Or.inl (by decide)) (Or.inl (by decide)), fX 4 _ (Or.inl (by decide)) (Or.inl (by decide)), fX 5 _ (Or.inl (by decide)) (Or.inl (by decide)), fX 6 _ (Or.inl (by decide)) (Or.inl (by decide)), fT 1 _ (Or.inl (by decide)) (Or.inl (by decide)), fT 2 _ (Or.inl (by decide)) (Or.inl (by decide)), fT 3 _ (Or.inl (by decide)) (Or.inl (by decide)), fT 4 _ (Or.inl (by decide)) (Or.inl (by decide))]; exact hX.2.2.2 b k (by omega) hk
    · rw [← hτ', zs_eq]
    · rw [zs_ne (Or.inl (by decide)), zs_eq]
    · rw [fX 23 0 (Or.inl (by decide)) (Or.inl (by decide))]; exact h23
    · rw [fT 0 1 (Or.inl (by decide)) (Or.inr (by decide)), zt_step, n0]; exact h1
    · exact hR.keep' (fun c i hc => fX c i (by omega) (by omega)) (fun c i hc => fT c i (Or.inl (by omega)) (by omega))
theorem zX_fill_1_eq (s : zx_S) : ∃ s', ((∀ b, b < 17 → s' 2 b = 0) ∧ ∀ c i, c ≠ 2 → s' c i = s c i) ∧ zX_Arrays_fill 0 s = some s' := by
  unfold zX_Arrays_fill
  have := zf_for (L := fun n i u => zX_Arrays_fill_L5 0 17 (fun s3 => some s3) n i u) (k := fun s3 => some s3) 17 (fun i u => (∀ b, b < i → u 2 b = 0) ∧ ∀ c i, c ≠ 2 → u c i = s c i) (fun n u _ => by
    show zX_Arrays_fill_L5 0 17 (fun s3 => some s3) (n + 1) (nI 17) u = some u
    rw [zX_Arrays_fill_L5, if_pos (by decide)]) (fun n i u hi q => by
    show ∃ a', _ ∧ zX_Arrays_fill_L5 0 17 (fun s3 => some s3) (n + 1) (nI i) u = zX_Arrays_fill_L5 0 17 (fun s3 => some s3) n (nI (i + 1)) a'
    rw [zX_Arrays_fill_L5, if_neg (by rw [show (17 : Int32) = nI 17 by decide, nI_leI (by omega) (by omega)]; omega), zc_ck hi (by decide), zc_cl (by omega), zc_ls, zc_lt, nI_1]
    refine ⟨_, ⟨fun b hb => ?_, fun c j hc => by rw [zs_ne (Or.inl hc)]; exact q.2 c j hc⟩, rfl⟩
    by_cases e : b = i
    · rw [e, zs_eq]
    · rw [zs_ne (Or.inr e)]; exact q.1 b (by omega)) (i := 0) (n := 10000) (Nat.zero_le _) (a := s) ⟨fun b hb => by omega, fun _ _ _ => rfl⟩ (by decide)
  rw [nI_0] at this
  exact this
theorem zX_fill_2_eq (s : zx_S) : ∃ s', ((∀ b, b < 16 → s' 7 b = 0) ∧ ∀ c i, c ≠ 7 → s' c i = s c i) ∧ zX_Arrays_fill_2 0 s = some s' := by
  unfold zX_Arrays_fill_2
  have := zf_for (L := fun n i u => zX_Arrays_fill_2_L5 0 16 (fun s3 => some s3) n i u) (k := fun s3 => some s3) 16 (fun i u => (∀ b, b < i → u 7 b = 0) ∧ ∀ c i, c ≠ 7 → u c i = s c i) (fun n u _ => by
    show zX_Arrays_fill_2_L5 0 16 (fun s3 => some s3) (n + 1) (nI 16) u = some u
    rw [zX_Arrays_fill_2_L5, if_pos (by decide)]) (fun n i u hi q => by
    show ∃ a', _ ∧ zX_Arrays_fill_2_L5 0 16 (fun s3 => some s3) (n + 1) (nI i) u = zX_Arrays_fill_2_L5 0 16 (fun s3 => some s3) n (nI (i + 1)) a'
    rw [zX_Arrays_fill_2_L5, if_neg (by rw [show (16 : Int32) = nI 16 by decide, nI_leI (by omega) (by omega)]; omega), zc_ck hi (by decide), zc_cl (by omega), zc_ls, zc_lt, nI_1]
    refine ⟨_, ⟨fun b hb => ?_, fun c j hc => by rw [zs_ne (Or.inl hc)]; exact q.2 c j hc⟩, rfl⟩
    by_cases e : b = i
    · rw [e, zs_eq]
    · rw [zs_ne (Or.inr e)]; exact q.1 b (by omega)) (i := 0) (n := 10000) (Nat.zero_le _) (a := s) ⟨fun b hb => by omega, fun _ _ _ => rfl⟩ (by decide)
  rw [nI_0] at this
  exact this
theorem zX_fill_3_eq (s : zx_S) : ∃ s', ((∀ b, b < 16 → s' 8 b = 0) ∧ ∀ c i, c ≠ 8 → s' c i = s c i) ∧ zX_Arrays_fill_3 0 s = some s' := by
  unfold zX_Arrays_fill_3
  have := zf_for (L := fun n i u => zX_Arrays_fill_3_L5 0 16 (fun s3 => some s3) n i u) (k := fun s3 => some s3) 16 (fun i u => (∀ b, b < i → u 8 b = 0) ∧ ∀ c i, c ≠ 8 → u c i = s c i) (fun n u _ => by
    show zX_Arrays_fill_3_L5 0 16 (fun s3 => some s3) (n + 1) (nI 16) u = some u
    rw [zX_Arrays_fill_3_L5, if_pos (by decide)]) (fun n i u hi q => by
    show ∃ a', _ ∧ zX_Arrays_fill_3_L5 0 16 (fun s3 => some s3) (n + 1) (nI i) u = zX_Arrays_fill_3_L5 0 16 (fun s3 => some s3) n (nI (i + 1)) a'
    rw [zX_Arrays_fill_3_L5, if_neg (by rw [show (16 : Int32) = nI 16 by decide, nI_leI (by omega) (by omega)]; omega), zc_ck hi (by decide), zc_cl (by omega), zc_ls, zc_lt, nI_1]
    refine ⟨_, ⟨fun b hb => ?_, fun c j hc => by rw [zs_ne (Or.inl hc)]; exact q.2 c j hc⟩, rfl⟩
    by_cases e : b = i
    · rw [e, zs_eq]
    · rw [zs_ne (Or.inr e)]; exact q.1 b (by omega)) (i := 0) (n := 10000) (Nat.zero_le _) (a := s) ⟨fun b hb => by omega, fun _ _ _ => rfl⟩ (by decide)
  rw [nI_0] at this
  exact this
theorem zt_zero (n : Nat) : zt (fun _ => 0) n = 0 := by
  induction n with
  | zero => rfl
  | succ n ih => rw [zt_step, ih]
theorem zI_clear : zp_S3 zI := by
  rintro σ τ h
  obtain ⟨nb, sz, hW, hX, h23, h1, hR⟩ := zI_own h
  unfold zX_ValueBench_clear zM_ValueBenchModel_clear zX_Program_forget
  rw [hX.1.1, hW.1, zc_lt, zc_lt, zc_ls, zc_ls, zc_ls, zc_ls, zc_ls]
  obtain ⟨s1, ⟨a1, a2⟩, a3⟩ := zX_fill_1_eq (zx_su (zx_su σ 0 9 1) 1 9 0)
  rw [a3, zc_b1]
  obtain ⟨s2, ⟨b1, b2⟩, b3⟩ := zX_fill_2_eq s1
  rw [b3, zc_b1]
  obtain ⟨s3, ⟨c1, c2⟩, c3⟩ := zX_fill_3_eq s2
  rw [c3, zc_b1, zc_b1]
  refine ⟨_, _, _, rfl, rfl, ?_⟩
  have fX : ∀ c i, c ≠ 2 → c ≠ 7 → c ≠ 8 → s3 c i = zx_su (zx_su σ 0 9 1) 1 9 0 c i := fun c i h1 h2 h3 => by rw [c2 c i h3, b2 c i h2, a2 c i h1]
  refine zI_new (nb := 0) (sz := fun _ => 0) ?_ ?_ ?_ ?_ ?_ ?_ ?_
  · refine ⟨?_, by decide, fun b hb => absurd hb (Nat.not_lt_zero _), fun b hb => absurd hb (Nat.not_lt_zero _), fun b k hb => absurd hb (Nat.not_lt_zero _), Nat.zero_le _⟩
    rw [zs_ne (Or.inr (by decide)), zs_ne (Or.inr (by decide)), zs_eq]; exact nI_0.symm
  · refine ⟨⟨?_, fun b hb => absurd hb (Nat.not_lt_zero _), fun b _ hb => ⟨by rw [c2 7 b (by decide)]; exact b1 b hb, c1 b hb⟩⟩, fun _ _ => rfl, fun b hb => ?_, fun b k hb => absurd hb (Nat.not_lt_zero _)⟩
    · rw [fX 1 9 (by decide) (by decide) (by decide), zs_eq]; exact nI_0.symm
    · rw [c2 2 b (by decide), b2 2 b (by decide), a1 b (by omega), zt_zero]; exact nI_0.symm
  · rw [zs_eq]
  · rw [fX 0 9 (by decide) (by decide) (by decide), zs_ne (Or.inl (by decide)), zs_eq]
  · rw [fX 23 0 (by decide) (by decide) (by decide), zs_ne (Or.inl (by decide)), zs_ne (Or.inl (by decide))]; exact h23
  · rw [zs_ne (Or.inr (by decide)), zs_eq]; exact nI_0.symm
  · exact hR.keep' (fun c i hc => by rw [fX c i (by omega) (by omega) (by omega), zs_ne (by omega), zs_ne (by omega)]) (fun c i hc => by rw [zs_ne (by omega), zs_ne (by omega), zs_ne (by omega)])
