/-! PURE: put -/
theorem zc_cps {α : Type} {s : zx_S} {c0 a m : Nat} (h : a + 1 + m ≤ 100) (f : zx_S → Option α) : zx_cp s c0 (nI a) 100 c0 (nI (a + 1)) 100 (nI m) f = f (zx_uc s c0 (fun i => if a + 1 ≤ i ∧ i < a + 1 + m then s c0 (i - 1) else s c0 i)) := by
  unfold zx_cp
  rw [zc_cl (show a < 2 ^ 31 by omega), zc_cl (show a + 1 < 2 ^ 31 by omega), zc_cl (show m < 2 ^ 31 by omega), if_neg (by
    rintro (q | q | q | q | q)
    · exact nI_pos (by omega) q
    · exact nI_pos (by omega) q
    · exact nI_pos (by omega) q
    · omega
    · omega)]
  congr 2
  funext i
  unfold va_cpy
  by_cases c : a + 1 ≤ i ∧ i < a + 1 + m
  · rw [if_pos c, if_pos c]; congr 1; omega
  · rw [if_neg c, if_neg c]
/-- a row with one put in at a -/
def zX_in (r : Nat → Int32) (a m : Nat) (x : Int32) (i : Nat) : Int32 := if i = a then x else if a + 1 ≤ i ∧ i < a + 1 + m then r (i - 1) else r i
theorem zX_in_eq {s : zx_S} {c0 a m : Nat} (h : a + 1 + m ≤ 100) (x : Int32) : ∃ s', (zx_cp s c0 (nI a) 100 c0 (nI a + (1 : Int32)) 100 (nI m) fun s1 => zx_ck (nI a) 100 <| zx_ls (zx_su s1 c0 (nI a).toNatClampNeg x) fun s2 => some s2) = some s' ∧ (∀ i, s' c0 i = zX_in (s c0) a m x i) ∧ ∀ c i, c ≠ c0 → s' c i = s c i := by
  rw [nI_1, zc_cps h, zc_ck (show a < 100 by omega) (by decide), zc_cl (by omega), zc_ls]
  refine ⟨_, rfl, fun i => ?_, fun c i hc => ?_⟩
  · unfold zX_in
    by_cases e : i = a
    · rw [e, zs_eq, if_pos rfl]
    · rw [zs_ne (Or.inr e), if_neg e]
      unfold zx_uc
      rw [if_pos rfl]
  · rw [zs_ne (Or.inl hc)]
    unfold zx_uc
    rw [if_neg hc]
theorem zX_insert_spec {s : zx_S} {b a m : Nat} (hb : b < 16) (h2 : s 2 (b + 1) = nI a) (h16 : s 2 16 = nI (a + m)) (h : a + 1 + m ≤ 100) (k x y z : Int32) : ∃ s', zX_Program_insert (nI b) k x y z s = some s' ∧ (∀ i, s' 3 i = zX_in (s 3) a m k i) ∧ (∀ i, s' 4 i = zX_in (s 4) a m x i) ∧ (∀ i, s' 5 i = zX_in (s 5) a m y i) ∧ (∀ i, s' 6 i = zX_in (s 6) a m z i) ∧ (∀ c, c ≤ b → s' 2 c = s 2 c) ∧ (∀ c, b < c → c ≤ 16 → s' 2 c = s 2 c + 1) ∧ ∀ c i, (c < 2 ∨ 6 < c) → s' c i = s c i := by
  unfold zX_Program_insert zX_Program_instructions
  rw [nI_1, zc_ck (show b + 1 < 17 by omega) (by decide), zc_cl (show b + 1 < 2 ^ 31 by omega), zc_lt, h2, show (16 : Int32) = nI 16 by decide, zc_ck (show 16 < 17 by decide) (by decide), zc_cl (show 16 < 2 ^ 31 by decide), h16, zc_b1, zc_lt, show nI (a + m) - nI a = nI m by rw [← nI_add, Int32.add_comm, Int32.add_sub_cancel]]
  obtain ⟨s1, a1, a2, a3⟩ := zX_in_eq (s := s) (c0 := 3) h k
  have a1' : zX_Program_insertAt (nI a) (nI m) k s = some s1 := a1
  rw [a1', zc_b1]
  obtain ⟨s2, b1, b2, b3⟩ := zX_in_eq (s := s1) (c0 := 4) h x
  have b1' : zX_Program_insertAt_2 (nI a) (nI m) x s1 = some s2 := b1
  rw [b1', zc_b1]
  obtain ⟨s3, c1, c2, c3⟩ := zX_in_eq (s := s2) (c0 := 5) h y
  have c1' : zX_Program_insertAt_3 (nI a) (nI m) y s2 = some s3 := c1
  rw [c1', zc_b1]
  obtain ⟨s4, d1, d2, d3⟩ := zX_in_eq (s := s3) (c0 := 6) h z
  have d1' : zX_Program_insertAt_4 (nI a) (nI m) z s3 = some s4 := d1
  rw [d1', zc_b1, zc_lt]
  have := zf_off (L := fun n i u => zX_Program_insert_L74 (fun s12 => some s12) n i u) (k := fun s12 => some s12) (b + 1) (16 - b) (fun j u => (∀ c, c ≤ b ∨ b + 1 + j ≤ c → u 2 c = s4 2 c) ∧ (∀ c, b < c → c < b + 1 + j → u 2 c = s4 2 c + 1) ∧ ∀ c i, c ≠ 2 → u c i = s4 c i) (fun n u _ => by
    show zX_Program_insert_L74 (fun s12 => some s12) (n + 1) (nI (b + 1 + (16 - b))) u = some u
    rw [zX_Program_insert_L74, if_pos (by rw [show (16 : Int32) = nI 16 by decide, nI_ltI (by omega) (by omega)]; omega)]) (fun n j u hj q => by
    obtain ⟨g1, g2, g3⟩ := q
    show ∃ a', _ ∧ zX_Program_insert_L74 (fun s12 => some s12) (n + 1) (nI (b + 1 + j)) u = zX_Program_insert_L74 (fun s12 => some s12) n (nI (b + 1 + j + 1)) a'
    rw [zX_Program_insert_L74, if_neg (by rw [show (16 : Int32) = nI 16 by decide, nI_ltI (by omega) (by omega)]; omega), zc_ck (show b + 1 + j < 17 by omega) (by decide), zc_cl (show b + 1 + j < 2 ^ 31 by omega), zc_lt, zc_ck (show b + 1 + j < 17 by omega) (by decide), zc_ls, zc_lt, nI_1, g1 (b + 1 + j) (Or.inr (Nat.le_refl _))]
    refine ⟨_, ⟨fun c hc => ?_, fun c h1 h2 => ?_, fun c i hc => by rw [zs_ne (Or.inl hc)]; exact g3 c i hc⟩, rfl⟩
    · rw [zs_ne (Or.inr (by omega))]; exact g1 c (by omega)
    · by_cases e : c = b + 1 + j
      · rw [e, zs_eq]
      · rw [zs_ne (Or.inr e)]; exact g2 c h1 (by omega)) (n := 10000) (a := s4) ⟨fun c _ => rfl, fun c h1 h2 => by omega, fun _ _ _ => rfl⟩ (by omega)
  obtain ⟨s5, ⟨e1, e2, e3⟩, e4⟩ := this
  have f2 : ∀ c, s4 2 c = s 2 c := fun c => by rw [d3 2 c (by decide), c3 2 c (by decide), b3 2 c (by decide), a3 2 c (by decide)]
  refine ⟨s5, e4, fun i => ?_, fun i => ?_, fun i => ?_, fun i => ?_, fun c hc => by rw [e1 c (Or.inl hc), f2], fun c h1 h2 => by rw [e2 c h1 (by omega), f2], fun c i hc => ?_⟩
  · rw [e3 3 i (by decide), d3 3 i (by decide), c3 3 i (by decide), b3 3 i (by decide), a2 i]
  · rw [e3 4 i (by decide), d3 4 i (by decide), c3 4 i (by decide), b2 i]
    have : s1 4 = s 4 := by funext i; exact a3 4 i (by decide)
    rw [this]
  · rw [e3 5 i (by decide), d3 5 i (by decide), c2 i]
    have : s2 5 = s 5 := by funext i; rw [b3 5 i (by decide), a3 5 i (by decide)]
    rw [this]
  · rw [e3 6 i (by decide), d2 i]
    have : s3 6 = s 6 := by funext i; rw [c3 6 i (by decide), b3 6 i (by decide), a3 6 i (by decide)]
    rw [this]
  · rw [e3 c i (by omega), d3 c i (by omega), c3 c i (by omega), b3 c i (by omega), a3 c i (by omega)]
theorem zt_ge {sz : Nat → Nat} {b n : Nat} (h : b < n) : sz b ≤ zt sz n := by
  have := zt_up (f := sz) (show b + 1 ≤ n from h)
  rw [zt_step] at this; omega
theorem zt_upd {sz : Nat → Nat} (b : Nat) : ∀ n, zt (fun c => if c = b then sz b + 1 else sz c) n = if n ≤ b then zt sz n else zt sz n + 1 := by
  intro n
  induction n with
  | zero => rw [if_pos (Nat.zero_le _)]; rfl
  | succ n ih =>
    rw [zt_step, ih, zt_step]
    by_cases e : n = b
    · subst e; rw [if_pos (Nat.le_refl _), if_pos rfl, if_neg (by omega)]; omega
    · rw [if_neg e]
      by_cases c : n ≤ b
      · rw [if_pos c, if_pos (by omega)]
      · rw [if_neg c, if_neg (by omega)]; omega
theorem zI_put_ok {σ τ : zx_S} {nb : Nat} {sz : Nat → Nat} (hW : zq_WF τ nb sz) (hX : zX_Pr τ nb sz σ) (h23 : σ 23 0 = 0) (h1 : τ 0 1 = nI (zt sz nb)) (hR : zI_R σ τ) {b : Nat} (hb : b < nb) (htold : zt sz nb < 100) {p2 p3 p4 p5 : Int32} {kd : Nat} (hk1 : kd ≤ 14) (hk2 : p2 = nI kd) (hV1 : ∃ x, x < 10 ∧ p3 = nI x) (hV2 : kd = 1 → ∃ y, y < 4 ∧ p4 = nI y) (hV3 : 2 ≤ kd → kd < 14 → ∃ y, y < 10 ∧ p4 = nI y) (hV4 : 3 ≤ kd → kd < 14 → ∃ z, z < 10 ∧ p5 = nI z) : ∃ σ', zX_Program_insert (nI b) p2 (if p2 = 14 then -1 else p3) (if p2 = 14 then p3 else p4) (if p2 = 14 then -1 else p5) (zx_su σ 0 9 1) = some σ' ∧ zX_Program_instructions σ' = some (nI (zt sz nb + 1)) ∧ zI σ' (zx_su (zx_su (zx_su (zx_su (zx_su (zx_su (zx_su τ 1 (100 * b + sz b) p2) 2 (100 * b + sz b) p3) 3 (100 * b + sz b) p4) 4 (100 * b + sz b) p5) 5 b (nI (sz b + 1))) 0 1 (nI (zt sz nb + 1))) 0 11 0) := by
  have hnb := hW.2.1
  have hb16 : b < 16 := by omega
  have t16 := zt_16 hnb hX.2.1
  have up16 := zt_up (f := sz) (show b + 1 ≤ 16 by omega)
  have f0 : ∀ c i, 1 ≤ c → zx_su σ 0 9 1 c i = σ c i := fun c i hc => zs_ne (Or.inl (by omega))
  obtain ⟨σ', i1, i2, i3, i4, i5, i6, i7, i8⟩ := zX_insert_spec (s := zx_su σ 0 9 1) (b := b) (a := zt sz (b + 1)) (m := zt sz 16 - zt sz (b + 1)) hb16 (by rw [f0 2 _ (by decide)]; exact hX.2.2.1 (b + 1) (by omega)) (by rw [f0 2 _ (by decide), hX.2.2.1 16 (Nat.le_refl _)]; congr 1; omega) (by omega) p2 (if p2 = 14 then -1 else p3) (if p2 = 14 then p3 else p4) (if p2 = 14 then -1 else p5)
  have g2 : ∀ c, c ≤ 16 → σ' 2 c = nI (zt (fun c => if c = b then sz b + 1 else sz c) c) := fun c hc => by
    rw [zt_upd]
    by_cases q : c ≤ b
    · rw [i6 c q, f0 2 _ (by decide), hX.2.2.1 c hc, if_pos q]
    · rw [i7 c (by omega) hc, f0 2 _ (by decide), hX.2.2.1 c hc, if_neg q, nI_1]
  refine ⟨σ', i1, ?_, ?_⟩
  · unfold zX_Program_instructions
    rw [show (16 : Int32) = nI 16 by decide, zc_ck (show 16 < 17 by decide) (by decide), zc_cl (show 16 < 2 ^ 31 by decide), g2 16 (Nat.le_refl _), zt_upd, if_neg (by omega), t16]
  · have hsb : sz b ≤ 99 := by have := zt_ge (sz := sz) hb; omega
    have fT : ∀ c i, ((c ≠ 1 ∧ c ≠ 2 ∧ c ≠ 3 ∧ c ≠ 4) ∨ i ≠ 100 * b + sz b) → (c ≠ 5 ∨ i ≠ b) → (c ≠ 0 ∨ (i ≠ 1 ∧ i ≠ 11)) → zx_su (zx_su (zx_su (zx_su (zx_su (zx_su (zx_su τ 1 (100 * b + sz b) p2) 2 (100 * b + sz b) p3) 3 (100 * b + sz b) p4) 4 (100 * b + sz b) p5) 5 b (nI (sz b + 1))) 0 1 (nI (zt sz nb + 1))) 0 11 0 c i = τ c i := fun c i h1 h2 h3 => by
      rw [zs_ne (by omega), zs_ne (by omega), zs_ne (by omega), zs_ne (by omega), zs_ne (by omega), zs_ne (by omega), zs_ne (by omega)]
    have t1 : zx_su (zx_su (zx_su (zx_su (zx_su (zx_su (zx_su τ 1 (100 * b + sz b) p2) 2 (100 * b + sz b) p3) 3 (100 * b + sz b) p4) 4 (100 * b + sz b) p5) 5 b (nI (sz b + 1))) 0 1 (nI (zt sz nb + 1))) 0 11 0 1 (100 * b + sz b) = p2 := by rw [zs_ne (Or.inl (by decide)), zs_ne (Or.inl (by decide)), zs_ne (Or.inl (by decide)), zs_ne (Or.inl (by decide)), zs_ne (Or.inl (by decide)), zs_ne (Or.inl (by decide)), zs_eq]
    have t2 : zx_su (zx_su (zx_su (zx_su (zx_su (zx_su (zx_su τ 1 (100 * b + sz b) p2) 2 (100 * b + sz b) p3) 3 (100 * b + sz b) p4) 4 (100 * b + sz b) p5) 5 b (nI (sz b + 1))) 0 1 (nI (zt sz nb + 1))) 0 11 0 2 (100 * b + sz b) = p3 := by rw [zs_ne (Or.inl (by decide)), zs_ne (Or.inl (by decide)), zs_ne (Or.inl (by decide)), zs_ne (Or.inl (by decide)), zs_ne (Or.inl (by decide)), zs_eq]
    have t3 : zx_su (zx_su (zx_su (zx_su (zx_su (zx_su (zx_su τ 1 (100 * b + sz b) p2) 2 (100 * b + sz b) p3) 3 (100 * b + sz b) p4) 4 (100 * b + sz b) p5) 5 b (nI (sz b + 1))) 0 1 (nI (zt sz nb + 1))) 0 11 0 3 (100 * b + sz b) = p4 := by rw [zs_ne (Or.inl (by decide)), zs_ne (Or.inl (by decide)), zs_ne (Or.inl (by decide)), zs_ne (Or.inl (by decide)), zs_eq]
    have t4 : zx_su (zx_su (zx_su (zx_su (zx_su (zx_su (zx_su τ 1 (100 * b + sz b) p2) 2 (100 * b + sz b) p3) 3 (100 * b + sz b) p4) 4 (100 * b + sz b) p5) 5 b (nI (sz b + 1))) 0 1 (nI (zt sz nb + 1))) 0 11 0 4 (100 * b + sz b) = p5 := by rw [zs_ne (Or.inl (by decide)), zs_ne (Or.inl (by decide)), zs_ne (Or.inl (by decide)), zs_eq]
    have t5 : zx_su (zx_su (zx_su (zx_su (zx_su (zx_su (zx_su τ 1 (100 * b + sz b) p2) 2 (100 * b + sz b) p3) 3 (100 * b + sz b) p4) 4 (100 * b + sz b) p5) 5 b (nI (sz b + 1))) 0 1 (nI (zt sz nb + 1))) 0 11 0 5 b = nI (sz b + 1) := by rw [zs_ne (Or.inl (by decide)), zs_ne (Or.inl (by decide)), zs_eq]
    have t01 : zx_su (zx_su (zx_su (zx_su (zx_su (zx_su (zx_su τ 1 (100 * b + sz b) p2) 2 (100 * b + sz b) p3) 3 (100 * b + sz b) p4) 4 (100 * b + sz b) p5) 5 b (nI (sz b + 1))) 0 1 (nI (zt sz nb + 1))) 0 11 0 0 1 = nI (zt sz nb + 1) := by rw [zs_ne (Or.inr (by decide)), zs_eq]
    have t11 : zx_su (zx_su (zx_su (zx_su (zx_su (zx_su (zx_su τ 1 (100 * b + sz b) p2) 2 (100 * b + sz b) p3) 3 (100 * b + sz b) p4) 4 (100 * b + sz b) p5) 5 b (nI (sz b + 1))) 0 1 (nI (zt sz nb + 1))) 0 11 0 0 11 = 0 := zs_eq _ _ _ _
    generalize zx_su (zx_su (zx_su (zx_su (zx_su (zx_su (zx_su τ 1 (100 * b + sz b) p2) 2 (100 * b + sz b) p3) 3 (100 * b + sz b) p4) 4 (100 * b + sz b) p5) 5 b (nI (sz b + 1))) 0 1 (nI (zt sz nb + 1))) 0 11 0 = τ' at *
    -- where an old INSTRUCTION stands
    have nw : ∀ c k, c < nb → k < (if c = b then sz b + 1 else sz c) → (c = b ∧ k = sz b) ∨ (k < sz c ∧ 100 * c + k ≠ 100 * b + sz b) := fun c k hc hk => by
      by_cases e : c = b
      · subst e
        rw [if_pos rfl] at hk
        by_cases e2 : k = sz c
        · exact Or.inl ⟨rfl, e2⟩
        · exact Or.inr ⟨by omega, by omega⟩
      · rw [if_neg e] at hk
        have := (hW.2.2.1 c hc).2
        exact Or.inr ⟨hk, by omega⟩
    refine zI_new (nb := nb) (sz := fun c => if c = b then sz b + 1 else sz c) ?_ ?_ t11 ?_ ?_ ?_ ?_
    · refine ⟨by rw [fT 0 0 (Or.inl (by decide)) (Or.inl (by decide)) (Or.inr (by decide))]; exact hW.1, hnb, fun c hc => ?_, fun c hc => ?_, fun c k hc hk => ?_, ?_⟩
      · by_cases e : c = b
        · subst e; rw [t5]; dsimp only; rw [if_pos rfl]; exact ⟨rfl, by omega⟩
        · rw [fT 5 c (Or.inl (by decide)) (Or.inr e) (Or.inl (by decide))]
          show _ = nI (if c = b then _ else _) ∧ (if c = b then _ else _) ≤ 100
          rw [if_neg e]; exact hW.2.2.1 c hc
      · rw [fT 6 c (Or.inl (by decide)) (Or.inl (by decide)) (Or.inl (by decide)), fT 7 c (Or.inl (by decide)) (Or.inl (by decide)) (Or.inl (by decide)), fT 8 c (Or.inl (by decide)) (Or.inl (by decide)) (Or.inl (by decide)), fT 9 c (Or.inl (by decide)) (Or.inl (by decide)) (Or.inl (by decide))]; exact hW.2.2.2.1 c hc
      · rcases nw c k hc hk with ⟨e1, e2⟩ | ⟨e1, e2⟩
        · subst e1 e2; rw [t1, t2, t3, t4]; exact ⟨kd, hk1, hk2, hV1, hV2, hV3, hV4⟩
        · rw [fT 1 _ (Or.inr e2) (Or.inl (by decide)) (Or.inl (by decide)), fT 2 _ (Or.inr e2) (Or.inl (by decide)) (Or.inl (by decide)), fT 3 _ (Or.inr e2) (Or.inl (by decide)) (Or.inl (by decide)), fT 4 _ (Or.inr e2) (Or.inl (by decide)) (Or.inl (by decide))]; exact hW.2.2.2.2.1 c k hc e1
      · rw [zt_upd, if_neg (by omega)]; omega
    · refine ⟨⟨by rw [i8 1 9 (Or.inl (by decide)), f0 1 9 (by decide)]; exact hX.1.1, fun c hc => ?_, fun c h2 h3 => ?_⟩, fun c hc => ?_, g2, fun c k hc hk => ?_⟩
      · rw [i8 7 c (Or.inr (by decide)), i8 8 c (Or.inr (by decide)), i8 9 c (Or.inr (by decide)), i8 10 c (Or.inr (by decide)), f0 7 c (by decide), f0 8 c (by decide), f0 9 c (by decide), f0 10 c (by decide), fT 6 c (Or.inl (by decide)) (Or.inl (by decide)) (Or.inl (by decide)), fT 7 c (Or.inl (by decide)) (Or.inl (by decide)) (Or.inl (by decide)), fT 8 c (Or.inl (by decide)) (Or.inl (by decide)) (Or.inl (by decide)), fT 9 c (Or.inl (by decide)) (Or.inl (by decide)) (Or.inl (by decide))]; exact hX.1.2.1 c hc
      · rw [i8 7 c (Or.inr (by decide)), i8 8 c (Or.inr (by decide)), f0 7 c (by decide), f0 8 c (by decide)]; exact hX.1.2.2 c h2 h3
      · show (if c = b then _ else _) = 0
        rw [if_neg (by omega)]; exact hX.2.1 c hc
      · rw [i2, i3, i4, i5, zt_upd]
        rcases nw c k hc hk with ⟨e1, e2⟩ | ⟨e1, e2⟩
        · subst e1 e2
          have ea : zt sz c + sz c = zt sz (c + 1) := rfl
          rw [if_pos (Nat.le_refl _), ea, t1, t2, t3, t4]
          unfold zX_in
          rw [if_pos rfl, if_pos rfl, if_pos rfl, if_pos rfl]
          exact ⟨rfl, rfl, rfl, rfl⟩
        · rw [fT 1 _ (Or.inr e2) (Or.inl (by decide)) (Or.inl (by decide)), fT 2 _ (Or.inr e2) (Or.inl (by decide)) (Or.inl (by decide)), fT 3 _ (Or.inr e2) (Or.inl (by decide)) (Or.inl (by decide)), fT 4 _ (Or.inr e2) (Or.inl (by decide)) (Or.inl (by decide))]
          have old := hX.2.2.2 c k hc e1
          have uc := zt_up (f := sz) (show c + 1 ≤ 16 by omega)
          rw [zt_step] at uc
          have at_ : ∀ (r : Nat → Int32) (x : Int32), zX_in r (zt sz (b + 1)) (zt sz 16 - zt sz (b + 1)) x ((if c ≤ b then zt sz c else zt sz c + 1) + k) = r (zt sz c + k) := fun r x => by
            unfold zX_in
            by_cases q : c ≤ b
            · have := zt_up (f := sz) (show c + 1 ≤ b + 1 by omega)
              rw [zt_step] at this
              rw [if_pos q, if_neg (by omega), if_neg (by omega)]
            · have := zt_up (f := sz) (show b + 1 ≤ c by omega)
              rw [if_neg q, if_neg (by omega), if_pos (by omega)]
              congr 1
              omega
          rw [at_, at_, at_, at_, f0 3 _ (by decide), f0 4 _ (by decide), f0 5 _ (by decide), f0 6 _ (by decide)]
          exact old
    · rw [i8 0 9 (Or.inl (by decide)), zs_eq]
    · rw [i8 23 0 (Or.inr (by decide)), f0 23 0 (by decide)]; exact h23
    · rw [t01, zt_upd, if_neg (by omega)]
    · exact hR.keep' (fun c i hc => by rw [i8 c i (Or.inr (by omega)), f0 c i (by omega)]) (fun c i hc => fT c i (by omega) (by omega) (by omega))
theorem zI_kd {kd j : Nat} (h : kd ≤ 14) (hj : j ≤ 15) : (nI kd = nI j ↔ kd = j) ∧ (nI kd < nI j ↔ kd < j) ∧ (nI j ≤ nI kd ↔ j ≤ kd) := ⟨⟨fun z => nI_inj (by omega) (by omega) z, fun z => by rw [z]⟩, nI_ltI (by omega) (by omega), nI_leI (by omega) (by omega)⟩
theorem zI_put : zp_S1 zI := by
  rintro σ τ p1 p2 p3 p4 p5 h
  obtain ⟨nb, sz, hW, hX, h23, h1, hR⟩ := zI_own h
  have hnb := hW.2.1
  have hle := hW.2.2.2.2.2
  unfold zX_ValueBench_put zM_ValueBenchModel_put zX_Program_fits
  rcases zM_block_cases hW (P := τ) ⟨rfl, fun _ _ _ => rfl⟩ p1 with ⟨m1, m2⟩ | ⟨b, rfl, hb, m1⟩
  · have hx : zX_Program_has p1 σ = some 0 := by
      rcases zI_int p1 with q | ⟨n, hn, rfl⟩
      · exact zX_has_neg q σ
      · rw [zX_has_eq hX.1.1 hnb hn, decide_eq_false (fun z => m2 ⟨n, rfl, z⟩)]; rfl
    rw [m1, zc_b1, if_pos rfl, hx, zc_b1, if_pos rfl]
    exact ⟨_, _, _, rfl, rfl, h⟩
  · have hx : zX_Program_has (nI b) σ = some 1 := by
      rw [zX_has_eq hX.1.1 hnb (show b < 2 ^ 31 by omega), decide_eq_true hb]; rfl
    have hin : zX_Program_instructions σ = some (nI (zt sz nb)) := by
      unfold zX_Program_instructions
      rw [show (16 : Int32) = nI 16 by decide, zc_ck (show 16 < 17 by decide) (by decide), zc_cl (show 16 < 2 ^ 31 by decide), hX.2.2.1 16 (Nat.le_refl _), zt_16 hnb hX.2.1]
    rw [m1, zc_b1, if_neg z10, hx, zc_b1, if_neg z10, hin, zc_b1, h1]
    by_cases c100 : zt sz nb = 100
    · rw [if_pos (by rw [c100]; decide)]
      by_cases k1 : p2 < 0
      · rw [if_pos k1]; exact ⟨_, _, _, rfl, rfl, h⟩
      · by_cases k2 : (14 : Int32) < p2
        · rw [if_neg k1, if_pos k2]; exact ⟨_, _, _, rfl, rfl, h⟩
        · rw [if_neg k1, if_neg k2, if_pos (by rw [c100]; decide)]; exact ⟨_, _, _, rfl, rfl, h⟩
    · have ht : zt sz nb < 100 := by omega
      have n100 : ¬ nI (zt sz nb) = (100 : Int32) := fun z => c100 (nI_inj (b := 100) (by omega) (by omega) (z.trans (show (100 : Int32) = nI 100 by decide)))
      rw [if_neg (show ¬ (100 : Int32) ≤ nI (zt sz nb) by rw [show (100 : Int32) = nI 100 by decide, nI_leI (by omega) (by omega)]; omega)]
      by_cases k1 : p2 < 0
      · rw [if_pos k1, if_pos k1, zc_b1, if_pos rfl]; exact ⟨_, _, _, rfl, rfl, h⟩
      by_cases k2 : (14 : Int32) < p2
      · rw [if_neg k1, if_pos k2, if_neg k1, if_pos k2, zc_b1, if_pos rfl]; exact ⟨_, _, _, rfl, rfl, h⟩
      rw [if_neg k1, if_neg k2, if_neg k1, if_neg k2, if_neg n100]
      obtain ⟨kd, hkd, ek⟩ := nI_of k1
      have hk1 : kd ≤ 14 := by rw [ek, show (14 : Int32) = nI 14 by decide, nI_ltI (by omega) hkd] at k2; omega
      have h5 := hW.2.2.1 b hb
      have hsb : sz b ≤ 99 := by have := zt_ge (sz := sz) hb; omega
      -- what the reference writes
      have e5 : ∀ (s : zx_S) (k i : Nat) (x : Int32), k ≠ 5 → zx_su s k i x 5 b = s 5 b := fun s k i x hk => zs_ne (Or.inl (fun z => hk z.symm))
      have e01 : ∀ (s : zx_S) (k i : Nat) (x : Int32), k ≠ 0 → zx_su s k i x 0 1 = s 0 1 := fun s k i x hk => zs_ne (Or.inl (fun z => hk z.symm))
      have e011 : ∀ (s : zx_S) (x : Int32), zx_su s 0 11 x 0 1 = s 0 1 := fun s x => zs_ne (Or.inr (by decide))
      simp only [zc_ls, zc_lt, zc_ck (show b < 16 by omega) (by decide), zc_cl (show b < 2 ^ 31 by omega), h5.1, nI_100, zc_ck (show 100 * b + sz b < 1600 by omega) (by decide), zc_cl (show 100 * b + sz b < 2 ^ 31 by omega), e5 _ 1 _ _ (by decide), e5 _ 2 _ _ (by decide), e5 _ 3 _ _ (by decide), e5 _ 4 _ _ (by decide), e01 _ 1 _ _ (by decide), e01 _ 2 _ _ (by decide), e01 _ 3 _ _ (by decide), e01 _ 4 _ _ (by decide), e01 _ 5 _ _ (by decide), e011, h1, nI_1, zs_eq]
      have ok : (∃ x, x < 10 ∧ p3 = nI x) → (kd = 1 → ∃ y, y < 4 ∧ p4 = nI y) → (2 ≤ kd → kd < 14 → ∃ y, y < 10 ∧ p4 = nI y) → (3 ≤ kd → kd < 14 → ∃ z, z < 10 ∧ p5 = nI z) → ∃ v σ1 τ1, (if p2 = 14 then zx_b1 (zX_Program_insert (nI b) p2 (-1 : Int32) p3 (-1 : Int32) (zx_su σ 0 9 1)) fun s5 => zx_b1 (zX_Program_instructions s5) fun r6 => some (r6, s5) else zx_b1 (zX_Program_insert (nI b) p2 p3 p4 p5 (zx_su σ 0 9 1)) fun s7 => zx_b1 (zX_Program_instructions s7) fun r8 => some (r8, s7)) = some (v, σ1) ∧ some (nI (zt sz nb + 1), zx_su (zx_su (zx_su (zx_su (zx_su (zx_su (zx_su τ 1 (100 * b + sz b) p2) 2 (100 * b + sz b) p3) 3 (100 * b + sz b) p4) 4 (100 * b + sz b) p5) 5 b (nI (sz b + 1))) 0 1 (nI (zt sz nb + 1))) 0 11 0) = some (v, τ1) ∧ zI σ1 τ1 := fun v1 v2 v3 v4 => by
        obtain ⟨σ', w1, w2, w3⟩ := zI_put_ok hW hX h23 h1 hR hb ht hk1 ek v1 v2 v3 v4
        by_cases c : p2 = 14
        · simp only [if_pos c] at w1
          rw [if_pos c, w1, zc_b1, w2, zc_b1]; exact ⟨_, _, _, rfl, rfl, w3⟩
        · simp only [if_neg c] at w1
          rw [if_neg c, w1, zc_b1, w2, zc_b1]; exact ⟨_, _, _, rfl, rfl, w3⟩
      have bad : ∃ v σ1 τ1, some ((-1 : Int32), σ) = some (v, σ1) ∧ some ((-1 : Int32), τ) = some (v, τ1) ∧ zI σ1 τ1 := ⟨_, _, _, rfl, rfl, h⟩
      have q0 : p2 = 0 ↔ kd = 0 := by rw [ek, show (0 : Int32) = nI 0 by decide]; exact (zI_kd hk1 (by decide)).1
      have q1 : p2 = 1 ↔ kd = 1 := by rw [ek, show (1 : Int32) = nI 1 by decide]; exact (zI_kd hk1 (by decide)).1
      have q2 : p2 = 2 ↔ kd = 2 := by rw [ek, show (2 : Int32) = nI 2 by decide]; exact (zI_kd hk1 (by decide)).1
      have q14 : p2 = 14 ↔ kd = 14 := by rw [ek, show (14 : Int32) = nI 14 by decide]; exact (zI_kd hk1 (by decide)).1
      have q3 : p2 < 3 ↔ kd < 3 := by rw [ek, show (3 : Int32) = nI 3 by decide]; exact (zI_kd hk1 (by decide)).2.1
      have q4 : (14 : Int32) ≤ p2 ↔ 14 ≤ kd := by rw [ek, show (14 : Int32) = nI 14 by decide]; exact (zI_kd hk1 (by decide)).2.2
      rcases zI_var p3 σ τ with ⟨v1, v2, v3⟩ | ⟨v1, v2⟩
      · rw [v1, zc_b1, if_neg z10, v2, zc_b1, if_neg z10]
        by_cases c0 : kd = 0
        · rw [if_pos (q0.mpr c0), zc_b1, if_neg z10, if_neg (show ¬ p2 = 1 by rw [q1]; omega), if_neg (show ¬ p2 = 2 by rw [q2]; omega), if_pos (q3.mpr (by omega))]
          exact ok v3 (by omega) (by omega) (by omega)
        rw [if_neg (show ¬ p2 = 0 by rw [q0]; exact c0)]
        by_cases c1 : kd = 1
        · rw [if_pos (q1.mpr c1), if_pos (q1.mpr c1)]
          rcases zI_int p4 with q | ⟨n, hn, rfl⟩
          · rw [if_pos q, zc_b1, if_pos rfl, if_pos q]; exact bad
          · rw [if_neg (nI_pos hn), if_neg (nI_pos hn)]
            by_cases d : n < 4
            · rw [if_neg (show ¬ (4 : Int32) ≤ nI n by rw [show (4 : Int32) = nI 4 by decide, nI_leI (by omega) hn]; omega), zc_b1, if_neg z10, if_neg (show ¬ (3 : Int32) < nI n by rw [show (3 : Int32) = nI 3 by decide, nI_ltI (by omega) hn]; omega), if_neg (show ¬ p2 = 2 by rw [q2]; omega), if_pos (q3.mpr (by omega))]
              exact ok v3 (fun _ => ⟨n, d, rfl⟩) (by omega) (by omega)
            · rw [if_pos (show (4 : Int32) ≤ nI n by rw [show (4 : Int32) = nI 4 by decide, nI_leI (by omega) hn]; omega), zc_b1, if_pos rfl, if_pos (show (3 : Int32) < nI n by rw [show (3 : Int32) = nI 3 by decide, nI_ltI (by omega) hn]; omega)]
              exact bad
        rw [if_neg (show ¬ p2 = 1 by rw [q1]; exact c1), if_neg (show ¬ p2 = 1 by rw [q1]; exact c1)]
        by_cases c2 : kd = 2
        · rw [if_pos (q2.mpr c2), if_pos (q2.mpr c2)]
          rcases zI_var p4 σ τ with ⟨w1, w2, w3⟩ | ⟨w1, w2⟩
          · rw [w1, zc_b1, zc_zr (Or.inr rfl), zc_b1, if_neg z10, w2, zc_b1, if_neg z10, if_pos (q3.mpr (by omega))]
            exact ok v3 (by omega) (fun _ _ => w3) (by omega)
          · rw [w1, zc_b1, zc_zr (Or.inl rfl), zc_b1, if_pos rfl, w2, zc_b1, if_pos rfl]
            exact bad
        rw [if_neg (show ¬ p2 = 2 by rw [q2]; exact c2), if_neg (show ¬ p2 = 2 by rw [q2]; exact c2), if_neg (show ¬ p2 < 3 by rw [q3]; omega)]
        by_cases c14 : kd = 14
        · rw [if_pos (q14.mpr c14), zc_b1, if_neg z10, if_pos (q4.mpr (by omega))]
          exact ok v3 (by omega) (by omega) (by omega)
        rw [if_neg (show ¬ p2 = 14 by rw [q14]; exact c14), if_neg (show ¬ (14 : Int32) ≤ p2 by rw [q4]; omega)]
        rcases zI_var p4 σ τ with ⟨w1, w2, w3⟩ | ⟨w1, w2⟩
        · rw [w1, zc_b1, if_neg z10, w2, zc_b1, if_neg z10]
          rcases zI_var p5 σ τ with ⟨u1, u2, u3⟩ | ⟨u1, u2⟩
          · rw [u1, zc_b1, if_neg z10, zc_b1, if_neg z10, u2, zc_b1, if_neg z10]
            exact ok v3 (by omega) (fun _ _ => w3) (fun _ _ => u3)
          · rw [u1, zc_b1, if_pos rfl, zc_b1, if_pos rfl, u2, zc_b1, if_pos rfl]
            exact bad
        · rw [w1, zc_b1, if_pos rfl, zc_b1, if_pos rfl, w2, zc_b1, if_pos rfl]
          exact bad
      · rw [v1, zc_b1, if_pos rfl, zc_b1, if_pos rfl, v2, zc_b1, if_pos rfl]
        exact bad
