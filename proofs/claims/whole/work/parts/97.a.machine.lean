/-! PURE: RUN: the class's loops once for the three forms; what holds on the way -/
def zG_fb (keeps : Int32 → zx_S → Option Int32) (follow : Int32 → zx_S → Option zx_S) (k46 : zx_S → Option (Int32 × zx_S)) : Nat → Int32 → zx_S → Option (Int32 × zx_S)
  | 0, _, _ => none
  | n + 1, v2, s =>
    zx_ck ((s 50 7) + (1 : Int32)) 17 <|
    if (s 2 (((s 50 7) + (1 : Int32))).toNatClampNeg) ≤ v2 then
      some ((1 : Int32), s)
    else
      zx_b1 (keeps v2 s) fun r2 =>
      if r2 = (0 : Int32) then
        zx_lt (v2 + (1 : Int32)) fun v2_7 =>
        (zG_fb keeps follow k46 n) v2_7 s
      else
        zx_b2 (zX_Machine_pay s) fun r3 s4 =>
        if r3 = (0 : Int32) then
          k46 s4
        else
          zx_b1 (follow v2 s4) fun s5 =>
          zx_lt (v2 + (1 : Int32)) fun v2_6 =>
          (zG_fb keeps follow k46 n) v2_6 s5
def zG_fo (keeps : Int32 → zx_S → Option Int32) (follow : Int32 → zx_S → Option zx_S) (s : zx_S) : Option (Int32 × zx_S) :=
  zx_ck (s 50 7) 17 <|
  zx_lt (s 2 ((s 50 7)).toNatClampNeg) fun v2_1 =>
  zG_fb keeps follow
    (fun s8 =>
      some ((0 : Int32), s8))
    10000 v2_1 s
def zG_pf (bg : Int32 → Int32 → zx_S → Option zx_S) (fo : zx_S → Option (Int32 × zx_S)) (ec : Int32 → zx_S → Option Int32) (N c : Nat) (k101 : Int32 → zx_S → Option (Int32 × zx_S)) : Nat → Int32 → Int32 → zx_S → Option (Int32 × zx_S)
  | 0, _, _, _ => none
  | n + 1, v2, v3, s =>
    if (s 50 3) < v3 then
      some ((1 : Int32), s)
    else
      zx_b1 (bg v2 (s 50 7) s) fun s5 =>
      zx_b2 (fo s5) fun r6 s7 =>
      if r6 = (0 : Int32) then
        some ((1 : Int32), s7)
      else
        zx_b2 (zX_Machine_pay s7) fun r8 s9 =>
        if r8 = (0 : Int32) then
          some ((1 : Int32), s9)
        else
          zx_b1 (zX_Program_howCounts (s9 50 7) s9) fun r10 =>
          if r10 = (1 : Int32) then
            (zX_Machine_perform_J94 (zG_pf bg fo ec N c k101 n) k101) v3 r10 (0 : Int32) s9
          else
            zx_b1 (ec (s9 50 7) s9) fun r18 =>
            zx_ck r18 N <|
            (zX_Machine_perform_J94 (zG_pf bg fo ec N c k101 n) k101) v3 r10 (s9 c (r18).toNatClampNeg) s9
theorem zG_fb1 (k : zx_S → Option (Int32 × zx_S)) : ∀ n, zX_Machine_followBlock_L13 k n = zG_fb zX_ToldForm_keeps zX_Machine_follow k n := by
  intro n
  induction n with
  | zero => funext v s; rfl
  | succ n ih => funext v s; rw [zX_Machine_followBlock_L13, zG_fb, ih]
theorem zG_fb2 (k : zx_S → Option (Int32 × zx_S)) : ∀ n, zX_Machine_followBlock_2_L13 k n = zG_fb zX_ValueForm_keeps zX_Machine_follow_2 k n := by
  intro n
  induction n with
  | zero => funext v s; rfl
  | succ n ih => funext v s; rw [zX_Machine_followBlock_2_L13, zG_fb, ih]
theorem zG_fb3 (k : zx_S → Option (Int32 × zx_S)) : ∀ n, zX_Machine_followBlock_3_L13 k n = zG_fb zX_ValueForm_keeps_2 zX_Machine_follow_3 k n := by
  intro n
  induction n with
  | zero => funext v s; rfl
  | succ n ih => funext v s; rw [zX_Machine_followBlock_3_L13, zG_fb, ih]
theorem zG_fo1 : zX_Machine_followBlock = zG_fo zX_ToldForm_keeps zX_Machine_follow := by
  funext s; unfold zX_Machine_followBlock zG_fo; rw [zG_fb1]
theorem zG_fo2 : zX_Machine_followBlock_2 = zG_fo zX_ValueForm_keeps zX_Machine_follow_2 := by
  funext s; unfold zX_Machine_followBlock_2 zG_fo; rw [zG_fb2]
theorem zG_fo3 : zX_Machine_followBlock_3 = zG_fo zX_ValueForm_keeps_2 zX_Machine_follow_3 := by
  funext s; unfold zX_Machine_followBlock_3 zG_fo; rw [zG_fb3]
theorem zG_j2 : zX_Machine_perform_2_J94 = zX_Machine_perform_J94 := rfl
theorem zG_j3 : zX_Machine_perform_3_J94 = zX_Machine_perform_J94 := rfl
theorem zG_pf1 (k : Int32 → zx_S → Option (Int32 × zx_S)) : ∀ n, zX_Machine_perform_L24 k n = zG_pf zX_ToldForm_begin (zG_fo zX_ToldForm_keeps zX_Machine_follow) zX_ToldForm_endCell 10 43 k n := by
  intro n
  induction n with
  | zero => funext v w s; rfl
  | succ n ih => funext v w s; rw [zX_Machine_perform_L24, zG_pf, ih, zG_fo1]
theorem zG_pf2 (k : Int32 → zx_S → Option (Int32 × zx_S)) : ∀ n, zX_Machine_perform_2_L24 k n = zG_pf zX_ValueForm_begin (zG_fo zX_ValueForm_keeps zX_Machine_follow_2) zX_ValueForm_endCell 261 45 k n := by
  intro n
  induction n with
  | zero => funext v w s; rfl
  | succ n ih => funext v w s; rw [zX_Machine_perform_2_L24, zG_pf, ih, zG_fo2, zG_j2]
theorem zG_pf3 (k : Int32 → zx_S → Option (Int32 × zx_S)) : ∀ n, zX_Machine_perform_3_L24 k n = zG_pf zX_ValueForm_begin_2 (zG_fo zX_ValueForm_keeps_2 zX_Machine_follow_3) zX_ValueForm_endCell_2 261 48 k n := by
  intro n
  induction n with
  | zero => funext v w s; rfl
  | succ n ih => funext v w s; rw [zX_Machine_perform_3_L24, zG_pf, ih, zG_fo3, zG_j3]
section RU
variable {P : zx_S} {nb : Nat} {sz : Nat → Nat} {t : zc_Tb}
theorem zX_Ca.keep {s s' : zx_S} (h : zX_Ca P nb sz t s) (hk : ∀ c i, 1 ≤ c → c ≤ 41 → s' c i = s c i) : zX_Ca P nb sz t s' := by
  refine ⟨h.1.keep (fun c j h1 h2 => hk c j h1 (by omega)), h.2.1.keep (fun c j h1 h2 => hk c j (by omega) (by omega)), fun hn => ?_, fun h0 => ?_⟩
  · obtain ⟨a1, ⟨b1, b2, b3, b4⟩, a3⟩ := h.2.2.1 hn
    refine ⟨a1.keep (fun c j h1 h2 => hk c j h1 (by omega)), ⟨fun v hv => by rw [hk 37 v (by decide) (by decide)]; exact b1 v hv, by rw [hk 36 2 (by decide) (by decide)]; exact b2, fun v j h1 h2 h3 => by rw [hk 39 _ (by decide) (by decide)]; exact b3 v j h1 h2 h3, fun b hb => ⟨fun k h1 h2 => by rw [hk 40 _ (by decide) (by decide)]; exact (b4 b hb).1 k h1 h2, by rw [hk 41 _ (by decide) (by decide)]; exact (b4 b hb).2⟩⟩, by rw [hk 33 2 (by decide) (by decide)]; exact a3⟩
  · obtain ⟨a1, a2, a3, a4⟩ := h.2.2.2 h0
    exact ⟨by rw [hk 18 11 (by decide) (by decide)]; exact a1, fun b hb => by rw [hk 30 b (by decide) (by decide)]; exact a2 b hb, by rw [hk 33 2 (by decide) (by decide)]; exact a3, by rw [hk 36 2 (by decide) (by decide)]; exact a4⟩
theorem zq_Pg.keep {s s' : zx_S} (h : zq_Pg P s) (hk : ∀ c i, (c = 0 ∧ i = 0) ∨ (1 ≤ c ∧ c ≤ 9) → s' c i = s c i) : zq_Pg P s' := ⟨by rw [hk 0 0 (by decide)]; exact h.1, fun c h1 h2 => by funext i; rw [hk c i (Or.inr ⟨h1, h2⟩), h.2 c h1 h2]⟩
/-- on the way of a RUN: f FUEL, u used, m of it free for what is emitted -/
def zr_C (P : zx_S) (nb : Nat) (sz : Nat → Nat) (t : zc_Tb) (f u m : Nat) (σ τ : zx_S) : Prop :=
  (zX_Ca P nb sz t σ ∧ σ 23 0 = 0 ∧ zq_Pg P τ ∧ zm_Ca P nb sz t τ ∧ τ 0 1 = nI (zt sz nb)) ∧
  (f ≤ 5000 ∧ 1 ≤ f ∧ u ≤ f ∧ σ 50 3 = nI f ∧ τ 0 34 = nI f ∧ σ 50 5 = nI u ∧ τ 0 36 = nI u) ∧
  (∃ e, e + m ≤ u ∧ σ 50 6 = nI e ∧ τ 0 37 = nI e ∧ ∀ i, i < 60 → i < e → σ 52 i = τ 31 i) ∧
  (σ 50 4 = τ 0 35 ∧ σ 45 0 = 0 ∧ σ 48 0 = 0 ∧ ∀ i, i < 4 → σ 51 i = τ 35 i)
theorem zr_C.weak {f u : Nat} {σ τ : zx_S} (h : zr_C P nb sz t f u 1 σ τ) : zr_C P nb sz t f u 0 σ τ := by
  obtain ⟨a, b, ⟨e, e1, e2⟩, d⟩ := h
  exact ⟨a, b, ⟨e, by omega, e2⟩, d⟩
theorem zr_C.keep {f u m : Nat} {σ σ' τ τ' : zx_S} (h : zr_C P nb sz t f u m σ τ) (h1 : ∀ c i, c ≠ 43 → c ≠ 46 → c ≠ 49 → (c = 45 → i = 0) → (c = 48 → i = 0) → ¬ (c = 50 ∧ i = 7) → σ' c i = σ c i) (h2 : ∀ c i, c ≠ 27 → c ≠ 32 → c ≠ 33 → c ≠ 34 → ¬ (c = 0 ∧ i = 38) → τ' c i = τ c i) : zr_C P nb sz t f u m σ' τ' := by
  have hx : ∀ c i, c ≤ 42 ∨ c = 44 ∨ c = 47 ∨ 51 ≤ c ∨ (c = 50 ∧ i ≠ 7) ∨ (c = 45 ∧ i = 0) ∨ (c = 48 ∧ i = 0) → σ' c i = σ c i := fun c i q => h1 c i (by omega) (by omega) (by omega) (by omega) (by omega) (by omega)
  have hy : ∀ c i, (c = 0 ∧ i ≠ 38) ∨ (1 ≤ c ∧ c ≤ 26) ∨ (28 ≤ c ∧ c ≤ 31) ∨ c = 35 → τ' c i = τ c i := fun c i q => h2 c i (by omega) (by omega) (by omega) (by omega) (by omega)
  obtain ⟨⟨a1, a2, a3, a4, a5⟩, ⟨b1, b2, b3, b4, b5, b6, b7⟩, ⟨e, e1, e2, e3, e4⟩, d1, d2, d3, d4⟩ := h
  refine ⟨⟨a1.keep (fun c i _ q => hx c i (by omega)), by rw [hx 23 0 (by decide)]; exact a2, a3.keep (fun c i q => hy c i (by omega)), a4.keep (fun c i q => hy c i (by omega)), by rw [hy 0 1 (by decide)]; exact a5⟩, ⟨b1, b2, b3, by rw [hx 50 3 (by decide)]; exact b4, by rw [hy 0 34 (by decide)]; exact b5, by rw [hx 50 5 (by decide)]; exact b6, by rw [hy 0 36 (by decide)]; exact b7⟩, ⟨e, e1, by rw [hx 50 6 (by decide)]; exact e2, by rw [hy 0 37 (by decide)]; exact e3, fun i i1 i2 => by rw [hx 52 i (by omega), hy 31 i (by omega)]; exact e4 i i1 i2⟩, by rw [hx 50 4 (by decide), hy 0 35 (by decide)]; exact d1, by rw [hx 45 0 (by decide)]; exact d2, by rw [hx 48 0 (by decide)]; exact d3, fun i i1 => by rw [hx 51 i (by omega), hy 35 i (by omega)]; exact d4 i i1⟩
/-- paying -/
theorem zr_C.pay {f u : Nat} {σ τ : zx_S} (h : zr_C P nb sz t f u 0 σ τ) : (zX_Machine_pay σ = some (0, σ) ∧ zM_ValueBenchModel_takes τ = some (0, τ)) ∨ (u < f ∧ zX_Machine_pay σ = some (1, zx_su σ 50 5 (nI (u + 1))) ∧ zM_ValueBenchModel_takes τ = some (1, zx_su τ 0 36 (nI (u + 1))) ∧ zr_C P nb sz t f (u + 1) 1 (zx_su σ 50 5 (nI (u + 1))) (zx_su τ 0 36 (nI (u + 1)))) := by
  obtain ⟨⟨a1, a2, a3, a4, a5⟩, ⟨b1, b2, b3, b4, b5, b6, b7⟩, ⟨e, e1, e2, e3, e4⟩, d1, d2, d3, d4⟩ := h
  unfold zX_Machine_pay zM_ValueBenchModel_takes
  rw [b4, b5, b6, b7]
  by_cases c : u < f
  · right
    rw [if_pos (by rw [nI_ltI (by omega) (by omega)]; exact c), if_neg (fun z => by have := nI_inj (by omega) (by omega) z; omega), nI_1]
    refine ⟨c, rfl, rfl, ?_⟩
    have hx : ∀ c i, c ≠ 50 ∨ i ≠ 5 → zx_su σ 50 5 (nI (u + 1)) c i = σ c i := fun c i q => zs_ne q
    have hy : ∀ c i, c ≠ 0 ∨ i ≠ 36 → zx_su τ 0 36 (nI (u + 1)) c i = τ c i := fun c i q => zs_ne q
    refine ⟨⟨a1.keep (fun c i _ q => hx c i (by omega)), by rw [hx 23 0 (by decide)]; exact a2, a3.keep (fun c i q => hy c i (by omega)), a4.keep (fun c i q => hy c i (by omega)), by rw [hy 0 1 (by decide)]; exact a5⟩, ⟨b1, b2, c, by rw [hx 50 3 (by decide)]; exact b4, by rw [hy 0 34 (by decide)]; exact b5, zs_eq _ _ _ _, zs_eq _ _ _ _⟩, ⟨e, by omega, by rw [hx 50 6 (by decide)]; exact e2, by rw [hy 0 37 (by decide)]; exact e3, fun i i1 i2 => by rw [hx 52 i (by omega), hy 31 i (by omega)]; exact e4 i i1 i2⟩, by rw [hx 50 4 (by decide), hy 0 35 (by decide)]; exact d1, by rw [hx 45 0 (by decide)]; exact d2, by rw [hx 48 0 (by decide)]; exact d3, fun i i1 => by rw [hx 51 i (by omega), hy 35 i (by omega)]; exact d4 i i1⟩
  · left
    rw [if_neg (by rw [nI_ltI (by omega) (by omega)]; exact c), if_pos (by rw [show u = f by omega])]
    exact ⟨rfl, rfl⟩
/-- emitting -/
theorem zr_C.tell {f u : Nat} {σ τ : zx_S} (h : zr_C P nb sz t f u 1 σ τ) (x : Int32) : ∃ σ' τ', zX_Machine_tell x σ = some σ' ∧ zM_ValueBenchModel_emit x τ = some τ' ∧ zr_C P nb sz t f u 0 σ' τ' ∧ (∀ c i, c ≠ 52 → ¬ (c = 50 ∧ i = 6) → σ' c i = σ c i) ∧ ∀ c i, c ≠ 31 → ¬ (c = 0 ∧ i = 37) → τ' c i = τ c i := by
  obtain ⟨⟨a1, a2, a3, a4, a5⟩, ⟨b1, b2, b3, b4, b5, b6, b7⟩, ⟨e, e1, e2, e3, e4⟩, d1, d2, d3, d4⟩ := h
  have main : ∀ σ' τ' : zx_S, (∀ c i, c ≠ 52 → ¬ (c = 50 ∧ i = 6) → σ' c i = σ c i) → (∀ c i, c ≠ 31 → ¬ (c = 0 ∧ i = 37) → τ' c i = τ c i) → σ' 50 6 = nI (e + 1) → τ' 0 37 = nI (e + 1) → (∀ i, i < 60 → i < e + 1 → σ' 52 i = τ' 31 i) → zr_C P nb sz t f u 0 σ' τ' := by
    intro σ' τ' g1 g2 g3 g4 g5
    have hx : ∀ c i, c ≤ 49 ∨ c = 51 ∨ (c = 50 ∧ i ≠ 6) → σ' c i = σ c i := fun c i q => g1 c i (by omega) (by omega)
    have hy : ∀ c i, (c = 0 ∧ i ≠ 37) ∨ (1 ≤ c ∧ c ≤ 30) ∨ 32 ≤ c → τ' c i = τ c i := fun c i q => g2 c i (by omega) (by omega)
    exact ⟨⟨a1.keep (fun c i _ q => hx c i (by omega)), by rw [hx 23 0 (by decide)]; exact a2, a3.keep (fun c i q => hy c i (by omega)), a4.keep (fun c i q => hy c i (by omega)), by rw [hy 0 1 (by decide)]; exact a5⟩, ⟨b1, b2, b3, by rw [hx 50 3 (by decide)]; exact b4, by rw [hy 0 34 (by decide)]; exact b5, by rw [hx 50 5 (by decide)]; exact b6, by rw [hy 0 36 (by decide)]; exact b7⟩, ⟨e + 1, by omega, g3, g4, g5⟩, by rw [hx 50 4 (by decide), hy 0 35 (by decide)]; exact d1, by rw [hx 45 0 (by decide)]; exact d2, by rw [hx 48 0 (by decide)]; exact d3, fun i i1 => by rw [hx 51 i (by omega), hy 35 i (by omega)]; exact d4 i i1⟩
  unfold zX_Machine_tell zM_ValueBenchModel_emit
  rw [e2, e3]
  by_cases c : 60 ≤ e
  · have c' : (60 : Int32) ≤ nI e := by rw [show (60 : Int32) = nI 60 by decide, nI_leI (by omega) (by omega)]; exact c
    rw [if_pos c', if_pos c', nI_1]
    have g1 : ∀ c i, c ≠ 52 → ¬ (c = 50 ∧ i = 6) → zx_su σ 50 6 (nI (e + 1)) c i = σ c i := fun c i _ q => zs_ne (by omega)
    have g2 : ∀ c i, c ≠ 31 → ¬ (c = 0 ∧ i = 37) → zx_su τ 0 37 (nI (e + 1)) c i = τ c i := fun c i _ q => zs_ne (by omega)
    exact ⟨_, _, rfl, rfl, main _ _ g1 g2 (zs_eq _ _ _ _) (zs_eq _ _ _ _) (fun i i1 i2 => by rw [zs_ne (Or.inl (by decide)), zs_ne (Or.inl (by decide))]; exact e4 i i1 (by omega)), g1, g2⟩
  · have c' : ¬ (60 : Int32) ≤ nI e := by rw [show (60 : Int32) = nI 60 by decide, nI_leI (by omega) (by omega)]; exact c
    rw [if_neg c', if_neg c', zc_ck (show e < 60 by omega) (by decide), zc_ck (show e < 60 by omega) (by decide), zc_cl (show e < 2 ^ 31 by omega)]
    simp only [zc_ls, zc_lt]
    rw [zs_ne (c := 50) (Or.inl (by decide)), zs_ne (c := 0) (Or.inl (by decide)), e2, e3, nI_1]
    have g1 : ∀ c i, c ≠ 52 → ¬ (c = 50 ∧ i = 6) → zx_su (zx_su σ 52 e x) 50 6 (nI (e + 1)) c i = σ c i := fun c i _ q => by rw [zs_ne (by omega), zs_ne (by omega)]
    have g2 : ∀ c i, c ≠ 31 → ¬ (c = 0 ∧ i = 37) → zx_su (zx_su τ 31 e x) 0 37 (nI (e + 1)) c i = τ c i := fun c i _ q => by rw [zs_ne (by omega), zs_ne (by omega)]
    refine ⟨_, _, rfl, rfl, main _ _ g1 g2 (zs_eq _ _ _ _) (zs_eq _ _ _ _) (fun i i1 i2 => ?_), g1, g2⟩
    rw [zs_ne (c := 52) (Or.inl (by decide)), zs_ne (c := 31) (Or.inl (by decide))]
    by_cases q : i = e
    · rw [q, zs_eq, zs_eq]
    · rw [zs_ne (Or.inr q), zs_ne (Or.inr q)]; exact e4 i i1 (by omega)
/-- what a form must keep inside a BLOCK -/
def zG_H (P : zx_S) (nb : Nat) (sz : Nat → Nat) (t : zc_Tb) (fm : Int32) (keeps : Int32 → zx_S → Option Int32) (follow : Int32 → zx_S → Option zx_S) (kp : Nat → Nat → Bool) (V : Nat → Nat → zx_S → zx_S → Prop) : Prop :=
  (∀ b k f u m σ τ, zq_rc P nb b → k < sz b → zr_C P nb sz t f u m σ τ → keeps (nI (zt sz b + k)) σ = some (zi (kp b k)) ∧ zM_ValueBenchModel_costs fm (nI b) (nI k) τ = some (zi (kp b k))) ∧
  (∀ b k σ τ, zq_rc P nb b → k < sz b → kp b k = false → V b k σ τ → V b (k + 1) σ τ) ∧
  (∀ b k f u σ τ, zq_rc P nb b → k < sz b → kp b k = true → zr_C P nb sz t f u 1 σ τ → V b k σ τ → ∃ σ' τ', follow (nI (zt sz b + k)) σ = some σ' ∧ zM_ValueBenchModel_acts fm (nI b) (nI k) τ = some τ' ∧ zr_C P nb sz t f u 0 σ' τ' ∧ σ' 50 7 = σ 50 7 ∧ τ' 0 38 = τ 0 38 ∧ V b (k + 1) σ' τ') ∧
  (∀ b k σ τ σ' τ', V b k σ τ → (∀ c i, c = 43 ∨ c = 45 ∨ c = 48 → σ' c i = σ c i) → (∀ c i, c = 32 ∨ c = 33 → τ' c i = τ c i) → V b k σ' τ')
def zr_F (P : zx_S) (nb : Nat) (sz : Nat → Nat) (t : zc_Tb) (σ τ : zx_S) : Prop := ∃ f u, zr_C P nb sz t f u 0 σ τ ∧ σ 50 7 = τ 0 38
theorem zG_block (hW : zq_WF P nb sz) {fm : Int32} {keeps : Int32 → zx_S → Option Int32} {follow : Int32 → zx_S → Option zx_S} {kp : Nat → Nat → Bool} {V : Nat → Nat → zx_S → zx_S → Prop} (hH : zG_H P nb sz t fm keeps follow kp V) {b : Nat} (hb : zq_rc P nb b) (K : zx_S → Option (Int32 × zx_S)) : ∀ d k n n' f u σ τ, k + d = sz b → d < n → d < n' → zr_C P nb sz t f u 0 σ τ → σ 50 7 = nI b → τ 0 38 = nI b → V b k σ τ → (∃ σ' τ', zG_fb keeps follow (fun s8 => some ((0 : Int32), s8)) n (nI (zt sz b + k)) σ = some (0, σ') ∧ zM_ValueBenchModel_run_L119 fm (nI b) K n' (nI k) τ = some (1, τ') ∧ zr_F P nb sz t σ' τ') ∨ (∃ u' σ' τ', u ≤ u' ∧ zr_C P nb sz t f u' 0 σ' τ' ∧ σ' 50 7 = nI b ∧ τ' 0 38 = nI b ∧ V b (sz b) σ' τ' ∧ zG_fb keeps follow (fun s8 => some ((0 : Int32), s8)) n (nI (zt sz b + k)) σ = some (1, σ') ∧ zM_ValueBenchModel_run_L119 fm (nI b) K n' (nI k) τ = K τ') := by
  have hnb := hW.2.1
  have hbn := hb.1
  have hsb := (hW.2.2.1 b hbn).2
  intro d
  induction d with
  | zero =>
    intro k n n' f u σ τ hk hn hn' hC h7 h38 hV
    obtain ⟨n, rfl⟩ : ∃ m, n = m + 1 := ⟨n - 1, by omega⟩
    obtain ⟨n', rfl⟩ : ∃ m, n' = m + 1 := ⟨n' - 1, by omega⟩
    right
    have ek : k = sz b := by omega
    have htb := hC.1.1.1.2.tot hW (b := b + 1)
    have e2 := hC.1.1.1.2.2.1 (b + 1) (by omega)
    refine ⟨u, σ, τ, Nat.le_refl _, hC, h7, h38, by rw [← ek]; exact hV, ?_, ?_⟩
    · rw [zG_fb, h7, nI_1, zc_ck (show b + 1 < 17 by omega) (by decide), zc_cl (show b + 1 < 2 ^ 31 by omega), e2, zt_step, if_pos (by rw [ek, nI_leI (by rw [zt_step] at htb; omega) (by rw [zt_step] at htb; omega)]; omega)]
    · rw [zM_ValueBenchModel_run_L119, zc_ck (show b < 16 by omega) (by decide), zc_cl (show b < 2 ^ 31 by omega), hC.1.2.2.1.at (by decide) (by decide), (hW.2.2.1 b hbn).1, if_pos (by rw [nI_leI (by omega) (by omega)]; omega)]
  | succ d ih =>
    intro k n n' f u σ τ hk hn hn' hC h7 h38 hV
    obtain ⟨n, rfl⟩ : ∃ m, n = m + 1 := ⟨n - 1, by omega⟩
    obtain ⟨n', rfl⟩ : ∃ m, n' = m + 1 := ⟨n' - 1, by omega⟩
    have hks : k < sz b := by omega
    have htb := hC.1.1.1.2.tot hW (b := b + 1)
    rw [zt_step] at htb
    have e2 := hC.1.1.1.2.2.1 (b + 1) (by omega)
    obtain ⟨k1, k2⟩ := hH.1 b k f u 0 σ τ hb hks hC
    have EX : zG_fb keeps follow (fun s8 => some ((0 : Int32), s8)) (n + 1) (nI (zt sz b + k)) σ = if kp b k = false then zG_fb keeps follow (fun s8 => some ((0 : Int32), s8)) n (nI (zt sz b + k + 1)) σ else zx_b2 (zX_Machine_pay σ) fun r3 s4 => if r3 = (0 : Int32) then some ((0 : Int32), s4) else zx_b1 (follow (nI (zt sz b + k)) s4) fun s5 => zG_fb keeps follow (fun s8 => some ((0 : Int32), s8)) n (nI (zt sz b + k + 1)) s5 := by
      rw [zG_fb, h7, nI_1, zc_ck (show b + 1 < 17 by omega) (by decide), zc_cl (show b + 1 < 2 ^ 31 by omega), e2, zt_step, if_neg (by rw [nI_leI (by omega) (by omega)]; omega), k1, zc_b1]
      simp only [zi_0, zc_lt, nI_1]
    have EM : zM_ValueBenchModel_run_L119 fm (nI b) K (n' + 1) (nI k) τ = if kp b k = false then zM_ValueBenchModel_run_L119 fm (nI b) K n' (nI (k + 1)) τ else zx_b2 (zM_ValueBenchModel_takes τ) fun r15 s16 => if r15 = (0 : Int32) then some ((1 : Int32), s16) else zx_b1 (zM_ValueBenchModel_acts fm (nI b) (nI k) s16) fun s17 => zM_ValueBenchModel_run_L119 fm (nI b) K n' (nI (k + 1)) s17 := by
      rw [zM_ValueBenchModel_run_L119, zc_ck (show b < 16 by omega) (by decide), zc_cl (show b < 2 ^ 31 by omega), hC.1.2.2.1.at (by decide) (by decide), (hW.2.2.1 b hbn).1, if_neg (by rw [nI_leI (by omega) (by omega)]; omega), k2, zc_b1]
      simp only [zi_0, zc_lt, nI_1]
    by_cases c : kp b k = false
    · rw [if_pos c] at EX EM
      rw [EX, EM]
      have := ih (k + 1) n n' f u σ τ (by omega) (by omega) (by omega) hC h7 h38 (hH.2.1 b k σ τ hb hks c hV)
      rw [show zt sz b + (k + 1) = zt sz b + k + 1 by omega] at this
      exact this
    · rw [if_neg c] at EX EM
      have c' : kp b k = true := by simpa using c
      rcases hC.pay with ⟨p1, p2⟩ | ⟨p0, p1, p2, p3⟩
      · left
        rw [p1, zc_b2, if_pos rfl] at EX
        rw [p2, zc_b2, if_pos rfl] at EM
        exact ⟨σ, τ, EX, EM, f, u, hC, h7.trans h38.symm⟩
      · rw [p1, zc_b2, if_neg z10] at EX
        rw [p2, zc_b2, if_neg z10] at EM
        have hV1 := hH.2.2.2 b k σ τ (zx_su σ 50 5 (nI (u + 1))) (zx_su τ 0 36 (nI (u + 1))) hV (fun c i q => zs_ne (by omega)) (fun c i q => zs_ne (by omega))
        obtain ⟨σ2, τ2, q1, q2, q3, q4, q5, q6⟩ := hH.2.2.1 b k f (u + 1) _ _ hb hks c' p3 hV1
        rw [q1, zc_b1] at EX
        rw [q2, zc_b1] at EM
        rw [EX, EM]
        have h7' : σ2 50 7 = nI b := by rw [q4, zs_ne (Or.inr (by decide))]; exact h7
        have h38' : τ2 0 38 = nI b := by rw [q5, zs_ne (Or.inr (by decide))]; exact h38
        have := ih (k + 1) n n' f (u + 1) σ2 τ2 (by omega) (by omega) (by omega) q3 h7' h38' q6
        rw [show zt sz b + (k + 1) = zt sz b + k + 1 by omega] at this
        rcases this with ⟨σ', τ', r1, r2, r3⟩ | ⟨u', σ', τ', r0, r1, r2, r3, r4, r5, r6⟩
        · exact Or.inl ⟨σ', τ', r1, r2, r3⟩
        · exact Or.inr ⟨u', σ', τ', by omega, r1, r2, r3, r4, r5, r6⟩
end RU
