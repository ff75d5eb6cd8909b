/-! PURE: RUN: BLOCK after BLOCK -/
section RV
variable {P : zx_S} {nb : Nat} {sz : Nat → Nat} {t : zc_Tb}
theorem zr_C.ret {f u m : Nat} {σ τ : zx_S} (h : zr_C P nb sz t f u m σ τ) (x : Int32) : zr_C P nb sz t f u m (zx_su σ 50 4 x) (zx_su τ 0 35 x) := by
  obtain ⟨⟨a1, a2, a3, a4, a5⟩, ⟨b1, b2, b3, b4, b5, b6, b7⟩, ⟨e, e1, e2, e3, e4⟩, d1, d2, d3, d4⟩ := h
  have hx : ∀ c i, c ≠ 50 ∨ i ≠ 4 → zx_su σ 50 4 x c i = σ c i := fun c i q => zs_ne q
  have hy : ∀ c i, c ≠ 0 ∨ i ≠ 35 → zx_su τ 0 35 x c i = τ c i := fun c i q => zs_ne q
  exact ⟨⟨a1.keep (fun c i _ q => hx c i (by omega)), by rw [hx 23 0 (by decide)]; exact a2, a3.keep (fun c i q => hy c i (by omega)), a4.keep (fun c i q => hy c i (by omega)), by rw [hy 0 1 (by decide)]; exact a5⟩, ⟨b1, b2, b3, by rw [hx 50 3 (by decide)]; exact b4, by rw [hy 0 34 (by decide)]; exact b5, by rw [hx 50 5 (by decide)]; exact b6, by rw [hy 0 36 (by decide)]; exact b7⟩, ⟨e, e1, by rw [hx 50 6 (by decide)]; exact e2, by rw [hy 0 37 (by decide)]; exact e3, fun i i1 i2 => by rw [hx 52 i (by omega), hy 31 i (by omega)]; exact e4 i i1 i2⟩, by rw [zs_eq, zs_eq], by rw [hx 45 0 (by decide)]; exact d2, by rw [hx 48 0 (by decide)]; exact d3, fun i i1 => by rw [hx 51 i (by omega), hy 35 i (by omega)]; exact d4 i i1⟩
/-- how a BLOCK is come to -/
def zr_E (P : zx_S) (nb : Nat) (sz : Nat → Nat) (V : Nat → Nat → zx_S → zx_S → Prop) (fr : Int32) (b : Nat) (σ τ : zx_S) : Prop := (fr = -1 ∧ b = 0 ∧ ∀ v, v < 10 → τ 32 v = 0) ∨ ∃ p, fr = nI p ∧ zq_pr P nb b p ∧ V p (sz p) σ τ
def zG_B (P : zx_S) (nb : Nat) (sz : Nat → Nat) (t : zc_Tb) (fm : Int32) (bg : Int32 → Int32 → zx_S → Option zx_S) (V : Nat → Nat → zx_S → zx_S → Prop) : Prop := ∀ b fr f u σ τ, zq_rc P nb b → zr_C P nb sz t f u 0 σ τ → zr_E P nb sz V fr b σ τ → ∃ σ' τ', bg fr (nI b) σ = some σ' ∧ (if fm ≤ 0 then some τ else zM_ValueBenchModel_chooses fm (nI b) fr τ) = some τ' ∧ zr_C P nb sz t f u 0 σ' τ' ∧ σ' 50 7 = σ 50 7 ∧ τ' 0 38 = τ 0 38 ∧ V b 0 σ' τ'
/-- what the reference reads at the END -/
def zM_en (v1 v7 : Int32) (s21 : zx_S) (K : Int32 → Option (Int32 × zx_S)) : Option (Int32 × zx_S) :=
  if v1 = (0 : Int32) then
    zx_b1 (zM_ValueBenchModel_yOf v7 s21) fun r26 =>
    zx_ck r26 10 <|
    K (s21 32 (r26).toNatClampNeg)
  else
    if v1 = (2 : Int32) then
      zx_b1 (zM_ValueBenchModel_reads v7 (1 : Int32) s21) fun r27 =>
      zx_ck r27 270 <|
      K (s21 33 (r27).toNatClampNeg)
    else
      zx_b1 (zM_ValueBenchModel_reads v7 (0 : Int32) s21) fun r28 =>
      zx_ck r28 270 <|
      K (s21 33 (r28).toNatClampNeg)
def zM_fin (k97 : Int32 → Int32 → zx_S → Option (Int32 × zx_S)) (k255 : Int32 → zx_S → Option (Int32 × zx_S)) (v1 v7 : Int32) (s19 : zx_S) : Option (Int32 × zx_S) :=
  zx_b2 (zM_ValueBenchModel_takes s19) fun r20 s21 =>
  if r20 = (0 : Int32) then
    some ((1 : Int32), s21)
  else
    zx_b1 (zM_ValueBenchModel_howOf v7 s21) fun r22 =>
    if r22 = (1 : Int32) then
      zx_ck v7 16 <|
      zx_lt (s21 8 (v7).toNatClampNeg) fun v7_23 =>
      k97 v7 v7_23 s21
    else
      zM_en v1 v7 s21 (fun x => (zM_ValueBenchModel_run_J248 k97 k255) v1 v7 r22 x s21)
theorem zM_J116_eq (k97 : Int32 → Int32 → zx_S → Option (Int32 × zx_S)) (k255 : Int32 → zx_S → Option (Int32 × zx_S)) (v1 v7 : Int32) (s : zx_S) : zM_ValueBenchModel_run_J116 k97 k255 v1 v7 s = zM_ValueBenchModel_run_L119 v1 v7 (zM_fin k97 k255 v1 v7) 10000 (0 : Int32) s := rfl
def zG_E (P : zx_S) (nb : Nat) (sz : Nat → Nat) (t : zc_Tb) (fm : Int32) (ec : Int32 → zx_S → Option Int32) (N c : Nat) (V : Nat → Nat → zx_S → zx_S → Prop) : Prop := ∀ b f u m σ τ, zq_rc P nb b → ¬ zq_how P b = 1 → zr_C P nb sz t f u m σ τ → V b (sz b) σ τ → ∃ r, r < N ∧ ec (nI b) σ = some (nI r) ∧ ∀ K, zM_en fm (nI b) τ K = K (σ c r)
def zG_kX (v5_19 : Int32) (s20 : zx_S) : Option (Int32 × zx_S) := zx_ls (zx_su s20 50 4 v5_19) fun s21 => some ((0 : Int32), s21)
def zG_kM (v9_30 : Int32) (s31 : zx_S) : Option (Int32 × zx_S) := zx_ls (zx_su s31 0 35 v9_30) fun s32 => some ((0 : Int32), s32)
theorem zG_sim (hW : zq_WF P nb sz) {fm : Int32} {keeps : Int32 → zx_S → Option Int32} {follow : Int32 → zx_S → Option zx_S} {kp : Nat → Nat → Bool} {V : Nat → Nat → zx_S → zx_S → Prop} {bg : Int32 → Int32 → zx_S → Option zx_S} {ec : Int32 → zx_S → Option Int32} {N c : Nat} (hN : N < 2 ^ 31) (hH : zG_H P nb sz t fm keeps follow kp V) (hB : zG_B P nb sz t fm bg V) (hEC : zG_E P nb sz t fm ec N c V) : ∀ n b fr f u v3 σ τ, zq_rc P nb b → zr_C P nb sz t f u 0 σ τ → σ 50 7 = nI b → zr_E P nb sz V fr b σ τ → v3 ≤ u → f - u < n → ∃ r σ' τ', zG_pf bg (zG_fo keeps follow) ec N c zG_kX n fr (nI v3) σ = some (r, σ') ∧ zM_ValueBenchModel_run_L97 fm zG_kM n fr (nI b) τ = some (r, τ') ∧ zr_F P nb sz t σ' τ' := by
  have hnb := hW.2.1
  intro n
  induction n with
  | zero => intro b fr f u v3 σ τ _ _ _ _ _ h; omega
  | succ n ih =>
    intro b fr f u v3 σ τ hb hC h7 hE hv hn
    have hbn := hb.1
    have hf := hC.2.1.1
    have huf := hC.2.1.2.2.1
    rw [zG_pf, zM_ValueBenchModel_run_L97, zc_ls, hC.2.1.2.2.2.1, if_neg (by rw [nI_ltI (by omega) (by omega)]; omega)]
    have hC1 : zr_C P nb sz t f u 0 σ (zx_su τ 0 38 (nI b)) := hC.keep (fun _ _ _ _ _ _ _ _ => rfl) (fun c i _ _ _ _ q => zs_ne (by omega))
    have hE1 : zr_E P nb sz V fr b σ (zx_su τ 0 38 (nI b)) := by
      rcases hE with ⟨e1, e2, e3⟩ | ⟨p, e1, e2, e3⟩
      · exact Or.inl ⟨e1, e2, fun v hv => by rw [zs_ne (Or.inl (by decide))]; exact e3 v hv⟩
      · exact Or.inr ⟨p, e1, e2, hH.2.2.2 _ _ _ _ _ _ e3 (fun _ _ _ => rfl) (fun c i q => zs_ne (by omega))⟩
    obtain ⟨σ1, τ1, b1, b2, b3, b4, b5, b6⟩ := hB b fr f u σ _ hb hC1 hE1
    rw [h7, b1, zc_b1]
    have hM : (if fm ≤ (0 : Int32) then (zM_ValueBenchModel_run_J116 (zM_ValueBenchModel_run_L97 fm zG_kM n) zG_kM) fm (nI b) (zx_su τ 0 38 (nI b)) else zx_b1 (zM_ValueBenchModel_chooses fm (nI b) fr (zx_su τ 0 38 (nI b))) fun s29 => (zM_ValueBenchModel_run_J116 (zM_ValueBenchModel_run_L97 fm zG_kM n) zG_kM) fm (nI b) s29) = zM_ValueBenchModel_run_J116 (zM_ValueBenchModel_run_L97 fm zG_kM n) zG_kM fm (nI b) τ1 := by
      by_cases c : fm ≤ 0
      · rw [if_pos c] at b2 ⊢; rw [Option.some.inj b2]
      · rw [if_neg c] at b2 ⊢; rw [b2, zc_b1]
    rw [hM, zM_J116_eq]
    have hb0 := zG_block hW hH hb (zM_fin (zM_ValueBenchModel_run_L97 fm zG_kM n) zG_kM fm (nI b)) (sz b) 0 10000 10000 f u σ1 τ1 (by omega) (by have := (hW.2.2.1 b hbn).2; omega) (by have := (hW.2.2.1 b hbn).2; omega) b3 (b4.trans h7) (b5.trans (zs_eq _ _ _ _)) b6
    rw [Nat.add_zero, nI_0] at hb0
    unfold zG_fo
    rw [b4, h7, zc_ck (show b < 17 by omega) (by decide), zc_lt, zc_cl (show b < 2 ^ 31 by omega), b3.1.1.1.2.2.1 b (by omega)]
    rcases hb0 with ⟨σ', τ', r1, r2, r3⟩ | ⟨u', σ2, τ2, r0, r1, r2, r3, r4, r5, r6⟩
    · rw [r1, r2, zc_b2, if_pos rfl]; exact ⟨1, σ', τ', rfl, rfl, r3⟩
    · rw [r5, r6, zc_b2, if_neg z10]
      unfold zM_fin
      rcases r1.pay with ⟨p1, p2⟩ | ⟨p0, p1, p2, p3⟩
      · rw [p1, p2, zc_b2, zc_b2, if_pos rfl, if_pos rfl]; exact ⟨1, σ2, τ2, rfl, rfl, f, u', r1, r2.trans r3.symm⟩
      · rw [p1, p2, zc_b2, zc_b2, if_neg z10, if_neg z10]
        have hV3 := hH.2.2.2 b (sz b) σ2 τ2 (zx_su σ2 50 5 (nI (u' + 1))) (zx_su τ2 0 36 (nI (u' + 1))) r4 (fun c i q => zs_ne (by omega)) (fun c i q => zs_ne (by omega))
        have h73 : zx_su σ2 50 5 (nI (u' + 1)) 50 7 = nI b := by rw [zs_ne (Or.inr (by decide))]; exact r2
        have h383 : zx_su τ2 0 36 (nI (u' + 1)) 0 38 = nI b := by rw [zs_ne (Or.inr (by decide))]; exact r3
        revert p3 hV3 h73 h383
        generalize zx_su σ2 50 5 (nI (u' + 1)) = σ3
        generalize zx_su τ2 0 36 (nI (u' + 1)) = τ3
        intro p3 hV3 h73 h383
        have hPe := p3.1.1.1.1
        have hPg := p3.1.2.2.1
        rw [h73, zX_howCounts_eq hW hPe hbn, zM_howOf_eq hPg (show b < 16 by omega), zc_b1, zc_b1]
        have nxt : ∀ e, zq_ld P nb b e → ∃ r σ' τ', zG_pf bg (zG_fo keeps follow) ec N c zG_kX n (nI b) (nI (v3 + 1)) (zx_su σ3 50 7 (nI e)) = some (r, σ') ∧ zM_ValueBenchModel_run_L97 fm zG_kM n (nI b) (nI e) τ3 = some (r, τ') ∧ zr_F P nb sz t σ' τ' := fun e he => ih e (nI b) f (u' + 1) (v3 + 1) (zx_su σ3 50 7 (nI e)) τ3 (hb.step hnb he) (p3.weak.keep (fun c i _ _ _ _ _ q => zs_ne (by omega)) (fun _ _ _ _ _ _ _ => rfl)) (zs_eq _ _ _ _) (Or.inr ⟨b, rfl, ⟨hb, he⟩, hH.2.2.2 _ _ _ _ _ _ hV3 (fun c i q => zs_ne (by omega)) (fun _ _ _ => rfl)⟩) (by omega) (by omega)
        have g9 : ∀ i, τ3 9 i = P 9 i := fun i => by rw [hPg.at (by decide) (by decide)]
        have g8 : ∀ i, τ3 8 i = P 8 i := fun i => by rw [hPg.at (by decide) (by decide)]
        have n0 : zX_Program_next (nI b) 0 σ3 = some (σ3 10 b) := by unfold zX_Program_next; rw [if_pos rfl, zc_ck (show b < 16 by omega) (by decide), zc_cl (show b < 2 ^ 31 by omega)]
        have n1 : zX_Program_next (nI b) 1 σ3 = some (σ3 9 b) := by unfold zX_Program_next; rw [if_neg z10, zc_ck (show b < 16 by omega) (by decide), zc_cl (show b < 2 ^ 31 by omega)]
        have z20 : ¬ (2 : Int32) = 0 := by decide
        have z21 : ¬ (2 : Int32) = 1 := by decide
        have z01 : ¬ (0 : Int32) = 1 := by decide
        by_cases c1 : zq_how P b = 1
        · rcases zq_how_cases hW hbn with ⟨q1, -⟩ | ⟨e, q1, q2, q3, ⟨q4, q5⟩ | ⟨q4, q5⟩⟩ | ⟨e, e', q1, q2, q3, q4, q5, ⟨q6, q7, q8⟩ | ⟨q6, q8⟩⟩
          · exact absurd (q1.symm.trans c1) z01
          · rw [if_pos c1, if_pos c1, c1]
            unfold zX_Machine_perform_J94
            rw [if_neg z10, zc_lt, if_pos rfl, h73, n0, zc_b1, zc_ls, zc_lt, nI_1, zc_ck (show b < 16 by omega) (by decide), zc_cl (show b < 2 ^ 31 by omega), zc_lt, ((hPe.2.1 b hbn).2.2.1 q2).2, g8, q3]
            exact nxt e ⟨hbn, q4, Or.inl ⟨by rw [c1]; decide, q3⟩⟩
          · exact absurd (q5.symm.trans c1) z01
          · exact absurd (q8.symm.trans c1) z21
          · exact absurd (q8.symm.trans c1) z01
        · rw [if_neg c1, if_neg c1]
          obtain ⟨r, s1, s2, s3⟩ := hEC b f (u' + 1) 1 σ3 τ3 hb c1 p3 hV3
          rw [s2, zc_b1, zc_ck s1 hN, zc_cl (show r < 2 ^ 31 by omega), s3]
          unfold zX_Machine_perform_J94 zM_ValueBenchModel_run_J248
          have done : zq_how P b = 0 → ∃ r' σ' τ', (if zq_how P b = 0 then zG_kX (σ3 c r) σ3 else none) = some (r', σ') ∧ (if zq_how P b = 0 then zG_kM (σ3 c r) τ3 else none) = some (r', τ') ∧ zr_F P nb sz t σ' τ' := fun q => by
            rw [if_pos q, if_pos q]
            exact ⟨0, _, _, rfl, rfl, f, u' + 1, p3.weak.ret _, by rw [zs_ne (Or.inr (by decide)), zs_ne (Or.inr (by decide)), h73, h383]⟩
          by_cases c0 : zq_how P b = 0
          · have := done c0
            rw [if_pos c0, if_pos c0] at this
            rw [if_pos c0, if_pos c0]
            exact this
          · rw [if_neg c0, if_neg c0, zc_lt]
            rcases zq_how_cases hW hbn with ⟨q1, -⟩ | ⟨e, q1, q2, q3, ⟨q4, q5⟩ | ⟨q4, q5⟩⟩ | ⟨e, e', q1, q2, q3, q4, q5, ⟨q6, q7, q8⟩ | ⟨q6, q8⟩⟩
            · exact absurd q1 c0
            · exact absurd q5 c1
            · exact absurd q5 c0
            · by_cases cx : σ3 c r = 0
              · rw [if_pos cx, if_pos cx, h73, n0, zc_b1, zc_ls, zc_lt, nI_1, zc_ck (show b < 16 by omega) (by decide), zc_cl (show b < 2 ^ 31 by omega), zc_lt, ((hPe.2.1 b hbn).2.2.2 q3).2.2, g9, q5]
                exact nxt e' ⟨hbn, q7, Or.inr ⟨q8, q5⟩⟩
              · rw [if_neg cx, if_neg cx, h73, n1, zc_b1, zc_ls, zc_lt, nI_1, zc_ck (show b < 16 by omega) (by decide), zc_cl (show b < 2 ^ 31 by omega), zc_lt, ((hPe.2.1 b hbn).2.2.2 q3).2.1, g8, q4]
                exact nxt e ⟨hbn, q6, Or.inl ⟨by rw [q8]; decide, q4⟩⟩
            · exact absurd q8 c0
end RV
