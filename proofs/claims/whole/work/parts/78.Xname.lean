/-! PURE: the class's beginBlock, followBlock -/
section XB
variable {P : zx_S} {nb : Nat} {sz : Nat → Nat} {t : zc_Tb}
theorem nI_x10 (a : Nat) : nI a * (10 : Int32) = nI (10 * a) := by rw [show (10 : Int32) = nI 10 by decide, nI_mul, Nat.mul_comm]
/-- OPERANDS of VALUE i stand in their places -/
def zX_Fo (t : zc_Tb) (i : Nat) (s : zx_S) : Prop := ∀ j, j < zt_c t i → s 25 (zt (zt_c t) i + j) = nI (zt_o t i j)
/-- the VARIABLE that the END of b reads, if it is no JUMP -/
noncomputable def zq_ev (P : zx_S) (b : Nat) : Nat := if zp (zq_how P b = P 6 b) then (P 7 b).toNatClampNeg else 0
/-- what is known of BLOCK b once it is followed -/
def zX_Bk (P : zx_S) (nb : Nat) (sz : Nat → Nat) (t : zc_Tb) (b : Nat) (s : zx_S) : Prop := (∀ v, v < 10 → s 32 (10 * b + v) = nI (zq_En P nb sz b v)) ∧ (∀ k, k < sz b → P 1 (100 * b + k) = 14 → s 26 (zt sz b + k) = nI (zq_At P nb sz b k (zq_x P b k))) ∧ (∀ i k, zq_isN P nb sz i b k → zX_Fo t i s) ∧ s 27 b = if zq_how P b = 1 then -1 else nI (zq_En P nb sz b (zq_ev P b))
/-- s' is s but for what is BLOCK b's -/
def zX_Kp (P : zx_S) (nb : Nat) (sz : Nat → Nat) (t : zc_Tb) (b : Nat) (s s' : zx_S) : Prop := (∀ c i, c ≠ 25 → c ≠ 26 → c ≠ 27 → c ≠ 32 → s' c i = s c i) ∧ (∀ b' v, b' ≠ b → v < 10 → s' 32 (10 * b' + v) = s 32 (10 * b' + v)) ∧ (∀ b' k, b' ≠ b → k < sz b' → s' 26 (zt sz b' + k) = s 26 (zt sz b' + k)) ∧ (∀ b', b' ≠ b → s' 27 b' = s 27 b') ∧ ∀ i b' k j, zq_isN P nb sz i b' k → b' ≠ b → j < zt_c t i → s' 25 (zt (zt_c t) i + j) = s 25 (zt (zt_c t) i + j)
theorem zX_Kp.refl (b : Nat) (s : zx_S) : zX_Kp P nb sz t b s s := ⟨fun _ _ _ _ _ _ => rfl, fun _ _ _ _ => rfl, fun _ _ _ _ => rfl, fun _ _ => rfl, fun _ _ _ _ _ _ _ => rfl⟩
theorem zX_Kp.trans {b : Nat} {s s1 s2 : zx_S} (h1 : zX_Kp P nb sz t b s s1) (h2 : zX_Kp P nb sz t b s1 s2) : zX_Kp P nb sz t b s s2 :=
  ⟨fun c i a1 a2 a3 a4 => (h2.1 c i a1 a2 a3 a4).trans (h1.1 c i a1 a2 a3 a4), fun b' v a1 a2 => (h2.2.1 b' v a1 a2).trans (h1.2.1 b' v a1 a2), fun b' k a1 a2 => (h2.2.2.1 b' k a1 a2).trans (h1.2.2.1 b' k a1 a2), fun b' a1 => (h2.2.2.2.1 b' a1).trans (h1.2.2.2.1 b' a1), fun i b' k j a1 a2 a3 => (h2.2.2.2.2 i b' k j a1 a2 a3).trans (h1.2.2.2.2 i b' k j a1 a2 a3)⟩
theorem zX_Kp.bk {b b' : Nat} {s s' : zx_S} (h : zX_Kp P nb sz t b s s') (hne : b' ≠ b) (hB : zX_Bk P nb sz t b' s) : zX_Bk P nb sz t b' s' :=
  ⟨fun v hv => by rw [h.2.1 b' v hne hv]; exact hB.1 v hv, fun k hk h14 => by rw [h.2.2.1 b' k hne hk]; exact hB.2.1 k hk h14, fun i k hN j hj => by rw [h.2.2.2.2 i b' k j hN hne hj]; exact hB.2.2.1 i k hN j hj, by rw [h.2.2.2.1 b' hne]; exact hB.2.2.2⟩
/-- writing row 32 of b -/
theorem zX_Kp.w32 (b : Nat) {v : Nat} (hv : v < 10) (x : Int32) (s : zx_S) : zX_Kp P nb sz t b s (zx_su s 32 (10 * b + v) x) :=
  ⟨fun c i _ _ _ h => zs_ne (Or.inl h), fun b' v' h1 h2 => zs_ne (Or.inr (by omega)), fun _ _ _ _ => zs_ne (Or.inl (by decide)), fun _ _ => zs_ne (Or.inl (by decide)), fun _ _ _ _ _ _ _ => zs_ne (Or.inl (by decide))⟩
theorem zX_begin_L16_spec (hnb : nb ≤ 16) (kk : zx_S → Option zx_S) {b : Nat} (hr : zq_rc P nb b) {s : zx_S} (hG : (zq_rc P nb b → b ≠ 0 → s 16 b = nI (zq_pa P nb b)) ∧ ((¬ zq_rc P nb b ∨ b = 0) → s 16 b = -1)) (hpa : b ≠ 0 → ∀ v, v < 10 → s 32 (10 * zq_pa P nb b + v) = nI (zq_En P nb sz (zq_pa P nb b) v)) : ∃ s', (zX_Kp P nb sz t b s s' ∧ ∀ v, v < 10 → s' 32 (10 * b + v) = nI (if b = 0 then 0 else zq_En P nb sz (zq_pa P nb b) v)) ∧ zX_Values_beginBlock_L16 (nI b) (nI (10 * b)) (s 16 b) kk 10000 (0 : Int32) s = kk s' := by
  have hb := hr.1
  have := zf_for (L := fun n i u => zX_Values_beginBlock_L16 (nI b) (nI (10 * b)) (s 16 b) kk n i u) (k := kk) 10 (fun v u => zX_Kp P nb sz t b s u ∧ ∀ w, w < v → u 32 (10 * b + w) = nI (if b = 0 then 0 else zq_En P nb sz (zq_pa P nb b) w)) (fun n u _ => by
    show zX_Values_beginBlock_L16 (nI b) (nI (10 * b)) (s 16 b) kk (n + 1) (nI 10) u = kk u
    rw [zX_Values_beginBlock_L16, if_pos (by decide)]) (fun n v u hv q => by
    show ∃ a', _ ∧ zX_Values_beginBlock_L16 (nI b) (nI (10 * b)) (s 16 b) kk (n + 1) (nI v) u = zX_Values_beginBlock_L16 (nI b) (nI (10 * b)) (s 16 b) kk n (nI (v + 1)) a'
    rw [zX_Values_beginBlock_L16, if_neg (by rw [show (10 : Int32) = nI 10 by decide, nI_leI (by omega) (by omega)]; omega)]
    have fin : ∀ x : Int32, x = nI (if b = 0 then 0 else zq_En P nb sz (zq_pa P nb b) v) → (zX_Kp P nb sz t b s (zx_su u 32 (10 * b + v) x) ∧ ∀ w, w < v + 1 → zx_su u 32 (10 * b + v) x 32 (10 * b + w) = nI (if b = 0 then 0 else zq_En P nb sz (zq_pa P nb b) w)) := fun x hx => by
      refine ⟨q.1.trans (zX_Kp.w32 b hv x u), fun w hw => ?_⟩
      by_cases e : w = v
      · rw [e, zs_eq]; exact hx
      · rw [zs_ne (Or.inr (by omega))]; exact q.2 w (by omega)
    by_cases h0 : b = 0
    · rw [if_pos (hG.2 (Or.inr h0)), nI_add, zc_ck (show 10 * b + v < 160 by omega) (by decide), zc_cl (by omega), zc_ls, zc_lt, nI_1]
      exact ⟨_, fin 0 (by rw [if_pos h0]; exact nI_0.symm), rfl⟩
    · have hp := zq_pa_ok hr h0
      have hpl := hp.2.1.rcl.1
      have e16 := hG.1 hr h0
      rw [if_neg (by rw [e16]; have : ∀ p, p < 16 → ¬ nI p = (-1 : Int32) := by decide
                     exact this _ (by omega)), e16, nI_x10, nI_add, nI_add, zc_ck (show 10 * zq_pa P nb b + v < 160 by omega) (by decide), zc_cl (by omega), zc_lt, zc_ck (show 10 * b + v < 160 by omega) (by decide), zc_cl (by omega), zc_ls, zc_lt, nI_1]
      refine ⟨_, fin _ ?_, rfl⟩
      rw [q.1.2.1 _ _ hp.1 hv, hpa h0 v hv, if_neg h0]) (i := 0) (n := 10000) (Nat.zero_le _) (a := s) ⟨zX_Kp.refl b s, fun w hw => by omega⟩ (by decide)
  rw [nI_0] at this
  exact this
theorem zX_begin_spec (hW : zq_WF P nb sz) {b : Nat} (hr : zq_rc P nb b) {s : zx_S} (hG : zX_Gr P nb s) (hN : zX_Nr P nb sz t 16 s) (hpa : b ≠ 0 → ∀ v, v < 10 → s 32 (10 * zq_pa P nb b + v) = nI (zq_En P nb sz (zq_pa P nb b) v)) : ∃ s', (zX_Kp P nb sz t b s s' ∧ ∀ v, v < 10 → s' 32 (10 * b + v) = nI (zq_Bg P nb sz b v)) ∧ zX_Values_beginBlock (nI b) s = some s' := by
  have hnb := hW.2.1
  have hb := hr.1
  have hb16 : b < 16 := by omega
  unfold zX_Values_beginBlock
  rw [zc_lt, zc_ck hb16 (by decide), zc_cl (by omega), zc_lt, nI_x10]
  obtain ⟨s1, ⟨a1, a2⟩, a3⟩ := zX_begin_L16_spec (t := t) (sz := sz) hnb (fun s8 => zx_ck (nI b) 16 <| zx_lt (s8 29 b) fun v5_9 => zX_Values_beginBlock_L69 (nI b) (nI (10 * b)) (fun s12 => some s12) 10000 v5_9 s8) hr (hG.2.2.2.2.1 b hb16) hpa
  rw [a3]
  have e29 : s1 29 b = nI (zq_st P nb sz b) := by rw [a1.1 29 b (by decide) (by decide) (by decide) (by decide)]; exact (hN.2.1 b hb16 hr).1
  show ∃ s', _ ∧ (zx_ck (nI b) 16 <| zx_lt (s1 29 b) fun v5_9 => zX_Values_beginBlock_L69 (nI b) (nI (10 * b)) (fun s12 => some s12) 10000 v5_9 s1) = some s'
  rw [zc_ck hb16 (by decide), zc_lt, e29]
  have h261 := zq_st_261 hW (show b + 1 ≤ nb from hb)
  have hbz := zq_bz_rc (sz := sz) hr
  have hcb : zq_cb P nb sz b ≤ 10 := zn_le _ _
  have := zf_off (L := fun n i u => zX_Values_beginBlock_L69 (nI b) (nI (10 * b)) (fun s12 => some s12) n i u) (k := fun s12 => some s12) (zq_st P nb sz b) (zq_cb P nb sz b) (fun j u => zX_Kp P nb sz t b s u ∧ ∀ w, w < 10 → (zq_HC P nb sz w b → zq_ic P nb sz b w < zq_st P nb sz b + j → u 32 (10 * b + w) = nI (zq_ic P nb sz b w)) ∧ (¬ (zq_HC P nb sz w b ∧ zq_ic P nb sz b w < zq_st P nb sz b + j) → u 32 (10 * b + w) = nI (if b = 0 then 0 else zq_En P nb sz (zq_pa P nb b) w))) (fun n u q => by
    show zX_Values_beginBlock_L69 (nI b) (nI (10 * b)) (fun s12 => some s12) (n + 1) (nI (zq_st P nb sz b + zq_cb P nb sz b)) u = some u
    rw [zX_Values_beginBlock_L69, zc_ck hb16 (by decide), zc_ck hb16 (by decide), zc_cl (by omega), q.1.1 29 b (by decide) (by decide) (by decide) (by decide), q.1.1 30 b (by decide) (by decide) (by decide) (by decide), (hN.2.1 b hb16 hr).1, (hN.2.1 b hb16 hr).2, nI_add, if_pos (Int32.le_refl _)]) (fun n j u hj q => by
    obtain ⟨g1, g2⟩ := q
    show ∃ a', _ ∧ zX_Values_beginBlock_L69 (nI b) (nI (10 * b)) (fun s12 => some s12) (n + 1) (nI (zq_st P nb sz b + j)) u = zX_Values_beginBlock_L69 (nI b) (nI (10 * b)) (fun s12 => some s12) n (nI (zq_st P nb sz b + j + 1)) a'
    obtain ⟨v, hC⟩ := zq_inC (sz := sz) hr (show zq_st P nb sz b ≤ zq_st P nb sz b + j by omega) (by omega)
    have hst16 : zq_st P nb sz b + j < zq_st P nb sz 16 := Nat.lt_of_lt_of_le hC.lt' (zq_st_up (by omega))
    have e21 := (hN.1.2.1.2.1 _ b v hst16 hC).2.2.1
    rw [zX_Values_beginBlock_L69, zc_ck hb16 (by decide), zc_ck hb16 (by decide), zc_cl (by omega), g1.1 29 b (by decide) (by decide) (by decide) (by decide), g1.1 30 b (by decide) (by decide) (by decide) (by decide), (hN.2.1 b hb16 hr).1, (hN.2.1 b hb16 hr).2, nI_add, if_neg (by rw [nI_leI (by omega) (by omega)]; omega), zc_ck (show zq_st P nb sz b + j < 261 by omega) (by decide), zc_cl (show zq_st P nb sz b + j < 2 ^ 31 by omega), g1.1 21 _ (by decide) (by decide) (by decide) (by decide), e21, nI_add, zc_ck (show 10 * b + v < 160 by have := hC.2.1; omega) (by decide), zc_cl (show 10 * b + v < 2 ^ 31 by have := hC.2.1; omega), zc_ls, zc_lt, nI_1]
    refine ⟨_, ⟨g1.trans (zX_Kp.w32 b hC.2.1 _ u), fun w hw => ?_⟩, rfl⟩
    by_cases e : w = v
    · subst e
      rw [zs_eq]
      refine ⟨fun _ _ => by rw [hC.2.2.2], fun z => ?_⟩
      exact absurd ⟨hC.2.2.1, by rw [← hC.2.2.2]; omega⟩ z
    · rw [zs_ne (Or.inr (by omega))]
      have key : zq_HC P nb sz w b → (zq_ic P nb sz b w < zq_st P nb sz b + (j + 1) ↔ zq_ic P nb sz b w < zq_st P nb sz b + j) := fun hH => by
        have : zq_ic P nb sz b w ≠ zq_st P nb sz b + j := fun z => by
          have := (zq_isC.uniq (P := P) (nb := nb) (sz := sz) (i := zq_st P nb sz b + j) hC ⟨hr, hw, hH, z.symm⟩).2
          omega
        omega
      refine ⟨fun h1 h2 => (g2 w hw).1 h1 ((key h1).mp h2), fun z => (g2 w hw).2 (fun z2 => z ⟨z2.1, (key z2.1).mpr z2.2⟩)⟩) (n := 10000) (a := s1) ⟨a1, fun w hw => ⟨fun h1 h2 => by unfold zq_ic at h2; omega, fun _ => a2 w hw⟩⟩ (by omega)
  obtain ⟨s', ⟨b1, b2⟩, b3⟩ := this
  refine ⟨s', ⟨b1, fun v hv => ?_⟩, b3⟩
  rw [zq_Bg_eq hr]
  by_cases c1 : zp (zq_HC P nb sz v b) = true
  · rw [if_pos c1]
    have hH := zp_t.mp c1
    exact (b2 v hv).1 hH (zq_isC.lt (P := P) (nb := nb) (sz := sz) (b := b) (v := v) ⟨hr, hv, hH, rfl⟩).2
  · rw [if_neg c1]
    exact (b2 v hv).2 (fun z => c1 (zp_t.mpr z.1))
end XB
