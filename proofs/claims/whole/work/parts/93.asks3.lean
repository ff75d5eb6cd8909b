/-! PURE: emits, about, count -/
/-- the one that comes J-th among those with f -/
theorem zf_nth {R : Type} {L : Nat → Int32 → Int32 → Option R} {K : Nat → Option R} {E : Option R} (B N : Nat) (f : Nat → Bool) (J : Int32) (fin : ∀ n c, L (n + 1) (nI c) (nI (B + N)) = E) (miss : ∀ n c k, k < N → f k = false → L (n + 1) (nI c) (nI (B + k)) = L n (nI c) (nI (B + k + 1))) (hit : ∀ n c k, k < N → f k = true → nI c = J → L (n + 1) (nI c) (nI (B + k)) = K k) (pass : ∀ n c k, k < N → f k = true → ¬ nI c = J → L (n + 1) (nI c) (nI (B + k)) = L n (nI (c + 1)) (nI (B + k + 1))) {n : Nat} (hn : N < n) :
    (∃ k, k < N ∧ f k = true ∧ nI (zn f k) = J ∧ L n (nI 0) (nI B) = K k) ∨ ((∀ k, k < N → f k = true → ¬ nI (zn f k) = J) ∧ L n (nI 0) (nI B) = E) := by
  have := zf_loop (A := Nat × Nat) (L := fun n a => L n (nI a.1) (nI (B + a.2))) (Out := fun o => (∃ k, k < N ∧ f k = true ∧ nI (zn f k) = J ∧ o = K k) ∨ ((∀ k, k < N → f k = true → ¬ nI (zn f k) = J) ∧ o = E)) (Inv := fun m a => a.2 ≤ N ∧ m = N - a.2 ∧ a.1 = zn f a.2 ∧ ∀ k, k < a.2 → f k = true → ¬ nI (zn f k) = J) (fun n m a ha => by
    obtain ⟨c, k⟩ := a
    obtain ⟨h1, h2, h3, h4⟩ := ha
    dsimp only at h1 h2 h3 h4
    subst h3
    show ((∃ k', k' < N ∧ f k' = true ∧ nI (zn f k') = J ∧ L (n + 1) (nI (zn f k)) (nI (B + k)) = K k') ∨ ((∀ k, k < N → f k = true → ¬ nI (zn f k) = J) ∧ L (n + 1) (nI (zn f k)) (nI (B + k)) = E)) ∨ ∃ m', ∃ a' : Nat × Nat, m' < m ∧ (a'.2 ≤ N ∧ m' = N - a'.2 ∧ a'.1 = zn f a'.2 ∧ ∀ k, k < a'.2 → f k = true → ¬ nI (zn f k) = J) ∧ L (n + 1) (nI (zn f k)) (nI (B + k)) = L n (nI a'.1) (nI (B + a'.2))
    by_cases e : k = N
    · left; right
      rw [e]; rw [e] at h4
      exact ⟨h4, fin n _⟩
    · cases hf : f k with
      | false =>
        right
        refine ⟨N - (k + 1), (zn f k, k + 1), by omega, ⟨by show k + 1 ≤ N; omega, rfl, by show zn f k = zn f (k + 1); rw [zn_step, hf]; rfl, fun k' hk' hf' => ?_⟩, miss n _ k (by omega) hf⟩
        have hk' : k' < k + 1 := hk'
        by_cases e2 : k' = k
        · rw [e2, hf] at hf'; cases hf'
        · exact h4 k' (by omega) hf'
      | true =>
        by_cases hc : nI (zn f k) = J
        · left; left
          exact ⟨k, by omega, hf, hc, hit n _ k (by omega) hf hc⟩
        · right
          refine ⟨N - (k + 1), (zn f k + 1, k + 1), by omega, ⟨by show k + 1 ≤ N; omega, rfl, by show zn f k + 1 = zn f (k + 1); rw [zn_step, hf]; rfl, fun k' hk' hf' => ?_⟩, pass n _ k (by omega) hf hc⟩
          have hk' : k' < k + 1 := hk'
          by_cases e2 : k' = k
          · rw [e2]; exact hc
          · exact h4 k' (by omega) hf') n N (0, 0) ⟨Nat.zero_le _, rfl, rfl, fun k hk => absurd hk (Nat.not_lt_zero _)⟩ hn
  exact this
/-- counting those with f -/
theorem zf_cnt {R : Type} {L : Nat → Int32 → Int32 → Option R} {K : Int32 → Option R} (N : Nat) (f : Nat → Bool) (fin : ∀ n c, L (n + 1) c (nI N) = K c) (step : ∀ n c i, i < N → L (n + 1) (nI c) (nI i) = L n (nI (c + (if f i then 1 else 0))) (nI (i + 1))) {n : Nat} (hn : N < n) : L n 0 0 = K (nI (zn f N)) := by
  have := zf_for (A := Int32) (L := fun n i c => L n c i) (k := fun c => K c) N (fun i c => c = nI (zn f i)) (fun n c _ => fin n c) (fun n i c hi h => ⟨nI (zn f (i + 1)), rfl, by
    show L (n + 1) c (nI i) = L n (nI (zn f (i + 1))) (nI (i + 1))
    rw [h, step n _ i hi]; rfl⟩) (i := 0) (a := 0) (n := n) (Nat.zero_le _) nI_0.symm (by omega)
  rw [nI_0] at this
  obtain ⟨c, rfl, h⟩ := this
  exact h
section AB
variable {P : zx_S} {nb : Nat} {sz : Nat → Nat} {t : zc_Tb}
theorem zI_emits : zp_S13 zI := by
  rintro σ τ p q r ⟨P, nb, sz, t, h⟩ hr01
  have hW := h.1
  have hnb := hW.2.1
  obtain ⟨σ1, x1, x2, x3, hc⟩ := zI_one h p
  unfold zX_ValueBench_emits zM_ValueBenchModel_emits
  rw [x1, zc_b1]
  rcases hc with ⟨m1, r1⟩ | ⟨b, τ1, rfl, hb, m1, y1, y2, y3, e10, r1⟩
  · rw [m1, zc_b1, if_pos rfl, r1, zc_b1, if_pos rfl]; exact ⟨_, _, _, rfl, rfl, P, nb, sz, t, x3⟩
  · have hn : 0 < nb := by omega
    have ht := h.2.1 hn
    rw [m1, zc_b1, if_neg z10, y1, zc_b1, r1, zc_b1]
    simp only [zc_ck (show b < 16 by omega) (by decide), zc_cl (show b < 2 ^ 31 by omega), e10, zi_0]
    have hPi := x2.1.2
    have hsz := hW.2.2.1 b hb
    have htt := hPi.tot hW (b := b + 1)
    have e1 : zt sz (b + 1) = zt sz b + sz b := rfl
    -- the class's way
    have xw : zX_Program_nthEmit (nI b) q σ1 = zX_Program_nthEmit_L10 (nI b) q σ1 (fun v4_5 => some v4_5) 10000 (nI 0) (nI (zt sz b)) := by
      unfold zX_Program_nthEmit
      rw [zc_ck (show b < 17 by omega) (by decide), zc_cl (by omega), zc_lt, hPi.2.1 b (by omega), nI_0]
    have xn := zf_nth (L := fun n c i => zX_Program_nthEmit_L10 (nI b) q σ1 (fun v4_5 => some v4_5) n c i) (K := fun k => some (nI (zt sz b + k))) (E := some (-1)) (zt sz b) (sz b) (fun k => decide (P 1 (100 * b + k) = 14)) q (fun n c => by
      show zX_Program_nthEmit_L10 (nI b) q σ1 (fun v4_5 => some v4_5) (n + 1) (nI c) (nI (zt sz b + sz b)) = some (-1)
      rw [zX_Program_nthEmit_L10, nI_1, zc_ck (show b + 1 < 17 by omega) (by decide), zc_cl (by omega), hPi.2.1 (b + 1) (by omega), e1, if_pos (Int32.le_refl _)]) (fun n c k hk hf => by
      show zX_Program_nthEmit_L10 (nI b) q σ1 (fun v4_5 => some v4_5) (n + 1) (nI c) (nI (zt sz b + k)) = zX_Program_nthEmit_L10 (nI b) q σ1 (fun v4_5 => some v4_5) n (nI c) (nI (zt sz b + k + 1))
      have hbd := hPi.bnd hW hk
      rw [zX_Program_nthEmit_L10]
      simp only [nI_1, zc_ck (show b + 1 < 17 by omega) (by decide), zc_cl (show b + 1 < 2 ^ 31 by omega), hPi.2.1 (b + 1) (by omega), e1, zc_ck hbd.2 (by decide), zc_cl (show zt sz b + k < 2 ^ 31 by omega), (hPi.2.2 b k hb hk).1, zc_lt]
      rw [if_neg (by rw [nI_leI (by omega) (by omega)]; omega), if_neg (of_decide_eq_false hf)]) (fun n c k hk hf hc => by
      show zX_Program_nthEmit_L10 (nI b) q σ1 (fun v4_5 => some v4_5) (n + 1) (nI c) (nI (zt sz b + k)) = some (nI (zt sz b + k))
      have hbd := hPi.bnd hW hk
      rw [zX_Program_nthEmit_L10]
      simp only [nI_1, zc_ck (show b + 1 < 17 by omega) (by decide), zc_cl (show b + 1 < 2 ^ 31 by omega), hPi.2.1 (b + 1) (by omega), e1, zc_ck hbd.2 (by decide), zc_cl (show zt sz b + k < 2 ^ 31 by omega), (hPi.2.2 b k hb hk).1, zc_lt]
      rw [if_neg (by rw [nI_leI (by omega) (by omega)]; omega), if_pos (of_decide_eq_true hf), if_pos hc]) (fun n c k hk hf hc => by
      show zX_Program_nthEmit_L10 (nI b) q σ1 (fun v4_5 => some v4_5) (n + 1) (nI c) (nI (zt sz b + k)) = zX_Program_nthEmit_L10 (nI b) q σ1 (fun v4_5 => some v4_5) n (nI (c + 1)) (nI (zt sz b + k + 1))
      have hbd := hPi.bnd hW hk
      rw [zX_Program_nthEmit_L10]
      simp only [nI_1, zc_ck (show b + 1 < 17 by omega) (by decide), zc_cl (show b + 1 < 2 ^ 31 by omega), hPi.2.1 (b + 1) (by omega), e1, zc_ck hbd.2 (by decide), zc_cl (show zt sz b + k < 2 ^ 31 by omega), (hPi.2.2 b k hb hk).1, zc_lt]
      rw [if_neg (by rw [nI_leI (by omega) (by omega)]; omega), if_pos (of_decide_eq_true hf), if_neg hc]) (n := 10000) (by omega)
    by_cases c : zp (zq_rc P nb b) = false
    · rw [if_pos c, if_pos c]
      by_cases d : (0 : Int32) ≤ q
      · rw [if_pos d]; exact ⟨_, _, _, rfl, rfl, P, nb, sz, t, y3⟩
      · rw [if_neg d]; exact ⟨_, _, _, rfl, rfl, P, nb, sz, t, x3⟩
    · rw [if_neg c, if_neg c]
      have hr : zq_rc P nb b := zp_t.mp (by simpa using c)
      by_cases d : (0 : Int32) ≤ q
      · rw [if_pos d]
        have hP1 := y3.2.2.1.1
        have mn := zf_nth (L := fun n c i => zM_ValueBenchModel_emits_L35 (nI b) q r τ1 (fun v5_6 => zx_ck (((100 : Int32) * nI b) + v5_6) 1600 <| zx_b2 (zM_ValueBenchModel_readAt (nI b) v5_6 (τ1 2 ((((100 : Int32) * nI b) + v5_6)).toNatClampNeg) τ1) fun r7 s8 => if r = (0 : Int32) then some (r7, s8) else zx_b1 (zM_ValueBenchModel_leader r7 (nI b) v5_6 s8) fun r9 => some (r9, s8)) n c i) (K := fun k => zx_ck (((100 : Int32) * nI b) + nI k) 1600 <| zx_b2 (zM_ValueBenchModel_readAt (nI b) (nI k) (τ1 2 ((((100 : Int32) * nI b) + nI k)).toNatClampNeg) τ1) fun r7 s8 => if r = (0 : Int32) then some (r7, s8) else zx_b1 (zM_ValueBenchModel_leader r7 (nI b) (nI k) s8) fun r9 => some (r9, s8)) (E := some (-1, τ1)) 0 (sz b) (fun k => decide (P 1 (100 * b + k) = 14)) q (fun n c => by
          show zM_ValueBenchModel_emits_L35 (nI b) q r τ1 _ (n + 1) (nI c) (nI (0 + sz b)) = some (-1, τ1)
          rw [zM_ValueBenchModel_emits_L35, zc_ck (show b < 16 by omega) (by decide), zc_cl (by omega), hP1.at (by decide) (by decide), hsz.1, Nat.zero_add, if_pos (Int32.le_refl _)]) (fun n c k hk hf => by
          show zM_ValueBenchModel_emits_L35 (nI b) q r τ1 _ (n + 1) (nI c) (nI (0 + k)) = zM_ValueBenchModel_emits_L35 (nI b) q r τ1 _ n (nI c) (nI (0 + k + 1))
          have hs100 := hsz.2
          rw [zM_ValueBenchModel_emits_L35, Nat.zero_add]
          simp only [zc_ck (show b < 16 by omega) (by decide), zc_cl (show b < 2 ^ 31 by omega), hP1.at (c := 5) (by decide) (by decide), hsz.1, nI_100, zc_ck (show 100 * b + k < 1600 by omega) (by decide), zc_cl (show 100 * b + k < 2 ^ 31 by omega), hP1.at (c := 1) (by decide) (by decide), zc_lt, nI_1]
          rw [if_neg (by rw [nI_leI (by omega) (by omega)]; omega), if_neg (of_decide_eq_false hf)]) (fun n c k hk hf hc => by
          show zM_ValueBenchModel_emits_L35 (nI b) q r τ1 _ (n + 1) (nI c) (nI (0 + k)) = _
          have hs100 := hsz.2
          rw [zM_ValueBenchModel_emits_L35, Nat.zero_add, zc_ck (show b < 16 by omega) (by decide), zc_cl (show b < 2 ^ 31 by omega), hP1.at (c := 5) (by decide) (by decide), hsz.1, if_neg (by rw [nI_leI (by omega) (by omega)]; omega), nI_100, zc_ck (show 100 * b + k < 1600 by omega) (by decide), zc_cl (show 100 * b + k < 2 ^ 31 by omega), hP1.at (c := 1) (by decide) (by decide), if_pos (of_decide_eq_true hf), if_pos hc]) (fun n c k hk hf hc => by
          show zM_ValueBenchModel_emits_L35 (nI b) q r τ1 _ (n + 1) (nI c) (nI (0 + k)) = zM_ValueBenchModel_emits_L35 (nI b) q r τ1 _ n (nI (c + 1)) (nI (0 + k + 1))
          have hs100 := hsz.2
          rw [zM_ValueBenchModel_emits_L35, Nat.zero_add]
          simp only [zc_ck (show b < 16 by omega) (by decide), zc_cl (show b < 2 ^ 31 by omega), hP1.at (c := 5) (by decide) (by decide), hsz.1, nI_100, zc_ck (show 100 * b + k < 1600 by omega) (by decide), zc_cl (show 100 * b + k < 2 ^ 31 by omega), hP1.at (c := 1) (by decide) (by decide), zc_lt, nI_1]
          rw [if_neg (by rw [nI_leI (by omega) (by omega)]; omega), if_pos (of_decide_eq_true hf), if_neg hc]) (n := 10000) (by have := hsz.2; omega)
        rw [nI_0] at mn
        rcases xn with ⟨k, k1, k2, k3, k4⟩ | ⟨kn, k4⟩
        · rcases mn with ⟨k', j1, j2, j3, j4⟩ | ⟨jn, j4⟩
          · have ez : zn (fun k => decide (P 1 (100 * b + k) = 14)) k = zn (fun k => decide (P 1 (100 * b + k) = 14)) k' := by
              have l1 := zn_le (fun k => decide (P 1 (100 * b + k) = 14)) k
              have l2 := zn_le (fun k => decide (P 1 (100 * b + k) = 14)) k'
              have := hsz.2
              exact nI_inj (by omega) (by omega) (k3.trans j3.symm)
            have ek := zn_inj k2 j2 ez
            subst ek
            have h14 : P 1 (100 * b + k) = 14 := of_decide_eq_true k2
            have hs100 := hsz.2
            have hbd := hPi.bnd hW k1
            obtain ⟨-, xx1, xx2⟩ := hW.ins hb k1
            obtain ⟨xl, xe, -⟩ := x2.2.2.1 hn
            obtain ⟨τ2, t1, t2⟩ := zM_readAt_eq hW hn ht hP1 y2 hr (Nat.le_of_lt k1) xx2
            have y4 : zI_P P nb sz t σ1 τ2 := by
              obtain ⟨z1, z2, ⟨z3, z4, z5⟩, z6, z7⟩ := y3
              exact ⟨z1, z2, ⟨⟨by rw [t2 0 0 (by decide)]; exact z3.1, fun c h1 h2 => by funext i; rw [t2 c i (by omega), z3.2 c h1 h2]⟩, fun w => by
                rw [t2 0 11 (by decide)] at w
                exact (z4 w).keep (fun c i hc => t2 c i (by omega)), by rw [t2 0 1 (by decide)]; exact z5⟩, z6, z7.keep (fun _ _ _ => rfl) (fun c i hc => t2 c i (by omega))⟩
            have ca2 : zm_Ca P nb sz t τ2 := y2.keep (fun c i hc => t2 c i (by omega))
            have hM : zM_ValueBenchModel_emits_L35 (nI b) q r τ1 (fun v5_6 => zx_ck (((100 : Int32) * nI b) + v5_6) 1600 <| zx_b2 (zM_ValueBenchModel_readAt (nI b) v5_6 (τ1 2 ((((100 : Int32) * nI b) + v5_6)).toNatClampNeg) τ1) fun r7 s8 => if r = (0 : Int32) then some (r7, s8) else zx_b1 (zM_ValueBenchModel_leader r7 (nI b) v5_6 s8) fun r9 => some (r9, s8)) 10000 0 0 = some (nI (if r = 0 then zq_At P nb sz b k (zq_x P b k) else zq_Ld P nb t (zq_At P nb sz b k (zq_x P b k)) b), τ2) := by
              refine Eq.trans j4 ?_
              rw [nI_100, zc_ck (show 100 * b + k < 1600 by omega) (by decide), zc_cl (show 100 * b + k < 2 ^ 31 by omega), hP1.at (c := 2) (by decide) (by decide), xx1, t1, zc_b2]
              by_cases e : r = 0
              · rw [if_pos e, if_pos e]
              · have ah := zq_Ah.at hW hr (Nat.le_of_lt k1) xx2
                have aT : zq_At P nb sz b k (zq_x P b k) < zt_T t := by rw [ht.1]; exact ah.lt hn
                rw [if_neg e, if_neg e, zM_leader_eq hW hn ht ca2 hb aT (ah.hd hW hn ht ca2.2.2.1.2.2.1 hr (by omega)), zc_b1]
            rw [hM, xw, k4, zc_b1, if_neg (nI_nm1 (by omega))]
            simp only [zc_ck hbd.2 (by decide), zc_cl (show zt sz b + k < 2 ^ 31 by omega), (xl.1.2.1 b hr).2.1 k k1 h14, (xe.2.2.2 b hr).1 k k1 h14]
            by_cases e : r = 0
            · rw [if_pos e, if_pos e]; exact ⟨_, _, _, rfl, rfl, P, nb, sz, t, y4⟩
            · rw [if_neg e, if_neg e]; exact ⟨_, _, _, rfl, rfl, P, nb, sz, t, y4⟩
          · exact absurd k3 (jn k k1 k2)
        · rcases mn with ⟨k', j1, j2, j3, j4⟩ | ⟨jn, j4⟩
          · exact absurd j3 (kn k' j1 j2)
          · rw [xw, k4, zc_b1, if_pos rfl]
            exact ⟨_, _, _, rfl, j4, P, nb, sz, t, y3⟩
      · rw [if_neg d, xw]
        rcases xn with ⟨k, k1, k2, k3, k4⟩ | ⟨kn, k4⟩
        · exact absurd (by rw [← k3]; exact nI_pos' (by have := zn_le (fun k => decide (P 1 (100 * b + k) = 14)) k; have := hsz.2; omega)) d
        · rw [k4, zc_b1, if_pos rfl]; exact ⟨_, _, _, rfl, rfl, P, nb, sz, t, x3⟩
end AB
