def zX_0 : zx_S := fun c => match c with
  | 0 => fun i => match i with | 9 => 1 | _ => 0
  | 50 => fun i => match i with | 3 => 1000 | _ => 0
  | _ => fun _ => 0
def zX_e (cz : ClassId × ClassId) (q : Nat) (u : Nat → Nat) : va_W := [(q, .inr (9, [.ref (u 1), .ref (u 11), .ref (u 18), .ref (u 33), .ref (u 36), .ref (u 42), .ref (u 44), .ref (u 47), .ref (u 50), .int 1])), ((u 1), .inr (4, [.ref (u 2), .ref (u 3), .ref (u 4), .ref (u 5), .ref (u 6), .ref (u 7), .ref (u 8), .ref (u 9), .ref (u 10), .int 0])), ((u 2), .inl (cz.1, 17, .inl (fun _ => 0))), ((u 3), .inl (cz.1, 100, .inl (fun _ => 0))), ((u 4), .inl (cz.1, 100, .inl (fun _ => 0))), ((u 5), .inl (cz.1, 100, .inl (fun _ => 0))), ((u 6), .inl (cz.1, 100, .inl (fun _ => 0))), ((u 7), .inl (cz.1, 16, .inl (fun _ => 0))), ((u 8), .inl (cz.1, 16, .inl (fun _ => 0))), ((u 9), .inl (cz.1, 16, .inl (fun _ => 0))), ((u 10), .inl (cz.1, 16, .inl (fun _ => 0))), ((u 11), .inr (1, [.ref (u 12), .ref (u 13), .ref (u 14), .ref (u 15), .ref (u 16), .ref (u 17), .int 0])), ((u 12), .inl (cz.1, 16, .inl (fun _ => 0))), ((u 13), .inl (cz.1, 16, .inl (fun _ => 0))), ((u 14), .inl (cz.1, 16, .inl (fun _ => 0))), ((u 15), .inl (cz.1, 16, .inl (fun _ => 0))), ((u 16), .inl (cz.1, 16, .inl (fun _ => 0))), ((u 17), .inl (cz.1, 16, .inl (fun _ => 0))), ((u 18), .inr (8, [.ref (u 19), .ref (u 20), .ref (u 21), .ref (u 22), .ref (u 23), .ref (u 24), .ref (u 28), .ref (u 29), .ref (u 30), .ref (u 31), .ref (u 32), .int 0])), ((u 19), .inl (cz.1, 261, .inl (fun _ => 0))), ((u 20), .inl (cz.1, 261, .inl (fun _ => 0))), ((u 21), .inl (cz.1, 261, .inl (fun _ => 0))), ((u 22), .inl (cz.1, 261, .inl (fun _ => 0))), ((u 23), .inl (cz.1, 262, .inl (fun _ => 0))), ((u 24), .inr (5, [.ref (u 25), .ref (u 26), .ref (u 27)])), ((u 25), .inl (cz.1, 530, .inl (fun _ => 0))), ((u 26), .inl (cz.1, 100, .inl (fun _ => 0))), ((u 27), .inl (cz.1, 16, .inl (fun _ => 0))), ((u 28), .inl (cz.1, 100, .inl (fun _ => 0))), ((u 29), .inl (cz.1, 16, .inl (fun _ => 0))), ((u 30), .inl (cz.1, 16, .inl (fun _ => 0))), ((u 31), .inl (cz.1, 10, .inl (fun _ => 0))), ((u 32), .inl (cz.1, 160, .inl (fun _ => 0))), ((u 33), .inr (0, [.ref (u 34), .ref (u 35), .int 0])), ((u 34), .inl (cz.1, 261, .inl (fun _ => 0))), ((u 35), .inl (cz.1, 261, .inl (fun _ => 0))), ((u 36), .inr (2, [.ref (u 37), .ref (u 38), .int 0])), ((u 37), .inl (cz.2, 261, .inl (fun _ => 0))), ((u 38), .inr (5, [.ref (u 39), .ref (u 40), .ref (u 41)])), ((u 39), .inl (cz.1, 530, .inl (fun _ => 0))), ((u 40), .inl (cz.1, 100, .inl (fun _ => 0))), ((u 41), .inl (cz.1, 16, .inl (fun _ => 0))), ((u 42), .inr (6, [.ref (u 43), .ref (u 1)])), ((u 43), .inl (cz.1, 10, .inl (fun _ => 0))), ((u 44), .inr (7, [.ref (u 45), .ref (u 1), .ref (u 11), .ref (u 18), .null, .ref (u 24), .ref (u 46)])), ((u 45), .inl (cz.1, 261, .inl (fun _ => 0))), ((u 46), .inl (cz.1, 10, .inl (fun _ => 0))), ((u 47), .inr (7, [.ref (u 48), .ref (u 1), .ref (u 11), .ref (u 18), .ref (u 36), .ref (u 38), .ref (u 49)])), ((u 48), .inl (cz.1, 261, .inl (fun _ => 0))), ((u 49), .inl (cz.1, 10, .inl (fun _ => 0))), ((u 50), .inr (3, [.ref (u 1), .ref (u 51), .ref (u 52), .int 1000, .int 0, .int 0, .int 0, .int 0])), ((u 51), .inl (cz.1, 4, .inl (fun _ => 0))), ((u 52), .inl (cz.1, 60, .inl (fun _ => 0)))]
def zM_0 : zx_S := fun c => match c with
  | 0 => fun i => match i with | 34 => 1000 | _ => 0
  | _ => fun _ => 0
def zM_e (cz : ClassId × ClassId) (q : Nat) (u : Nat → Nat) : va_W := [(q, .inr (10, [.int 0, .int 0, .ref (u 1), .ref (u 2), .ref (u 3), .ref (u 4), .ref (u 5), .ref (u 6), .ref (u 7), .ref (u 8), .ref (u 9), .int 0, .ref (u 10), .ref (u 11), .ref (u 12), .ref (u 13), .ref (u 14), .ref (u 15), .int 0, .ref (u 16), .ref (u 17), .ref (u 18), .ref (u 19), .ref (u 20), .ref (u 21), .ref (u 22), .ref (u 23), .ref (u 24), .ref (u 25), .ref (u 26), .ref (u 27), .ref (u 28), .ref (u 29), .ref (u 30), .int 1000, .int 0, .int 0, .int 0, .int 0, .ref (u 31), .ref (u 32), .ref (u 33), .ref (u 34), .ref (u 35)])), ((u 1), .inl (cz.1, 1600, .inl (fun _ => 0))), ((u 2), .inl (cz.1, 1600, .inl (fun _ => 0))), ((u 3), .inl (cz.1, 1600, .inl (fun _ => 0))), ((u 4), .inl (cz.1, 1600, .inl (fun _ => 0))), ((u 5), .inl (cz.1, 16, .inl (fun _ => 0))), ((u 6), .inl (cz.1, 16, .inl (fun _ => 0))), ((u 7), .inl (cz.1, 16, .inl (fun _ => 0))), ((u 8), .inl (cz.1, 16, .inl (fun _ => 0))), ((u 9), .inl (cz.1, 16, .inl (fun _ => 0))), ((u 10), .inl (cz.2, 16, .inl (fun _ => 0))), ((u 11), .inl (cz.2, 16, .inl (fun _ => 0))), ((u 12), .inl (cz.2, 256, .inl (fun _ => 0))), ((u 13), .inl (cz.1, 16, .inl (fun _ => 0))), ((u 14), .inl (cz.2, 256, .inl (fun _ => 0))), ((u 15), .inl (cz.2, 160, .inl (fun _ => 0))), ((u 16), .inl (cz.1, 270, .inl (fun _ => 0))), ((u 17), .inl (cz.1, 270, .inl (fun _ => 0))), ((u 18), .inl (cz.1, 270, .inl (fun _ => 0))), ((u 19), .inl (cz.1, 270, .inl (fun _ => 0))), ((u 20), .inl (cz.1, 270, .inl (fun _ => 0))), ((u 21), .inl (cz.1, 5400, .inl (fun _ => 0))), ((u 22), .inl (cz.1, 270, .inl (fun _ => 0))), ((u 23), .inl (cz.1, 160, .inl (fun _ => 0))), ((u 24), .inl (cz.1, 1600, .inl (fun _ => 0))), ((u 25), .inl (cz.1, 160, .inl (fun _ => 0))), ((u 26), .inl (cz.1, 160, .inl (fun _ => 0))), ((u 27), .inl (cz.1, 10, .inl (fun _ => 0))), ((u 28), .inl (cz.1, 270, .inl (fun _ => 0))), ((u 29), .inl (cz.1, 270, .inl (fun _ => 0))), ((u 30), .inl (cz.2, 270, .inl (fun _ => 0))), ((u 31), .inl (cz.1, 60, .inl (fun _ => 0))), ((u 32), .inl (cz.1, 10, .inl (fun _ => 0))), ((u 33), .inl (cz.1, 270, .inl (fun _ => 0))), ((u 34), .inl (cz.1, 270, .inl (fun _ => 0))), ((u 35), .inl (cz.1, 4, .inl (fun _ => 0)))]
def zl_ad (q : Nat) (u : Nat → Nat) : Nat → Nat := fun k => match k with
  | 0 => q
  | k + 1 => u (k + 1)
set_option maxRecDepth 100000 in
theorem zX_e_w (cz : ClassId × ClassId) (q : Nat) (u : Nat → Nat) : zX_e cz q u = zx_w zX_sd cz (zl_ad q u) zX_0 := rfl
set_option maxRecDepth 100000 in
theorem zM_e_w (cz : ClassId × ClassId) (q : Nat) (u : Nat → Nat) : zM_e cz q u = zx_w zM_sd cz (zl_ad q u) zM_0 := rfl
theorem zl_P1 {D : va_G} {cl : List vw_C} {w1 w2 : va_W} {H : Heap} (h : va_P D cl (w1 ++ w2) H) : va_P D cl w1 H ∧ va_P D cl w2 H := by
  refine ⟨fun k q hk => h k q ?_, fun k q hk => h (w1.length + k) q ?_⟩
  · rw [List.getElem?_append_left (List.getElem?_eq_some_iff.mp hk).1]; exact hk
  · rw [List.getElem?_append_right (Nat.le_add_right _ _), Nat.add_sub_cancel_left]; exact hk
theorem zl_len (S : zx_D) (cz : ClassId × ClassId) (ad : Nat → Nat) (σ : zx_S) : (zx_w S cz ad σ).length = zd_N S := by simp [zx_w]
theorem zl_D1 {A : Nat → Prop} {S S2 : zx_D} {cz : ClassId × ClassId} {a1 a2 : Nat → Nat} {σ τ : zx_S} (h : va_D A (zx_w S cz a1 σ ++ zx_w S2 cz a2 τ)) : zx_I S a1 ∧ zx_I S2 a2 ∧ (∀ i, i < zd_N S → A (a1 i)) ∧ (∀ i, i < zd_N S2 → A (a2 i)) ∧ ∀ i j, i < zd_N S → j < zd_N S2 → a1 i ≠ a2 j := by
  have g1 : ∀ i, i < zd_N S → (zx_w S cz a1 σ ++ zx_w S2 cz a2 τ)[i]? = some (a1 i, zd_L S cz a1 i (σ i)) := fun i hi => by
    rw [List.getElem?_append_left (by rw [zl_len]; exact hi), zx_w_at hi]
  have g2 : ∀ i, i < zd_N S2 → (zx_w S cz a1 σ ++ zx_w S2 cz a2 τ)[zd_N S + i]? = some (a2 i, zd_L S2 cz a2 i (τ i)) := fun i hi => by
    rw [List.getElem?_append_right (by rw [zl_len]; omega), zl_len, Nat.add_sub_cancel_left, zx_w_at hi]
  refine ⟨fun i j hi hj e => h.1 i j _ _ (g1 i hi) (g1 j hj) e, fun i j hi hj e => ?_, fun i hi => h.2 i _ (g1 i hi), fun i hi => h.2 _ _ (g2 i hi), fun i j hi hj e => ?_⟩
  · have := h.1 _ _ _ _ (g2 i hi) (g2 j hj) e
    omega
  · have := h.1 _ _ _ _ (g1 i hi) (g2 j hj) e
    omega
theorem zl_arr {args : Array Value} {s : State} {ty : FieldType} (h : (Cond.arrayClass ty).before args s = true) : ∃ c k comp, s.vm.findClass ("[" ++ ty.toString) = some c ∧ s.vm.classes[c]? = some k ∧ k.kind = .array comp ty := Cond.arrayClass_spec h
set_option maxRecDepth 200000 in
set_option maxHeartbeats 4000000 in
/-- the law's start and loop, given what holds between the two worlds -/
theorem zl_whole {I : zx_S → zx_S → Prop} (hI0 : I zX_0 zM_0) (hp : zp_All I) {p : Program} {e : Env} {s : State} {m : MethodId} {below : List Frame} {meth : Method} {c : Code} (l : Launch) {b L : Nat} {xs : Nat → Int32} (hL : L ≤ 3072) (C0 : lw_At p s m meth c b L xs) : W p l e room_1 s m #[Value.ref b] below meth c s.heap [] 0 0 (lw_Z below #[Value.ref b] s) (entryFrame m ([Value.ref b] : List Value).toArray 4) := by
  obtain ⟨hx, hb, hr, hml, hown, hts, hX, hbl, hlocks, hgv⟩ := C0
  have hW : ∀ w ∈ zx_W, w.before #[Value.ref b] s = true := fun w h => hts w (List.mem_filter.mp h).1
  obtain ⟨c0, i0, k0⟩ := u_known (C := RX0) (T := TX0) (N := 3) (n := 3) hts zv_X0 (hW _ zw_277)
  obtain ⟨c1, i1, k1⟩ := u_known (C := RX2) (T := TX2) (N := 7) (n := 7) hts zv_X2 (hW _ zw_140)
  obtain ⟨c2, i2, k2⟩ := u_known (C := RX3) (T := TX3) (N := 3) (n := 3) hts zv_X3 (hW _ zw_296)
  obtain ⟨c3, i3, k3⟩ := u_known (C := RX4) (T := TX4) (N := 8) (n := 8) hts zv_X4 (hW _ zw_367)
  obtain ⟨c4, i4, k4⟩ := u_known (C := RX5) (T := TX5) (N := 10) (n := 10) hts zv_X5 (hW _ zw_86)
  obtain ⟨c5, i5, k5⟩ := u_known (C := RX6) (T := TX6) (N := 3) (n := 3) hts zv_X6 (hW _ zw_187)
  obtain ⟨c6, i6, k6⟩ := u_known (C := RX7) (T := TX7) (N := 2) (n := 2) hts zv_X7 (hW _ zw_320)
  obtain ⟨c7, i7, k7⟩ := u_known (C := RX8) (T := TX8) (N := 7) (n := 7) hts zv_X8 (hW _ zw_341)
  obtain ⟨c8, i8, k8⟩ := u_known (C := RX9) (T := TX9) (N := 12) (n := 12) hts zv_X9 (hW _ zw_181)
  obtain ⟨c9, i9, k9⟩ := u_known (C := RX10) (T := TX10) (N := 10) (n := 10) hts zv_X10 (hW _ zw_78)
  obtain ⟨c10, i10, k10⟩ := u_known (C := RX11) (T := TX11) (N := 44) (n := 44) hts zv_X11 (hW _ zw_849)
  obtain ⟨D, hKc⟩ : ∃ D : va_G, ∀ (k : Nat) (q : vw_C), zx_cl[k]? = some q → u_Kn s q.1 q.2.1 q.2.2 (D.1 k) (D.2 k) := by
    refine ⟨(fun k => if k = 0 then c0 else if k = 1 then c1 else if k = 2 then c2 else if k = 3 then c3 else if k = 4 then c4 else if k = 5 then c5 else if k = 6 then c6 else if k = 7 then c7 else if k = 8 then c8 else if k = 9 then c9 else c10, fun k => if k = 0 then i0 else if k = 1 then i1 else if k = 2 then i2 else if k = 3 then i3 else if k = 4 then i4 else if k = 5 then i5 else if k = 6 then i6 else if k = 7 then i7 else if k = 8 then i8 else if k = 9 then i9 else i10), ?_⟩
    intro k q hq
    match k, hq with
    | 0, hq => cases hq; exact k0
    | 1, hq => cases hq; exact k1
    | 2, hq => cases hq; exact k2
    | 3, hq => cases hq; exact k3
    | 4, hq => cases hq; exact k4
    | 5, hq => cases hq; exact k5
    | 6, hq => cases hq; exact k6
    | 7, hq => cases hq; exact k7
    | 8, hq => cases hq; exact k8
    | 9, hq => cases hq; exact k9
    | 10, hq => cases hq; exact k10
    | k + 11, hq => simp [zx_cl] at hq
  obtain ⟨cI, kI, mI, a1, a2, a3⟩ := zl_arr (hW _ zw_138)
  obtain ⟨cZ, kZ, mZ, b1, b2, b3⟩ := zl_arr (hW _ zw_318)
  have hK : va_K D zx_cl (zx_ty (cI, cZ)) s := by
    refine ⟨hKc, fun k q hk => ?_⟩
    match k, hk with
    | 0, hk => cases hk; exact ⟨fun n z => ⟨fun k h => (by cases h), kI, a2, mI, a3⟩, a1⟩
    | 1, hk => cases hk; exact ⟨fun n z => ⟨fun k h => (by cases h), kZ, b2, mZ, b3⟩, b1⟩
    | k + 2, hk => simp at hk
  have hN : ∀ w ∈ zx_N, va_Nw w s := fun w h => va_Nw.of (zx_N_ok w h).1 (hts w (zx_N_tbl w h))
  have C : zg_ok zX_sd (p, l, e, room_1, s, m, #[Value.ref b], below, meth, c, lw_Z below #[Value.ref b] s, D, (cI, cZ), fun k => k, s.heap) (fun q => s.heap.size ≤ q) code 4 "ValueBenchLaw" 10 356 600000 7302250 := ⟨⟨hx, hb, hml, hown, hW⟩, hK, hN, fun _ h => h, zX_So, ⟨Nat.le_refl _, Nat.le_refl _⟩, Nat.le_refl _, Nat.le_refl _⟩
  have hl := lv_entry ([.ref b]) (n := 4) (Nat.le_of_ble_eq_true rfl)
  rw [lg_entry_eq]
  have hgo : zG zX_sd (p, l, e, room_1, s, m, #[Value.ref b], below, meth, c, lw_Z below #[Value.ref b] s, D, (cI, cZ), fun k => k, s.heap) (fun q => s.heap.size ≤ q) 4 0 [(0, .ref b)] [] [] 0 0 := by
    refine zg_new C dL_law_0 (q := 3) (ci := 9) (fs := [.null, .null, .null, .null, .null, .null, .null, .null, .null, .int 0]) zu_X10 tyX10 tyX10_ok zw_77 zw_78 zw_62 rfl (fun j hj => by rcases (show j = 0 ∨ j = 1 ∨ j = 2 ∨ j = 3 ∨ j = 4 ∨ j = 5 ∨ j = 6 ∨ j = 7 ∨ j = 8 ∨ j = 9 by omega) with rfl | rfl | rfl | rfl | rfl | rfl | rfl | rfl | rfl | rfl <;> rfl) (by decide) (by decide) rfl (fun q0 => ?_)
    refine zg_dup C dL_law_3 (q := 4) rfl rfl ?_
    refine zg_init C (q := 7) (n := 0) (As := []) (rest := [.ref q0]) (wc := [(q0, .inr (9, [.null, .null, .null, .null, .null, .null, .null, .null, .null, .int 0]))]) (wr := []) dL_law_4 (zX_c0_X10 zX_So) ⟨zw_79, zw_80, zw_62, zw_81, rfl, by decide +kernel⟩ [0] [] rfl rfl rfl (by decide) (by decide) (by decide) ⟨by decide, by decide⟩ (by decide) (by decide) rfl (Nat.le_of_ble_eq_true rfl) rfl rfl (fun u0 => ?_)
    refine zg_ws (ws' := zX_e (cI, cZ) q0 u0) rfl ?_
    refine zg_astore_n C dL_law_7 (q := 8) rfl (by decide) (lv' := [(1, .ref q0), (0, .ref b)]) rfl rfl ?_
    refine zg_new C dL_law_8 (q := 11) (ci := 10) (fs := [.int 0, .int 0, .null, .null, .null, .null, .null, .null, .null, .null, .null, .int 0, .null, .null, .null, .null, .null, .null, .int 0, .null, .null, .null, .null, .null, .null, .null, .null, .null, .null, .null, .null, .null, .null, .null, .int 0, .int 0, .int 0, .int 0, .int 0, .null, .null, .null, .null, .null]) zu_X11 tyX11 tyX11_ok zw_848 zw_849 zw_73 rfl (fun j hj => by rcases (show j = 0 ∨ j = 1 ∨ j = 2 ∨ j = 3 ∨ j = 4 ∨ j = 5 ∨ j = 6 ∨ j = 7 ∨ j = 8 ∨ j = 9 ∨ j = 10 ∨ j = 11 ∨ j = 12 ∨ j = 13 ∨ j = 14 ∨ j = 15 ∨ j = 16 ∨ j = 17 ∨ j = 18 ∨ j = 19 ∨ j = 20 ∨ j = 21 ∨ j = 22 ∨ j = 23 ∨ j = 24 ∨ j = 25 ∨ j = 26 ∨ j = 27 ∨ j = 28 ∨ j = 29 ∨ j = 30 ∨ j = 31 ∨ j = 32 ∨ j = 33 ∨ j = 34 ∨ j = 35 ∨ j = 36 ∨ j = 37 ∨ j = 38 ∨ j = 39 ∨ j = 40 ∨ j = 41 ∨ j = 42 ∨ j = 43 by omega) with rfl | rfl | rfl | rfl | rfl | rfl | rfl | rfl | rfl | rfl | rfl | rfl | rfl | rfl | rfl | rfl | rfl | rfl | rfl | rfl | rfl | rfl | rfl | rfl | rfl | rfl | rfl | rfl | rfl | rfl | rfl | rfl | rfl | rfl | rfl | rfl | rfl | rfl | rfl | rfl | rfl | rfl | rfl | rfl <;> rfl) (by decide) (by decide) rfl (fun q1 => ?_)
    refine zg_dup C dL_law_11 (q := 12) rfl rfl ?_
    refine zg_init C (q := 15) (n := 0) (As := []) (rest := [.ref q1]) (wc := [(q1, .inr (10, [.int 0, .int 0, .null, .null, .null, .null, .null, .null, .null, .null, .null, .int 0, .null, .null, .null, .null, .null, .null, .int 0, .null, .null, .null, .null, .null, .null, .null, .null, .null, .null, .null, .null, .null, .null, .null, .int 0, .int 0, .int 0, .int 0, .int 0, .null, .null, .null, .null, .null]))]) (wr := (zX_e (cI, cZ) q0 u0)) dL_law_12 (zM_c0_X11 zX_So) ⟨zw_850, zw_851, zw_73, zw_852, rfl, by decide +kernel⟩ [53] [0, 1, 2, 3, 4, 5, 6, 7, 8, 9, 10, 11, 12, 13, 14, 15, 16, 17, 18, 19, 20, 21, 22, 23, 24, 25, 26, 27, 28, 29, 30, 31, 32, 33, 34, 35, 36, 37, 38, 39, 40, 41, 42, 43, 44, 45, 46, 47, 48, 49, 50, 51, 52] rfl rfl rfl (by decide) (by decide) (by decide) ⟨by decide, by decide⟩ (by decide) (by decide) rfl (Nat.le_of_ble_eq_true rfl) rfl rfl (fun u1 => ?_)
    refine zg_ws (ws' := zx_w zX_sd (cI, cZ) (zl_ad q0 u0) zX_0 ++ zx_w zM_sd (cI, cZ) (zl_ad q1 u1) zM_0) (by rw [← zX_e_w, ← zM_e_w]; rfl) ?_
    refine zg_astore_n C dL_law_15 (q := 16) rfl (by decide) (lv' := [(2, .ref q1), (1, .ref q0), (0, .ref b)]) rfl rfl ?_
    refine zg_iconst C dL_law_16 (q := 17) (v := (0 : Int32)) (by decide) rfl ?_
    refine zg_istore_n C dL_law_17 (q := 18) rfl (by decide) (lv' := [(3, .int 0), (2, .ref q1), (1, .ref q0), (0, .ref b)]) rfl rfl ?_
    intro H locs ls hP hD hS hl
    obtain ⟨hP1, hP2⟩ := zl_P1 hP
    obtain ⟨d1, d2, d3, d4, d5⟩ := zl_D1 hD
    have C1 : zl_ok (p, l, e, room_1, s, m, #[Value.ref b], below, meth, c, lw_Z below #[Value.ref b] s, D, (cI, cZ), zl_ad q0 u0, s.heap) (zl_ad q1 u1) b L xs := ⟨⟨hx, hb, hml, hown, hW⟩, hK, hN, ⟨d1, d2⟩, ⟨d3, d4⟩, d5, ⟨hX, hbl⟩, rfl, rfl⟩
    have he : ∀ (H : Heap) (ls : Array Slot), W p l e room_1 s m #[Value.ref b] below meth c H [] 600000 7302250 (lw_Z below #[Value.ref b] s) (F0 m 800 ls [.int 1]) := fun H ls => lw_ret hx hb hr hlocks dL_law_800
    exact zl_loop C1 hL hp he (L + 7) 0 zX_0 zM_0 (by omega) (by omega) hI0 H locs ls hP1 hP2 hS (lv_sub hl [3, 2, 1, 0] rfl)
  exact hgo s.heap [] _ (fun k q h => by simp at h) ⟨fun i j p q h => by simp at h, fun k q h => by simp at h⟩ va_S.rf hl
