/-! the law: two worlds, the script, and its own numbers -/
def zL (Z : zx_Z) (aM : Nat → Nat) (pc : Nat) (lv : List (Nat × Value)) (st : List Value) (σ τ : zx_S) : Prop :=
  ∀ (H : Heap) (locs : List Loc) (ls : Array Slot), va_P (zz_D Z) zx_cl (zx_w zX_sd (zz_z Z) (zz_d Z) σ) H → va_P (zz_D Z) zx_cl (zx_w zM_sd (zz_z Z) aM τ) H → va_S (fun q => (zz_H Z).size ≤ q) (zz_H Z) H locs → lv_has ls 4 lv → W (zz_p Z) (zz_l Z) (zz_e Z) (zz_R Z) (zz_s Z) (zz_m Z) (zz_a Z) (zz_b Z) (zz_t Z) (zz_c Z) H locs 89 22729 (zz_Q Z) (F0 (zz_m Z) pc ls st)
abbrev zl_ok (Z : zx_Z) (aM : Nat → Nat) (b L : Nat) (xs : Nat → Int32) : Prop :=
  CallFix (zz_p Z) (zz_m Z) (zz_c Z) code 4 (zz_s Z) (zz_a Z) zx_W "ValueBenchLaw" ∧ va_K (zz_D Z) zx_cl (zx_ty (zz_z Z)) (zz_s Z) ∧ (∀ w ∈ zx_N, va_Nw w (zz_s Z)) ∧ (zx_I zX_sd (zz_d Z) ∧ zx_I zM_sd aM) ∧ ((∀ i, i < zd_N zX_sd → (zz_H Z).size ≤ zz_d Z i) ∧ (∀ i, i < zd_N zM_sd → (zz_H Z).size ≤ aM i)) ∧ (∀ i j, i < zd_N zX_sd → j < zd_N zM_sd → zz_d Z i ≠ aM j) ∧ (va_X b L xs (zz_s Z) (zz_H Z) ∧ b < (zz_H Z).size) ∧ zz_R Z = room_1 ∧ zz_H Z = (zz_s Z).heap
section ZL
variable {Z : zx_Z} {aM : Nat → Nat} {b L : Nat} {xs : Nat → Int32} {pc q : Nat} {lv lv' : List (Nat × Value)} {rest st : List Value} {σ τ σ1 τ1 : zx_S}
theorem zl_sub (ks : List Nat) (hl : lv_pick lv ks = lv') (h : zL Z aM pc lv' st σ τ) : zL Z aM pc lv st σ τ := fun H locs ls h1 h2 h3 hv => h H locs ls h1 h2 h3 (lv_sub hv ks hl)
theorem zl_iconst (C : zl_ok Z aM b L xs) {n : Int} {v : Int32} (d : decode code pc = .ok (.iconst n, 1)) (hv : Int32.ofInt n = v) (hq : pc + 1 = q) (k : zL Z aM q lv (.int v :: st) σ τ) : zL Z aM pc lv st σ τ := by
  subst hq
  exact fun H locs ls h1 h2 h3 hl => lv_iconst C.1.1 C.1.2.1 d hv (k H locs ls h1 h2 h3 hl)
theorem zl_bipush (C : zl_ok Z aM b L xs) {n : Int} {v : Int32} (d : decode code pc = .ok (.bipush n, 2)) (hv : (Int8.ofInt n).toInt32 = v) (hq : pc + 2 = q) (k : zL Z aM q lv (.int v :: st) σ τ) : zL Z aM pc lv st σ τ := by
  subst hq
  exact fun H locs ls h1 h2 h3 hl => lv_bipush C.1.1 C.1.2.1 d hv (k H locs ls h1 h2 h3 hl)
theorem zl_iload_n (C : zl_ok Z aM b L xs) {n : Fin 4} {i : Nat} {x : Int32} (d : decode code pc = .ok (.iload_n n, 1)) (hi : (n : Nat) = i) (j : Nat) (hj : lv[j]? = some (i, .int x)) (hq : pc + 1 = q) (k : zL Z aM q lv (.int x :: st) σ τ) : zL Z aM pc lv st σ τ := by
  subst hq
  exact fun H locs ls h1 h2 h3 hl => lv_iload_n C.1.1 C.1.2.1 d hi (lv_at hl j hj) (k H locs ls h1 h2 h3 hl)
theorem zl_aload_n (C : zl_ok Z aM b L xs) {n : Fin 4} {i : Nat} {x : Nat} (d : decode code pc = .ok (.aload_n n, 1)) (hi : (n : Nat) = i) (j : Nat) (hj : lv[j]? = some (i, .ref x)) (hq : pc + 1 = q) (k : zL Z aM q lv (.ref x :: st) σ τ) : zL Z aM pc lv st σ τ := by
  subst hq
  exact fun H locs ls h1 h2 h3 hl => lv_aload_n C.1.1 C.1.2.1 d hi (lv_at hl j hj) (k H locs ls h1 h2 h3 hl)
theorem zl_iadd (C : zl_ok Z aM b L xs) {x y : Int32} (d : decode code pc = .ok (.iadd, 1)) (hq : pc + 1 = q) (k : zL Z aM q lv (.int (x + y) :: st) σ τ) : zL Z aM pc lv (.int y :: .int x :: st) σ τ := by
  subst hq
  exact fun H locs ls h1 h2 h3 hl => lv_iadd C.1.1 C.1.2.1 d (k H locs ls h1 h2 h3 hl)
theorem zl_isub (C : zl_ok Z aM b L xs) {x y : Int32} (d : decode code pc = .ok (.isub, 1)) (hq : pc + 1 = q) (k : zL Z aM q lv (.int (x - y) :: st) σ τ) : zL Z aM pc lv (.int y :: .int x :: st) σ τ := by
  subst hq
  exact fun H locs ls h1 h2 h3 hl => lv_isub C.1.1 C.1.2.1 d (k H locs ls h1 h2 h3 hl)
theorem zl_iand (C : zl_ok Z aM b L xs) {x y : Int32} (d : decode code pc = .ok (.iand, 1)) (hq : pc + 1 = q) (k : zL Z aM q lv (.int (x &&& y) :: st) σ τ) : zL Z aM pc lv (.int y :: .int x :: st) σ τ := by
  subst hq
  exact fun H locs ls h1 h2 h3 hl => lv_iand C.1.1 C.1.2.1 d (k H locs ls h1 h2 h3 hl)
theorem zl_sld (C : zl_ok Z aM b L xs) {i : Int32} (d : decode code pc = .ok (.iaload, 1)) (hin : vp_in i L) (hq : pc + 1 = q) (k : zL Z aM q lv (.int (xs i.toNatClampNeg) :: st) σ τ) : zL Z aM pc lv (.int i :: .ref b :: st) σ τ := by
  subst hq
  exact fun H locs ls h1 h2 h3 hl => va_sld C.1.1 C.1.2.1 C.2.2.2.2.2.2.1.1 C.2.2.2.2.2.2.1.2 (Nat.not_le.mpr C.2.2.2.2.2.2.1.2) h3 hin d (k H locs ls h1 h2 h3 hl)
theorem zl_slen (C : zl_ok Z aM b L xs) (d : decode code pc = .ok (.arraylength, 1)) (hq : pc + 1 = q) (k : zL Z aM q lv (.int (nI L) :: st) σ τ) : zL Z aM pc lv (.ref b :: st) σ τ := by
  subst hq
  exact fun H locs ls h1 h2 h3 hl => va_slen C.1.1 C.1.2.1 C.2.2.2.2.2.2.1.1 C.2.2.2.2.2.2.1.2 (Nat.not_le.mpr C.2.2.2.2.2.2.1.2) h3 d (k H locs ls h1 h2 h3 hl)
theorem zl_gt (C : zl_ok Z aM b L xs) {x y : Int32} {off : Int} {tgt : Nat} (d : decode code pc = .ok (.if_icmp .gt off, 3)) (ht : (pc : Int) + off = (tgt : Int)) (hq : pc + 3 = q) (kt : y < x → zL Z aM tgt lv st σ τ) (kf : ¬ y < x → zL Z aM q lv st σ τ) : zL Z aM pc lv (.int y :: .int x :: st) σ τ := by
  subst hq
  exact fun H locs ls h1 h2 h3 hl => lv_icmp_gt C.1.1 C.1.2.1 d ht (fun c => kt c H locs ls h1 h2 h3 hl) (fun c => kf c H locs ls h1 h2 h3 hl)
theorem zl_eq (C : zl_ok Z aM b L xs) {x : Int32} {off : Int} {tgt : Nat} (d : decode code pc = .ok (.if_icmp .eq off, 3)) (ht : (pc : Int) + off = (tgt : Int)) (kt : zL Z aM tgt lv st σ τ) : zL Z aM pc lv (.int x :: .int x :: st) σ τ :=
  fun H locs ls h1 h2 h3 hl => lv_icmp_eq C.1.1 C.1.2.1 d ht (fun _ => kt H locs ls h1 h2 h3 hl) (fun c => absurd rfl c)
theorem zl_ift (C : zl_ok Z aM b L xs) {x : Int32} {off : Int} {tgt : Nat} (d : decode code pc = .ok (.ifCond .eq off, 3)) (hx : x = 0) (ht : (pc : Int) + off = (tgt : Int)) (kt : zL Z aM tgt lv st σ τ) : zL Z aM pc lv (.int x :: st) σ τ :=
  fun H locs ls h1 h2 h3 hl => lv_if_eq C.1.1 C.1.2.1 d ht (fun _ => kt H locs ls h1 h2 h3 hl) (fun c => absurd hx c)
theorem zl_iff (C : zl_ok Z aM b L xs) {x : Int32} {off : Int} {tgt : Nat} (d : decode code pc = .ok (.ifCond .eq off, 3)) (hx : ¬ x = 0) (ht : (pc : Int) + off = (tgt : Int)) (hq : pc + 3 = q) (kf : zL Z aM q lv st σ τ) : zL Z aM pc lv (.int x :: st) σ τ := by
  subst hq
  exact fun H locs ls h1 h2 h3 hl => lv_if_eq C.1.1 C.1.2.1 d ht (fun c => absurd c hx) (fun _ => kf H locs ls h1 h2 h3 hl)
theorem zl_goto (C : zl_ok Z aM b L xs) {off : Int} (d : decode code pc = .ok (.goto off, 3)) (hq : (pc : Int) + off = (q : Int)) (k : zL Z aM q lv st σ τ) : zL Z aM pc lv st σ τ :=
  fun H locs ls h1 h2 h3 hl => lv_goto C.1.1 C.1.2.1 d hq (k H locs ls h1 h2 h3 hl)
theorem zl_iinc (C : zl_ok Z aM b L xs) {i : Nat} {n : Int} {x v : Int32} (d : decode code pc = .ok (.iinc i n, 3)) (j : Nat) (hj : lv[j]? = some (i, .int x)) (hv : x + Int32.ofInt n = v) (hn : i < 4) (hl' : (i, Value.int v) :: lv.filter (zr_f i) = lv') (hq : pc + 3 = q) (k : zL Z aM q lv' st σ τ) : zL Z aM pc lv st σ τ := by
  subst hq
  exact fun H locs ls h1 h2 h3 hl => lv_iinc C.1.1 C.1.2.1 d hl hj hv hn hl' (fun ls' h' => k H locs ls' h1 h2 h3 h')
theorem zl_tableOut (C : zl_ok Z aM b L xs) {dflt lw hi : Int} {offs : Array Int} {len : Nat} {x : Int32} {tgt : Nat} (d : decode code pc = .ok (.tableswitch dflt lw hi offs, len)) (h : x.toInt < lw ∨ hi < x.toInt) (ht : (pc : Int) + dflt = (tgt : Int)) (k : zL Z aM tgt lv st σ τ) : zL Z aM pc lv (.int x :: st) σ τ :=
  fun H locs ls h1 h2 h3 hl => lv_tableOut C.1.1 C.1.2.1 d h ht (k H locs ls h1 h2 h3 hl)
theorem zl_tableIn (C : zl_ok Z aM b L xs) {dflt lw hi : Int} {offs : Array Int} {len : Nat} {x : Int32} {off : Int} {tgt : Nat} (d : decode code pc = .ok (.tableswitch dflt lw hi offs, len)) (h1 : ¬ x.toInt < lw) (h2 : ¬ hi < x.toInt) (ho : offs[(x.toInt - lw).toNat]? = some off) (ht : (pc : Int) + off = (tgt : Int)) (k : zL Z aM tgt lv st σ τ) : zL Z aM pc lv (.int x :: st) σ τ :=
  fun H locs ls g1 g2 g3 hl => lv_tableIn C.1.1 C.1.2.1 d h1 h2 ho ht (k H locs ls g1 g2 g3 hl)
theorem zl_keep {S : zx_D} {D : va_G} {cz : ClassId × ClassId} {ad a2 : Nat → Nat} {S2 : zx_D} {ρ : zx_S} {H H1 : Heap} (hP : va_P D zx_cl (zx_w S cz ad ρ) H) (hd : ∀ i j, i < zd_N S → j < zd_N S2 → ad i ≠ a2 j) (hk : ∀ q : Nat, q < H.size → ¬ zx_A S2 a2 q → H1[q]? = H[q]?) : va_P D zx_cl (zx_w S cz ad ρ) H1 := by
  refine hP.kept (fun k q hq => hk q.1 (hP k q hq).lt ?_)
  obtain ⟨h1, rfl⟩ := zx_w_inv hq
  rintro ⟨j, h2, h3⟩
  exact hd k j h1 h2 h3
theorem zl_blind {S : zx_D} (hS : zx_So S) {D : va_G} {cz : ClassId × ClassId} {ad : Nat → Nat} {av : List Value} {ρ : zx_S} : FrameBlind (va_Pc av (zx_B S D cz ad ρ)) := zx_blind hS
theorem zl_X (C : zl_ok Z aM b L xs) {y : MethodName} {cy : ByteArray} {ny f2 l2 idx n : Nat} {As : List Value} {ty : FieldType} {v : Int32} (d : decode code pc = .ok (.invokevirtual idx, 3)) (hM : zx_MI zX_sd (zz_l Z) (zz_D Z) (zz_z Z) (zz_d Z) y cy ny ty f2 l2 (.ref (zz_d Z 0) :: As) σ v σ1) (hw : zx_vw zX_sd "ValueBenchLaw" idx y cy ny (some ty) n) (hk : zx_oc zX_sd 0 y.cls) (hf : f2 + 1 ≤ 10 ∧ 8 + (ny + 11) + l2 ≤ 356) (hn : As.length = n) (hr : (rest.map fun v => v.category).sum ≤ 8) (hst : st = As.reverse ++ .ref (zz_d Z 0) :: rest) (hq : pc + 3 = q) (kk : zL Z aM q lv (.int v :: rest) σ1 τ) : zL Z aM pc lv st σ τ := by
  subst hq
  intro H locs ls h1 h2 h3 hl
  have hts := C.1.2.2.2.2
  have hR := C.2.2.2.2.2.2.2.1
  obtain ⟨w1, w2, w3, w4, w5, w6⟩ := hw
  obtain ⟨k0, ci, T, N, k2, k3⟩ := hk
  obtain ⟨fs, k4⟩ := k3 (zz_z Z) (zz_d Z) (σ 0)
  refine va_calli (va_runV (As := As) (rest := rest) C.1 hM ⟨callB_of n hts (zx_gc zX_So w5) rfl rfl rfl (hts _ w4) (hts _ w1) w6 ⟨by rw [hR]; exact hf.1, by rw [hR]; exact hf.2⟩, hts _ w2, hts _ w3⟩ ⟨zx_blind zX_So, va_recv C.2.1 h1 k2 (by rw [zx_w_at k0, k4]), fun U hU hW => ⟨rfl, by rw [hU]; exact h1, va_K.moved hW.alike C.2.1, fun w hw => (zX_So.2 w hw).2 _ _ hW (C.2.2.1 w hw)⟩⟩ rfl hn hl.1 hst (lv_room hr) d ⟨by rw [hR]; exact Nat.le_of_ble_eq_true rfl, by rw [hR]; exact Nat.le_of_ble_eq_true rfl⟩) h3 (fun q _ h => ?_) (fun q h => ?_) (fun r u t H1 locs1 ht hvm hw hB hz hk1 hS1 => ?_)
  · obtain ⟨i, hi, rfl⟩ := h
    exact C.2.2.2.2.1.1 i hi
  · obtain ⟨i, hi, rfl⟩ := h
    exact C.2.2.2.2.1.1 i hi
  · obtain ⟨rfl, rfl⟩ := hw
    exact kk H1 locs1 ls (by rw [← ht]; exact hB.1) (zl_keep h2 (fun i j hi hj e => C.2.2.2.2.2.1 j i hj hi e.symm) hk1) hS1 hl
theorem zl_M (C : zl_ok Z aM b L xs) {y : MethodName} {cy : ByteArray} {ny f2 l2 idx n : Nat} {As : List Value} {ty : FieldType} {v : Int32} (d : decode code pc = .ok (.invokevirtual idx, 3)) (hM : zx_MI zM_sd (zz_l Z) (zz_D Z) (zz_z Z) aM y cy ny ty f2 l2 (.ref (aM 0) :: As) τ v τ1) (hw : zx_vw zM_sd "ValueBenchLaw" idx y cy ny (some ty) n) (hk : zx_oc zM_sd 0 y.cls) (hf : f2 + 1 ≤ 10 ∧ 8 + (ny + 11) + l2 ≤ 356) (hn : As.length = n) (hr : (rest.map fun v => v.category).sum ≤ 8) (hst : st = As.reverse ++ .ref (aM 0) :: rest) (hq : pc + 3 = q) (kk : zL Z aM q lv (.int v :: rest) σ τ1) : zL Z aM pc lv st σ τ := by
  subst hq
  intro H locs ls h1 h2 h3 hl
  have hts := C.1.2.2.2.2
  have hR := C.2.2.2.2.2.2.2.1
  obtain ⟨w1, w2, w3, w4, w5, w6⟩ := hw
  obtain ⟨k0, ci, T, N, k2, k3⟩ := hk
  obtain ⟨fs, k4⟩ := k3 (zz_z Z) aM (τ 0)
  refine va_calli (va_runV (As := As) (rest := rest) C.1 hM ⟨callB_of n hts (zx_gc zM_So w5) rfl rfl rfl (hts _ w4) (hts _ w1) w6 ⟨by rw [hR]; exact hf.1, by rw [hR]; exact hf.2⟩, hts _ w2, hts _ w3⟩ ⟨zx_blind zM_So, va_recv C.2.1 h2 k2 (by rw [zx_w_at k0, k4]), fun U hU hW => ⟨rfl, by rw [hU]; exact h2, va_K.moved hW.alike C.2.1, fun w hw => (zM_So.2 w hw).2 _ _ hW (C.2.2.1 w hw)⟩⟩ rfl hn hl.1 hst (lv_room hr) d ⟨by rw [hR]; exact Nat.le_of_ble_eq_true rfl, by rw [hR]; exact Nat.le_of_ble_eq_true rfl⟩) h3 (fun q _ h => ?_) (fun q h => ?_) (fun r u t H1 locs1 ht hvm hw hB hz hk1 hS1 => ?_)
  · obtain ⟨i, hi, rfl⟩ := h
    exact C.2.2.2.2.1.2 i hi
  · obtain ⟨i, hi, rfl⟩ := h
    exact C.2.2.2.2.1.2 i hi
  · obtain ⟨rfl, rfl⟩ := hw
    exact kk H1 locs1 ls (zl_keep h1 (fun i j hi hj e => C.2.2.2.2.2.1 i j hi hj e) hk1) (by rw [← ht]; exact hB.1) hS1 hl
end ZL
theorem zl_idx {i j L : Nat} (h : i + 6 ≤ L) (hL : L ≤ 3072) (hj : j < 6) {y : Int32} (hy : y = nI j) : vp_in (nI i + y) L := by
  rw [hy, nI_add]
  exact vp_in_nI (by omega) (by omega)
theorem nI_at_1 (i L : Nat) (h : i + 6 ≤ L) (hL : L ≤ 3072) : (nI i + (1 : Int32)).toNatClampNeg = i + 1 := by
  rw [show (1 : Int32) = nI 1 by decide, nI_add, nI_clamp (by omega)]
theorem nI_at_2 (i L : Nat) (h : i + 6 ≤ L) (hL : L ≤ 3072) : (nI i + (2 : Int32)).toNatClampNeg = i + 2 := by
  rw [show (2 : Int32) = nI 2 by decide, nI_add, nI_clamp (by omega)]
theorem nI_at_3 (i L : Nat) (h : i + 6 ≤ L) (hL : L ≤ 3072) : (nI i + (3 : Int32)).toNatClampNeg = i + 3 := by
  rw [show (3 : Int32) = nI 3 by decide, nI_add, nI_clamp (by omega)]
theorem nI_at_4 (i L : Nat) (h : i + 6 ≤ L) (hL : L ≤ 3072) : (nI i + (4 : Int32)).toNatClampNeg = i + 4 := by
  rw [show (4 : Int32) = nI 4 by decide, nI_add, nI_clamp (by omega)]
theorem nI_at_5 (i L : Nat) (h : i + 6 ≤ L) (hL : L ≤ 3072) : (nI i + (5 : Int32)).toNatClampNeg = i + 5 := by
  rw [show (5 : Int32) = nI 5 by decide, nI_add, nI_clamp (by omega)]
def zp_S0 (I : zx_S → zx_S → Prop) : Prop := ∀ (σ τ : zx_S), I σ τ → ∃ (v : Int32) (σ1 : zx_S) (τ1 : zx_S), zX_ValueBench_block σ = some (v, σ1) ∧ zM_ValueBenchModel_block τ = some (v, τ1) ∧ I σ1 τ1
def zp_S1 (I : zx_S → zx_S → Prop) : Prop := ∀ (σ τ : zx_S) (p0 p1 p2 p3 p4 : Int32), I σ τ → ∃ (v : Int32) (σ1 : zx_S) (τ1 : zx_S), zX_ValueBench_put p0 p1 p2 p3 p4 σ = some (v, σ1) ∧ zM_ValueBenchModel_put p0 p1 p2 p3 p4 τ = some (v, τ1) ∧ I σ1 τ1
def zp_S2 (I : zx_S → zx_S → Prop) : Prop := ∀ (σ τ : zx_S) (p0 p1 p2 p3 p4 : Int32), I σ τ → ∃ (v : Int32) (σ1 : zx_S) (τ1 : zx_S), zX_ValueBench_ends p0 p1 p2 p3 p4 σ = some (v, σ1) ∧ zM_ValueBenchModel_ends p0 p1 p2 p3 p4 τ = some (v, τ1) ∧ I σ1 τ1
def zp_S3 (I : zx_S → zx_S → Prop) : Prop := ∀ (σ τ : zx_S), I σ τ → ∃ (v : Int32) (σ1 : zx_S) (τ1 : zx_S), zX_ValueBench_clear σ = some (v, σ1) ∧ zM_ValueBenchModel_clear τ = some (v, τ1) ∧ I σ1 τ1
def zp_S4 (I : zx_S → zx_S → Prop) : Prop := ∀ (σ τ : zx_S) (p0 p1 : Int32), I σ τ → ∃ (v : Int32) (σ1 : zx_S) (τ1 : zx_S), zX_ValueBench_about p0 p1 σ = some (v, σ1) ∧ zM_ValueBenchModel_about p0 p1 τ = some (v, τ1) ∧ I σ1 τ1
def zp_S5 (I : zx_S → zx_S → Prop) : Prop := ∀ (σ τ : zx_S) (p0 p1 : Int32), I σ τ → ∃ (v : Int32) (σ1 : zx_S) (τ1 : zx_S), zX_ValueBench_predecessor p0 p1 σ = some (v, σ1) ∧ zM_ValueBenchModel_predecessor p0 p1 τ = some (v, τ1) ∧ I σ1 τ1
def zp_S6 (I : zx_S → zx_S → Prop) : Prop := ∀ (σ τ : zx_S) (p0 p1 : Int32), I σ τ → ∃ (v : Int32) (σ1 : zx_S) (τ1 : zx_S), zX_ValueBench_dominates p0 p1 σ = some (v, σ1) ∧ zM_ValueBenchModel_dominates p0 p1 τ = some (v, τ1) ∧ I σ1 τ1
def zp_S7 (I : zx_S → zx_S → Prop) : Prop := ∀ (σ τ : zx_S) (p0 p1 : Int32), I σ τ → ∃ (v : Int32) (σ1 : zx_S) (τ1 : zx_S), zX_ValueBench_meets p0 p1 σ = some (v, σ1) ∧ zM_ValueBenchModel_meets p0 p1 τ = some (v, τ1) ∧ I σ1 τ1
def zp_S8 (I : zx_S → zx_S → Prop) : Prop := ∀ (σ τ : zx_S) (p0 p1 : Int32), I σ τ → ∃ (v : Int32) (σ1 : zx_S) (τ1 : zx_S), zX_ValueBench_value p0 p1 σ = some (v, σ1) ∧ zM_ValueBenchModel_value p0 p1 τ = some (v, τ1) ∧ I σ1 τ1
def zp_S9 (I : zx_S → zx_S → Prop) : Prop := ∀ (σ τ : zx_S) (p0 p1 : Int32), I σ τ → ∃ (v : Int32) (σ1 : zx_S) (τ1 : zx_S), zX_ValueBench_operand p0 p1 σ = some (v, σ1) ∧ zM_ValueBenchModel_operand p0 p1 τ = some (v, τ1) ∧ I σ1 τ1
def zp_S10 (I : zx_S → zx_S → Prop) : Prop := ∀ (σ τ : zx_S) (p0 p1 : Int32), I σ τ → ∃ (v : Int32) (σ1 : zx_S) (τ1 : zx_S), zX_ValueBench_led p0 p1 σ = some (v, σ1) ∧ zM_ValueBenchModel_led p0 p1 τ = some (v, τ1) ∧ I σ1 τ1
def zp_S11 (I : zx_S → zx_S → Prop) : Prop := ∀ (σ τ : zx_S) (p0 : Int32), I σ τ → ∃ (v : Int32) (σ1 : zx_S) (τ1 : zx_S), zX_ValueBench_classOf p0 σ = some (v, σ1) ∧ zM_ValueBenchModel_classOf p0 τ = some (v, τ1) ∧ I σ1 τ1
def zp_S12 (I : zx_S → zx_S → Prop) : Prop := ∀ (σ τ : zx_S) (p0 p1 : Int32), I σ τ → (p1 = 0 ∨ p1 = 1) → ∃ (v : Int32) (σ1 : zx_S) (τ1 : zx_S), zX_ValueBench_read p0 p1 σ = some (v, σ1) ∧ zM_ValueBenchModel_read p0 p1 τ = some (v, τ1) ∧ I σ1 τ1
def zp_S13 (I : zx_S → zx_S → Prop) : Prop := ∀ (σ τ : zx_S) (p0 p1 p2 : Int32), I σ τ → (p2 = 0 ∨ p2 = 1) → ∃ (v : Int32) (σ1 : zx_S) (τ1 : zx_S), zX_ValueBench_emits p0 p1 p2 σ = some (v, σ1) ∧ zM_ValueBenchModel_emits p0 p1 p2 τ = some (v, τ1) ∧ I σ1 τ1
def zp_S14 (I : zx_S → zx_S → Prop) : Prop := ∀ (σ τ : zx_S) (p0 p1 p2 p3 p4 : Int32), I σ τ → ∃ (v : Int32) (σ1 : zx_S) (τ1 : zx_S), zX_ValueBench_run p0 p1 p2 p3 p4 σ = some (v, σ1) ∧ zM_ValueBenchModel_run p0 p1 p2 p3 p4 τ = some (v, τ1) ∧ I σ1 τ1
def zp_S15 (I : zx_S → zx_S → Prop) : Prop := ∀ (σ τ : zx_S) (p0 : Int32), I σ τ → ∃ (v : Int32) (σ1 : zx_S) (τ1 : zx_S), zX_ValueBench_fuel p0 σ = some (v, σ1) ∧ zM_ValueBenchModel_fuel p0 τ = some (v, τ1) ∧ I σ1 τ1
def zp_S16 (I : zx_S → zx_S → Prop) : Prop := ∀ (σ τ : zx_S) (p0 : Int32), I σ τ → ∃ (v : Int32), zX_ValueBench_ran p0 σ = some v ∧ zM_ValueBenchModel_ran p0 τ = some v ∧ I σ τ
def zp_S17 (I : zx_S → zx_S → Prop) : Prop := ∀ (σ τ : zx_S) (p0 : Int32), I σ τ → ∃ (v : Int32), zX_ValueBench_emitted p0 σ = some v ∧ zM_ValueBenchModel_emitted p0 τ = some v ∧ I σ τ
def zp_S18 (I : zx_S → zx_S → Prop) : Prop := ∀ (σ τ : zx_S) (p0 : Int32), I σ τ → ∃ (v : Int32) (σ1 : zx_S) (τ1 : zx_S), zX_ValueBench_count p0 σ = some (v, σ1) ∧ zM_ValueBenchModel_count p0 τ = some (v, τ1) ∧ I σ1 τ1
def zp_All (I : zx_S → zx_S → Prop) : Prop := zp_S0 I ∧ zp_S1 I ∧ zp_S2 I ∧ zp_S3 I ∧ zp_S4 I ∧ zp_S5 I ∧ zp_S6 I ∧ zp_S7 I ∧ zp_S8 I ∧ zp_S9 I ∧ zp_S10 I ∧ zp_S11 I ∧ zp_S12 I ∧ zp_S13 I ∧ zp_S14 I ∧ zp_S15 I ∧ zp_S16 I ∧ zp_S17 I ∧ zp_S18 I
set_option maxRecDepth 100000 in
set_option maxHeartbeats 4000000 in
theorem zl_case0 {Z : zx_Z} {aM : Nat → Nat} {b L i : Nat} {xs : Nat → Int32} (C : zl_ok Z aM b L xs) (hL : L ≤ 3072) (hi : i + 6 ≤ L) {I : zx_S → zx_S → Prop} (hp : zp_S0 I) {σ τ : zx_S} (hI : I σ τ) (next : ∀ σ τ, I σ τ → zL Z aM 793 [(0, .ref b), (1, .ref (zz_d Z 0)), (2, .ref (aM 0)), (3, .int (nI i))] [] σ τ) : zL Z aM 124 [(0, .ref b), (1, .ref (zz_d Z 0)), (2, .ref (aM 0)), (3, .int (nI i))] [] σ τ := by
  obtain ⟨v, σ1, τ1, h1, h2, hI1⟩ := hp σ τ hI
  refine zl_aload_n C dL_law_124 (q := 125) rfl 1 rfl rfl ?_
  refine zl_X (q := 128) (n := 0) C (As := []) (rest := []) dL_law_125 (zX_ValueBench_block_met zX_So C.2.2.2.1.1 h1) ⟨zw_434, zw_435, zw_436, zw_62, zw_437, by decide +kernel⟩ ⟨by decide, 9, _, _, rfl, fun _ _ _ => ⟨_, rfl⟩⟩ ⟨by decide, by decide⟩ rfl (Nat.le_of_ble_eq_true rfl) rfl rfl ?_
  refine zl_aload_n C dL_law_128 (q := 129) rfl 2 rfl rfl ?_
  refine zl_M (q := 132) (n := 0) C (As := []) (rest := [.int v]) dL_law_129 (zM_ValueBenchModel_block_met zM_So C.2.2.2.1.2 h2) ⟨zw_987, zw_988, zw_989, zw_73, zw_990, by decide +kernel⟩ ⟨by decide, 10, _, _, rfl, fun _ _ _ => ⟨_, rfl⟩⟩ ⟨by decide, by decide⟩ rfl (Nat.le_of_ble_eq_true rfl) rfl rfl ?_
  refine zl_eq (tgt := 793) C dL_law_132 (by decide) ?_
  exact next _ _ hI1
set_option maxRecDepth 100000 in
set_option maxHeartbeats 4000000 in
theorem zl_case1 {Z : zx_Z} {aM : Nat → Nat} {b L i : Nat} {xs : Nat → Int32} (C : zl_ok Z aM b L xs) (hL : L ≤ 3072) (hi : i + 6 ≤ L) {I : zx_S → zx_S → Prop} (hp : zp_S1 I) {σ τ : zx_S} (hI : I σ τ) (next : ∀ σ τ, I σ τ → zL Z aM 793 [(0, .ref b), (1, .ref (zz_d Z 0)), (2, .ref (aM 0)), (3, .int (nI i))] [] σ τ) : zL Z aM 137 [(0, .ref b), (1, .ref (zz_d Z 0)), (2, .ref (aM 0)), (3, .int (nI i))] [] σ τ := by
  obtain ⟨v, σ1, τ1, h1, h2, hI1⟩ := hp σ τ (xs (i + 1)) (xs (i + 2)) (xs (i + 3)) (xs (i + 4)) (xs (i + 5)) hI
  refine zl_aload_n C dL_law_137 (q := 138) rfl 1 rfl rfl ?_
  refine zl_aload_n C dL_law_138 (q := 139) rfl 0 rfl rfl ?_
  refine zl_iload_n C dL_law_139 (q := 140) rfl 3 rfl rfl ?_
  refine zl_iconst C dL_law_140 (q := 141) (v := (1 : Int32)) (by decide) rfl ?_
  refine zl_iadd C dL_law_141 (q := 142) rfl ?_
  refine zl_sld C dL_law_142 (q := 143) (zl_idx (j := 1) hi hL (by decide) (by decide)) rfl ?_
  rw [nI_at_1 i L hi hL]
  refine zl_aload_n C dL_law_143 (q := 144) rfl 0 rfl rfl ?_
  refine zl_iload_n C dL_law_144 (q := 145) rfl 3 rfl rfl ?_
  refine zl_iconst C dL_law_145 (q := 146) (v := (2 : Int32)) (by decide) rfl ?_
  refine zl_iadd C dL_law_146 (q := 147) rfl ?_
  refine zl_sld C dL_law_147 (q := 148) (zl_idx (j := 2) hi hL (by decide) (by decide)) rfl ?_
  rw [nI_at_2 i L hi hL]
  refine zl_aload_n C dL_law_148 (q := 149) rfl 0 rfl rfl ?_
  refine zl_iload_n C dL_law_149 (q := 150) rfl 3 rfl rfl ?_
  refine zl_iconst C dL_law_150 (q := 151) (v := (3 : Int32)) (by decide) rfl ?_
  refine zl_iadd C dL_law_151 (q := 152) rfl ?_
  refine zl_sld C dL_law_152 (q := 153) (zl_idx (j := 3) hi hL (by decide) (by decide)) rfl ?_
  rw [nI_at_3 i L hi hL]
  refine zl_aload_n C dL_law_153 (q := 154) rfl 0 rfl rfl ?_
  refine zl_iload_n C dL_law_154 (q := 155) rfl 3 rfl rfl ?_
  refine zl_iconst C dL_law_155 (q := 156) (v := (4 : Int32)) (by decide) rfl ?_
  refine zl_iadd C dL_law_156 (q := 157) rfl ?_
  refine zl_sld C dL_law_157 (q := 158) (zl_idx (j := 4) hi hL (by decide) (by decide)) rfl ?_
  rw [nI_at_4 i L hi hL]
  refine zl_aload_n C dL_law_158 (q := 159) rfl 0 rfl rfl ?_
  refine zl_iload_n C dL_law_159 (q := 160) rfl 3 rfl rfl ?_
  refine zl_iconst C dL_law_160 (q := 161) (v := (5 : Int32)) (by decide) rfl ?_
  refine zl_iadd C dL_law_161 (q := 162) rfl ?_
  refine zl_sld C dL_law_162 (q := 163) (zl_idx (j := 5) hi hL (by decide) (by decide)) rfl ?_
  rw [nI_at_5 i L hi hL]
  refine zl_X (q := 166) (n := 5) C (As := [.int (xs (i + 1)), .int (xs (i + 2)), .int (xs (i + 3)), .int (xs (i + 4)), .int (xs (i + 5))]) (rest := []) dL_law_163 (zX_ValueBench_put_met zX_So C.2.2.2.1.1 h1) ⟨zw_438, zw_439, zw_440, zw_62, zw_441, by decide +kernel⟩ ⟨by decide, 9, _, _, rfl, fun _ _ _ => ⟨_, rfl⟩⟩ ⟨by decide, by decide⟩ rfl (Nat.le_of_ble_eq_true rfl) rfl rfl ?_
  refine zl_aload_n C dL_law_166 (q := 167) rfl 2 rfl rfl ?_
  refine zl_aload_n C dL_law_167 (q := 168) rfl 0 rfl rfl ?_
  refine zl_iload_n C dL_law_168 (q := 169) rfl 3 rfl rfl ?_
  refine zl_iconst C dL_law_169 (q := 170) (v := (1 : Int32)) (by decide) rfl ?_
  refine zl_iadd C dL_law_170 (q := 171) rfl ?_
  refine zl_sld C dL_law_171 (q := 172) (zl_idx (j := 1) hi hL (by decide) (by decide)) rfl ?_
  rw [nI_at_1 i L hi hL]
  refine zl_aload_n C dL_law_172 (q := 173) rfl 0 rfl rfl ?_
  refine zl_iload_n C dL_law_173 (q := 174) rfl 3 rfl rfl ?_
  refine zl_iconst C dL_law_174 (q := 175) (v := (2 : Int32)) (by decide) rfl ?_
  refine zl_iadd C dL_law_175 (q := 176) rfl ?_
  refine zl_sld C dL_law_176 (q := 177) (zl_idx (j := 2) hi hL (by decide) (by decide)) rfl ?_
  rw [nI_at_2 i L hi hL]
  refine zl_aload_n C dL_law_177 (q := 178) rfl 0 rfl rfl ?_
  refine zl_iload_n C dL_law_178 (q := 179) rfl 3 rfl rfl ?_
  refine zl_iconst C dL_law_179 (q := 180) (v := (3 : Int32)) (by decide) rfl ?_
  refine zl_iadd C dL_law_180 (q := 181) rfl ?_
  refine zl_sld C dL_law_181 (q := 182) (zl_idx (j := 3) hi hL (by decide) (by decide)) rfl ?_
  rw [nI_at_3 i L hi hL]
  refine zl_aload_n C dL_law_182 (q := 183) rfl 0 rfl rfl ?_
  refine zl_iload_n C dL_law_183 (q := 184) rfl 3 rfl rfl ?_
  refine zl_iconst C dL_law_184 (q := 185) (v := (4 : Int32)) (by decide) rfl ?_
  refine zl_iadd C dL_law_185 (q := 186) rfl ?_
  refine zl_sld C dL_law_186 (q := 187) (zl_idx (j := 4) hi hL (by decide) (by decide)) rfl ?_
  rw [nI_at_4 i L hi hL]
  refine zl_aload_n C dL_law_187 (q := 188) rfl 0 rfl rfl ?_
  refine zl_iload_n C dL_law_188 (q := 189) rfl 3 rfl rfl ?_
  refine zl_iconst C dL_law_189 (q := 190) (v := (5 : Int32)) (by decide) rfl ?_
  refine zl_iadd C dL_law_190 (q := 191) rfl ?_
  refine zl_sld C dL_law_191 (q := 192) (zl_idx (j := 5) hi hL (by decide) (by decide)) rfl ?_
  rw [nI_at_5 i L hi hL]
  refine zl_M (q := 195) (n := 5) C (As := [.int (xs (i + 1)), .int (xs (i + 2)), .int (xs (i + 3)), .int (xs (i + 4)), .int (xs (i + 5))]) (rest := [.int v]) dL_law_192 (zM_ValueBenchModel_put_met zM_So C.2.2.2.1.2 h2) ⟨zw_991, zw_992, zw_993, zw_73, zw_994, by decide +kernel⟩ ⟨by decide, 10, _, _, rfl, fun _ _ _ => ⟨_, rfl⟩⟩ ⟨by decide, by decide⟩ rfl (Nat.le_of_ble_eq_true rfl) rfl rfl ?_
  refine zl_eq (tgt := 793) C dL_law_195 (by decide) ?_
  exact next _ _ hI1
set_option maxRecDepth 100000 in
set_option maxHeartbeats 4000000 in
theorem zl_case2 {Z : zx_Z} {aM : Nat → Nat} {b L i : Nat} {xs : Nat → Int32} (C : zl_ok Z aM b L xs) (hL : L ≤ 3072) (hi : i + 6 ≤ L) {I : zx_S → zx_S → Prop} (hp : zp_S2 I) {σ τ : zx_S} (hI : I σ τ) (next : ∀ σ τ, I σ τ → zL Z aM 793 [(0, .ref b), (1, .ref (zz_d Z 0)), (2, .ref (aM 0)), (3, .int (nI i))] [] σ τ) : zL Z aM 200 [(0, .ref b), (1, .ref (zz_d Z 0)), (2, .ref (aM 0)), (3, .int (nI i))] [] σ τ := by
  obtain ⟨v, σ1, τ1, h1, h2, hI1⟩ := hp σ τ (xs (i + 1)) (xs (i + 2)) (xs (i + 3)) (xs (i + 4)) (xs (i + 5)) hI
  refine zl_aload_n C dL_law_200 (q := 201) rfl 1 rfl rfl ?_
  refine zl_aload_n C dL_law_201 (q := 202) rfl 0 rfl rfl ?_
  refine zl_iload_n C dL_law_202 (q := 203) rfl 3 rfl rfl ?_
  refine zl_iconst C dL_law_203 (q := 204) (v := (1 : Int32)) (by decide) rfl ?_
  refine zl_iadd C dL_law_204 (q := 205) rfl ?_
  refine zl_sld C dL_law_205 (q := 206) (zl_idx (j := 1) hi hL (by decide) (by decide)) rfl ?_
  rw [nI_at_1 i L hi hL]
  refine zl_aload_n C dL_law_206 (q := 207) rfl 0 rfl rfl ?_
  refine zl_iload_n C dL_law_207 (q := 208) rfl 3 rfl rfl ?_
  refine zl_iconst C dL_law_208 (q := 209) (v := (2 : Int32)) (by decide) rfl ?_
  refine zl_iadd C dL_law_209 (q := 210) rfl ?_
  refine zl_sld C dL_law_210 (q := 211) (zl_idx (j := 2) hi hL (by decide) (by decide)) rfl ?_
  rw [nI_at_2 i L hi hL]
  refine zl_aload_n C dL_law_211 (q := 212) rfl 0 rfl rfl ?_
  refine zl_iload_n C dL_law_212 (q := 213) rfl 3 rfl rfl ?_
  refine zl_iconst C dL_law_213 (q := 214) (v := (3 : Int32)) (by decide) rfl ?_
  refine zl_iadd C dL_law_214 (q := 215) rfl ?_
  refine zl_sld C dL_law_215 (q := 216) (zl_idx (j := 3) hi hL (by decide) (by decide)) rfl ?_
  rw [nI_at_3 i L hi hL]
  refine zl_aload_n C dL_law_216 (q := 217) rfl 0 rfl rfl ?_
  refine zl_iload_n C dL_law_217 (q := 218) rfl 3 rfl rfl ?_
  refine zl_iconst C dL_law_218 (q := 219) (v := (4 : Int32)) (by decide) rfl ?_
  refine zl_iadd C dL_law_219 (q := 220) rfl ?_
  refine zl_sld C dL_law_220 (q := 221) (zl_idx (j := 4) hi hL (by decide) (by decide)) rfl ?_
  rw [nI_at_4 i L hi hL]
  refine zl_aload_n C dL_law_221 (q := 222) rfl 0 rfl rfl ?_
  refine zl_iload_n C dL_law_222 (q := 223) rfl 3 rfl rfl ?_
  refine zl_iconst C dL_law_223 (q := 224) (v := (5 : Int32)) (by decide) rfl ?_
  refine zl_iadd C dL_law_224 (q := 225) rfl ?_
  refine zl_sld C dL_law_225 (q := 226) (zl_idx (j := 5) hi hL (by decide) (by decide)) rfl ?_
  rw [nI_at_5 i L hi hL]
  refine zl_X (q := 229) (n := 5) C (As := [.int (xs (i + 1)), .int (xs (i + 2)), .int (xs (i + 3)), .int (xs (i + 4)), .int (xs (i + 5))]) (rest := []) dL_law_226 (zX_ValueBench_ends_met zX_So C.2.2.2.1.1 h1) ⟨zw_467, zw_468, zw_469, zw_62, zw_470, by decide +kernel⟩ ⟨by decide, 9, _, _, rfl, fun _ _ _ => ⟨_, rfl⟩⟩ ⟨by decide, by decide⟩ rfl (Nat.le_of_ble_eq_true rfl) rfl rfl ?_
  refine zl_aload_n C dL_law_229 (q := 230) rfl 2 rfl rfl ?_
  refine zl_aload_n C dL_law_230 (q := 231) rfl 0 rfl rfl ?_
  refine zl_iload_n C dL_law_231 (q := 232) rfl 3 rfl rfl ?_
  refine zl_iconst C dL_law_232 (q := 233) (v := (1 : Int32)) (by decide) rfl ?_
  refine zl_iadd C dL_law_233 (q := 234) rfl ?_
  refine zl_sld C dL_law_234 (q := 235) (zl_idx (j := 1) hi hL (by decide) (by decide)) rfl ?_
  rw [nI_at_1 i L hi hL]
  refine zl_aload_n C dL_law_235 (q := 236) rfl 0 rfl rfl ?_
  refine zl_iload_n C dL_law_236 (q := 237) rfl 3 rfl rfl ?_
  refine zl_iconst C dL_law_237 (q := 238) (v := (2 : Int32)) (by decide) rfl ?_
  refine zl_iadd C dL_law_238 (q := 239) rfl ?_
  refine zl_sld C dL_law_239 (q := 240) (zl_idx (j := 2) hi hL (by decide) (by decide)) rfl ?_
  rw [nI_at_2 i L hi hL]
  refine zl_aload_n C dL_law_240 (q := 241) rfl 0 rfl rfl ?_
  refine zl_iload_n C dL_law_241 (q := 242) rfl 3 rfl rfl ?_
  refine zl_iconst C dL_law_242 (q := 243) (v := (3 : Int32)) (by decide) rfl ?_
  refine zl_iadd C dL_law_243 (q := 244) rfl ?_
  refine zl_sld C dL_law_244 (q := 245) (zl_idx (j := 3) hi hL (by decide) (by decide)) rfl ?_
  rw [nI_at_3 i L hi hL]
  refine zl_aload_n C dL_law_245 (q := 246) rfl 0 rfl rfl ?_
  refine zl_iload_n C dL_law_246 (q := 247) rfl 3 rfl rfl ?_
  refine zl_iconst C dL_law_247 (q := 248) (v := (4 : Int32)) (by decide) rfl ?_
  refine zl_iadd C dL_law_248 (q := 249) rfl ?_
  refine zl_sld C dL_law_249 (q := 250) (zl_idx (j := 4) hi hL (by decide) (by decide)) rfl ?_
  rw [nI_at_4 i L hi hL]
  refine zl_aload_n C dL_law_250 (q := 251) rfl 0 rfl rfl ?_
  refine zl_iload_n C dL_law_251 (q := 252) rfl 3 rfl rfl ?_
  refine zl_iconst C dL_law_252 (q := 253) (v := (5 : Int32)) (by decide) rfl ?_
  refine zl_iadd C dL_law_253 (q := 254) rfl ?_
  refine zl_sld C dL_law_254 (q := 255) (zl_idx (j := 5) hi hL (by decide) (by decide)) rfl ?_
  rw [nI_at_5 i L hi hL]
  refine zl_M (q := 258) (n := 5) C (As := [.int (xs (i + 1)), .int (xs (i + 2)), .int (xs (i + 3)), .int (xs (i + 4)), .int (xs (i + 5))]) (rest := [.int v]) dL_law_255 (zM_ValueBenchModel_ends_met zM_So C.2.2.2.1.2 h2) ⟨zw_1002, zw_1003, zw_1004, zw_73, zw_1005, by decide +kernel⟩ ⟨by decide, 10, _, _, rfl, fun _ _ _ => ⟨_, rfl⟩⟩ ⟨by decide, by decide⟩ rfl (Nat.le_of_ble_eq_true rfl) rfl rfl ?_
  refine zl_eq (tgt := 793) C dL_law_258 (by decide) ?_
  exact next _ _ hI1
set_option maxRecDepth 100000 in
set_option maxHeartbeats 4000000 in
theorem zl_case3 {Z : zx_Z} {aM : Nat → Nat} {b L i : Nat} {xs : Nat → Int32} (C : zl_ok Z aM b L xs) (hL : L ≤ 3072) (hi : i + 6 ≤ L) {I : zx_S → zx_S → Prop} (hp : zp_S3 I) {σ τ : zx_S} (hI : I σ τ) (next : ∀ σ τ, I σ τ → zL Z aM 793 [(0, .ref b), (1, .ref (zz_d Z 0)), (2, .ref (aM 0)), (3, .int (nI i))] [] σ τ) : zL Z aM 263 [(0, .ref b), (1, .ref (zz_d Z 0)), (2, .ref (aM 0)), (3, .int (nI i))] [] σ τ := by
  obtain ⟨v, σ1, τ1, h1, h2, hI1⟩ := hp σ τ hI
  refine zl_aload_n C dL_law_263 (q := 264) rfl 1 rfl rfl ?_
  refine zl_X (q := 267) (n := 0) C (As := []) (rest := []) dL_law_264 (zX_ValueBench_clear_met zX_So C.2.2.2.1.1 h1) ⟨zw_481, zw_482, zw_483, zw_62, zw_484, by decide +kernel⟩ ⟨by decide, 9, _, _, rfl, fun _ _ _ => ⟨_, rfl⟩⟩ ⟨by decide, by decide⟩ rfl (Nat.le_of_ble_eq_true rfl) rfl rfl ?_
  refine zl_aload_n C dL_law_267 (q := 268) rfl 2 rfl rfl ?_
  refine zl_M (q := 271) (n := 0) C (As := []) (rest := [.int v]) dL_law_268 (zM_ValueBenchModel_clear_met zM_So C.2.2.2.1.2 h2) ⟨zw_1006, zw_1007, zw_1008, zw_73, zw_1009, by decide +kernel⟩ ⟨by decide, 10, _, _, rfl, fun _ _ _ => ⟨_, rfl⟩⟩ ⟨by decide, by decide⟩ rfl (Nat.le_of_ble_eq_true rfl) rfl rfl ?_
  refine zl_eq (tgt := 793) C dL_law_271 (by decide) ?_
  exact next _ _ hI1
set_option maxRecDepth 100000 in
set_option maxHeartbeats 4000000 in
theorem zl_case4 {Z : zx_Z} {aM : Nat → Nat} {b L i : Nat} {xs : Nat → Int32} (C : zl_ok Z aM b L xs) (hL : L ≤ 3072) (hi : i + 6 ≤ L) {I : zx_S → zx_S → Prop} (hp : zp_S4 I) {σ τ : zx_S} (hI : I σ τ) (next : ∀ σ τ, I σ τ → zL Z aM 793 [(0, .ref b), (1, .ref (zz_d Z 0)), (2, .ref (aM 0)), (3, .int (nI i))] [] σ τ) : zL Z aM 276 [(0, .ref b), (1, .ref (zz_d Z 0)), (2, .ref (aM 0)), (3, .int (nI i))] [] σ τ := by
  obtain ⟨v, σ1, τ1, h1, h2, hI1⟩ := hp σ τ (xs (i + 1)) (xs (i + 2)) hI
  refine zl_aload_n C dL_law_276 (q := 277) rfl 1 rfl rfl ?_
  refine zl_aload_n C dL_law_277 (q := 278) rfl 0 rfl rfl ?_
  refine zl_iload_n C dL_law_278 (q := 279) rfl 3 rfl rfl ?_
  refine zl_iconst C dL_law_279 (q := 280) (v := (1 : Int32)) (by decide) rfl ?_
  refine zl_iadd C dL_law_280 (q := 281) rfl ?_
  refine zl_sld C dL_law_281 (q := 282) (zl_idx (j := 1) hi hL (by decide) (by decide)) rfl ?_
  rw [nI_at_1 i L hi hL]
  refine zl_aload_n C dL_law_282 (q := 283) rfl 0 rfl rfl ?_
  refine zl_iload_n C dL_law_283 (q := 284) rfl 3 rfl rfl ?_
  refine zl_iconst C dL_law_284 (q := 285) (v := (2 : Int32)) (by decide) rfl ?_
  refine zl_iadd C dL_law_285 (q := 286) rfl ?_
  refine zl_sld C dL_law_286 (q := 287) (zl_idx (j := 2) hi hL (by decide) (by decide)) rfl ?_
  rw [nI_at_2 i L hi hL]
  refine zl_X (q := 290) (n := 2) C (As := [.int (xs (i + 1)), .int (xs (i + 2))]) (rest := []) dL_law_287 (zX_ValueBench_about_met zX_So C.2.2.2.1.1 h1) ⟨zw_492, zw_493, zw_494, zw_62, zw_495, by decide +kernel⟩ ⟨by decide, 9, _, _, rfl, fun _ _ _ => ⟨_, rfl⟩⟩ ⟨by decide, by decide⟩ rfl (Nat.le_of_ble_eq_true rfl) rfl rfl ?_
  refine zl_aload_n C dL_law_290 (q := 291) rfl 2 rfl rfl ?_
  refine zl_aload_n C dL_law_291 (q := 292) rfl 0 rfl rfl ?_
  refine zl_iload_n C dL_law_292 (q := 293) rfl 3 rfl rfl ?_
  refine zl_iconst C dL_law_293 (q := 294) (v := (1 : Int32)) (by decide) rfl ?_
  refine zl_iadd C dL_law_294 (q := 295) rfl ?_
  refine zl_sld C dL_law_295 (q := 296) (zl_idx (j := 1) hi hL (by decide) (by decide)) rfl ?_
  rw [nI_at_1 i L hi hL]
  refine zl_aload_n C dL_law_296 (q := 297) rfl 0 rfl rfl ?_
  refine zl_iload_n C dL_law_297 (q := 298) rfl 3 rfl rfl ?_
  refine zl_iconst C dL_law_298 (q := 299) (v := (2 : Int32)) (by decide) rfl ?_
  refine zl_iadd C dL_law_299 (q := 300) rfl ?_
  refine zl_sld C dL_law_300 (q := 301) (zl_idx (j := 2) hi hL (by decide) (by decide)) rfl ?_
  rw [nI_at_2 i L hi hL]
  refine zl_M (q := 304) (n := 2) C (As := [.int (xs (i + 1)), .int (xs (i + 2))]) (rest := [.int v]) dL_law_301 (zM_ValueBenchModel_about_met zM_So C.2.2.2.1.2 h2) ⟨zw_1148, zw_1149, zw_1150, zw_73, zw_1151, by decide +kernel⟩ ⟨by decide, 10, _, _, rfl, fun _ _ _ => ⟨_, rfl⟩⟩ ⟨by decide, by decide⟩ rfl (Nat.le_of_ble_eq_true rfl) rfl rfl ?_
  refine zl_eq (tgt := 793) C dL_law_304 (by decide) ?_
  exact next _ _ hI1
set_option maxRecDepth 100000 in
set_option maxHeartbeats 4000000 in
theorem zl_case5 {Z : zx_Z} {aM : Nat → Nat} {b L i : Nat} {xs : Nat → Int32} (C : zl_ok Z aM b L xs) (hL : L ≤ 3072) (hi : i + 6 ≤ L) {I : zx_S → zx_S → Prop} (hp : zp_S5 I) {σ τ : zx_S} (hI : I σ τ) (next : ∀ σ τ, I σ τ → zL Z aM 793 [(0, .ref b), (1, .ref (zz_d Z 0)), (2, .ref (aM 0)), (3, .int (nI i))] [] σ τ) : zL Z aM 309 [(0, .ref b), (1, .ref (zz_d Z 0)), (2, .ref (aM 0)), (3, .int (nI i))] [] σ τ := by
  obtain ⟨v, σ1, τ1, h1, h2, hI1⟩ := hp σ τ (xs (i + 1)) (xs (i + 2)) hI
  refine zl_aload_n C dL_law_309 (q := 310) rfl 1 rfl rfl ?_
  refine zl_aload_n C dL_law_310 (q := 311) rfl 0 rfl rfl ?_
  refine zl_iload_n C dL_law_311 (q := 312) rfl 3 rfl rfl ?_
  refine zl_iconst C dL_law_312 (q := 313) (v := (1 : Int32)) (by decide) rfl ?_
  refine zl_iadd C dL_law_313 (q := 314) rfl ?_
  refine zl_sld C dL_law_314 (q := 315) (zl_idx (j := 1) hi hL (by decide) (by decide)) rfl ?_
  rw [nI_at_1 i L hi hL]
  refine zl_aload_n C dL_law_315 (q := 316) rfl 0 rfl rfl ?_
  refine zl_iload_n C dL_law_316 (q := 317) rfl 3 rfl rfl ?_
  refine zl_iconst C dL_law_317 (q := 318) (v := (2 : Int32)) (by decide) rfl ?_
  refine zl_iadd C dL_law_318 (q := 319) rfl ?_
  refine zl_sld C dL_law_319 (q := 320) (zl_idx (j := 2) hi hL (by decide) (by decide)) rfl ?_
  rw [nI_at_2 i L hi hL]
  refine zl_X (q := 323) (n := 2) C (As := [.int (xs (i + 1)), .int (xs (i + 2))]) (rest := []) dL_law_320 (zX_ValueBench_predecessor_met zX_So C.2.2.2.1.1 h1) ⟨zw_667, zw_668, zw_669, zw_62, zw_670, by decide +kernel⟩ ⟨by decide, 9, _, _, rfl, fun _ _ _ => ⟨_, rfl⟩⟩ ⟨by decide, by decide⟩ rfl (Nat.le_of_ble_eq_true rfl) rfl rfl ?_
  refine zl_aload_n C dL_law_323 (q := 324) rfl 2 rfl rfl ?_
  refine zl_aload_n C dL_law_324 (q := 325) rfl 0 rfl rfl ?_
  refine zl_iload_n C dL_law_325 (q := 326) rfl 3 rfl rfl ?_
  refine zl_iconst C dL_law_326 (q := 327) (v := (1 : Int32)) (by decide) rfl ?_
  refine zl_iadd C dL_law_327 (q := 328) rfl ?_
  refine zl_sld C dL_law_328 (q := 329) (zl_idx (j := 1) hi hL (by decide) (by decide)) rfl ?_
  rw [nI_at_1 i L hi hL]
  refine zl_aload_n C dL_law_329 (q := 330) rfl 0 rfl rfl ?_
  refine zl_iload_n C dL_law_330 (q := 331) rfl 3 rfl rfl ?_
  refine zl_iconst C dL_law_331 (q := 332) (v := (2 : Int32)) (by decide) rfl ?_
  refine zl_iadd C dL_law_332 (q := 333) rfl ?_
  refine zl_sld C dL_law_333 (q := 334) (zl_idx (j := 2) hi hL (by decide) (by decide)) rfl ?_
  rw [nI_at_2 i L hi hL]
  refine zl_M (q := 337) (n := 2) C (As := [.int (xs (i + 1)), .int (xs (i + 2))]) (rest := [.int v]) dL_law_334 (zM_ValueBenchModel_predecessor_met zM_So C.2.2.2.1.2 h2) ⟨zw_1152, zw_1153, zw_1154, zw_73, zw_1155, by decide +kernel⟩ ⟨by decide, 10, _, _, rfl, fun _ _ _ => ⟨_, rfl⟩⟩ ⟨by decide, by decide⟩ rfl (Nat.le_of_ble_eq_true rfl) rfl rfl ?_
  refine zl_eq (tgt := 793) C dL_law_337 (by decide) ?_
  exact next _ _ hI1
set_option maxRecDepth 100000 in
set_option maxHeartbeats 4000000 in
theorem zl_case6 {Z : zx_Z} {aM : Nat → Nat} {b L i : Nat} {xs : Nat → Int32} (C : zl_ok Z aM b L xs) (hL : L ≤ 3072) (hi : i + 6 ≤ L) {I : zx_S → zx_S → Prop} (hp : zp_S6 I) {σ τ : zx_S} (hI : I σ τ) (next : ∀ σ τ, I σ τ → zL Z aM 793 [(0, .ref b), (1, .ref (zz_d Z 0)), (2, .ref (aM 0)), (3, .int (nI i))] [] σ τ) : zL Z aM 342 [(0, .ref b), (1, .ref (zz_d Z 0)), (2, .ref (aM 0)), (3, .int (nI i))] [] σ τ := by
  obtain ⟨v, σ1, τ1, h1, h2, hI1⟩ := hp σ τ (xs (i + 1)) (xs (i + 2)) hI
  refine zl_aload_n C dL_law_342 (q := 343) rfl 1 rfl rfl ?_
  refine zl_aload_n C dL_law_343 (q := 344) rfl 0 rfl rfl ?_
  refine zl_iload_n C dL_law_344 (q := 345) rfl 3 rfl rfl ?_
  refine zl_iconst C dL_law_345 (q := 346) (v := (1 : Int32)) (by decide) rfl ?_
  refine zl_iadd C dL_law_346 (q := 347) rfl ?_
  refine zl_sld C dL_law_347 (q := 348) (zl_idx (j := 1) hi hL (by decide) (by decide)) rfl ?_
  rw [nI_at_1 i L hi hL]
  refine zl_aload_n C dL_law_348 (q := 349) rfl 0 rfl rfl ?_
  refine zl_iload_n C dL_law_349 (q := 350) rfl 3 rfl rfl ?_
  refine zl_iconst C dL_law_350 (q := 351) (v := (2 : Int32)) (by decide) rfl ?_
  refine zl_iadd C dL_law_351 (q := 352) rfl ?_
  refine zl_sld C dL_law_352 (q := 353) (zl_idx (j := 2) hi hL (by decide) (by decide)) rfl ?_
  rw [nI_at_2 i L hi hL]
  refine zl_X (q := 356) (n := 2) C (As := [.int (xs (i + 1)), .int (xs (i + 2))]) (rest := []) dL_law_353 (zX_ValueBench_dominates_met zX_So C.2.2.2.1.1 h1) ⟨zw_672, zw_673, zw_674, zw_62, zw_675, by decide +kernel⟩ ⟨by decide, 9, _, _, rfl, fun _ _ _ => ⟨_, rfl⟩⟩ ⟨by decide, by decide⟩ rfl (Nat.le_of_ble_eq_true rfl) rfl rfl ?_
  refine zl_aload_n C dL_law_356 (q := 357) rfl 2 rfl rfl ?_
  refine zl_aload_n C dL_law_357 (q := 358) rfl 0 rfl rfl ?_
  refine zl_iload_n C dL_law_358 (q := 359) rfl 3 rfl rfl ?_
  refine zl_iconst C dL_law_359 (q := 360) (v := (1 : Int32)) (by decide) rfl ?_
  refine zl_iadd C dL_law_360 (q := 361) rfl ?_
  refine zl_sld C dL_law_361 (q := 362) (zl_idx (j := 1) hi hL (by decide) (by decide)) rfl ?_
  rw [nI_at_1 i L hi hL]
  refine zl_aload_n C dL_law_362 (q := 363) rfl 0 rfl rfl ?_
  refine zl_iload_n C dL_law_363 (q := 364) rfl 3 rfl rfl ?_
  refine zl_iconst C dL_law_364 (q := 365) (v := (2 : Int32)) (by decide) rfl ?_
  refine zl_iadd C dL_law_365 (q := 366) rfl ?_
  refine zl_sld C dL_law_366 (q := 367) (zl_idx (j := 2) hi hL (by decide) (by decide)) rfl ?_
  rw [nI_at_2 i L hi hL]
  refine zl_M (q := 370) (n := 2) C (As := [.int (xs (i + 1)), .int (xs (i + 2))]) (rest := [.int v]) dL_law_367 (zM_ValueBenchModel_dominates_met zM_So C.2.2.2.1.2 h2) ⟨zw_1156, zw_1157, zw_1158, zw_73, zw_1159, by decide +kernel⟩ ⟨by decide, 10, _, _, rfl, fun _ _ _ => ⟨_, rfl⟩⟩ ⟨by decide, by decide⟩ rfl (Nat.le_of_ble_eq_true rfl) rfl rfl ?_
  refine zl_eq (tgt := 793) C dL_law_370 (by decide) ?_
  exact next _ _ hI1
set_option maxRecDepth 100000 in
set_option maxHeartbeats 4000000 in
theorem zl_case7 {Z : zx_Z} {aM : Nat → Nat} {b L i : Nat} {xs : Nat → Int32} (C : zl_ok Z aM b L xs) (hL : L ≤ 3072) (hi : i + 6 ≤ L) {I : zx_S → zx_S → Prop} (hp : zp_S7 I) {σ τ : zx_S} (hI : I σ τ) (next : ∀ σ τ, I σ τ → zL Z aM 793 [(0, .ref b), (1, .ref (zz_d Z 0)), (2, .ref (aM 0)), (3, .int (nI i))] [] σ τ) : zL Z aM 375 [(0, .ref b), (1, .ref (zz_d Z 0)), (2, .ref (aM 0)), (3, .int (nI i))] [] σ τ := by
  obtain ⟨v, σ1, τ1, h1, h2, hI1⟩ := hp σ τ (xs (i + 1)) (xs (i + 2)) hI
  refine zl_aload_n C dL_law_375 (q := 376) rfl 1 rfl rfl ?_
  refine zl_aload_n C dL_law_376 (q := 377) rfl 0 rfl rfl ?_
  refine zl_iload_n C dL_law_377 (q := 378) rfl 3 rfl rfl ?_
  refine zl_iconst C dL_law_378 (q := 379) (v := (1 : Int32)) (by decide) rfl ?_
  refine zl_iadd C dL_law_379 (q := 380) rfl ?_
  refine zl_sld C dL_law_380 (q := 381) (zl_idx (j := 1) hi hL (by decide) (by decide)) rfl ?_
  rw [nI_at_1 i L hi hL]
  refine zl_aload_n C dL_law_381 (q := 382) rfl 0 rfl rfl ?_
  refine zl_iload_n C dL_law_382 (q := 383) rfl 3 rfl rfl ?_
  refine zl_iconst C dL_law_383 (q := 384) (v := (2 : Int32)) (by decide) rfl ?_
  refine zl_iadd C dL_law_384 (q := 385) rfl ?_
  refine zl_sld C dL_law_385 (q := 386) (zl_idx (j := 2) hi hL (by decide) (by decide)) rfl ?_
  rw [nI_at_2 i L hi hL]
  refine zl_X (q := 389) (n := 2) C (As := [.int (xs (i + 1)), .int (xs (i + 2))]) (rest := []) dL_law_386 (zX_ValueBench_meets_met zX_So C.2.2.2.1.1 h1) ⟨zw_677, zw_678, zw_679, zw_62, zw_680, by decide +kernel⟩ ⟨by decide, 9, _, _, rfl, fun _ _ _ => ⟨_, rfl⟩⟩ ⟨by decide, by decide⟩ rfl (Nat.le_of_ble_eq_true rfl) rfl rfl ?_
  refine zl_aload_n C dL_law_389 (q := 390) rfl 2 rfl rfl ?_
  refine zl_aload_n C dL_law_390 (q := 391) rfl 0 rfl rfl ?_
  refine zl_iload_n C dL_law_391 (q := 392) rfl 3 rfl rfl ?_
  refine zl_iconst C dL_law_392 (q := 393) (v := (1 : Int32)) (by decide) rfl ?_
  refine zl_iadd C dL_law_393 (q := 394) rfl ?_
  refine zl_sld C dL_law_394 (q := 395) (zl_idx (j := 1) hi hL (by decide) (by decide)) rfl ?_
  rw [nI_at_1 i L hi hL]
  refine zl_aload_n C dL_law_395 (q := 396) rfl 0 rfl rfl ?_
  refine zl_iload_n C dL_law_396 (q := 397) rfl 3 rfl rfl ?_
  refine zl_iconst C dL_law_397 (q := 398) (v := (2 : Int32)) (by decide) rfl ?_
  refine zl_iadd C dL_law_398 (q := 399) rfl ?_
  refine zl_sld C dL_law_399 (q := 400) (zl_idx (j := 2) hi hL (by decide) (by decide)) rfl ?_
  rw [nI_at_2 i L hi hL]
  refine zl_M (q := 403) (n := 2) C (As := [.int (xs (i + 1)), .int (xs (i + 2))]) (rest := [.int v]) dL_law_400 (zM_ValueBenchModel_meets_met zM_So C.2.2.2.1.2 h2) ⟨zw_1164, zw_1165, zw_1166, zw_73, zw_1167, by decide +kernel⟩ ⟨by decide, 10, _, _, rfl, fun _ _ _ => ⟨_, rfl⟩⟩ ⟨by decide, by decide⟩ rfl (Nat.le_of_ble_eq_true rfl) rfl rfl ?_
  refine zl_eq (tgt := 793) C dL_law_403 (by decide) ?_
  exact next _ _ hI1
set_option maxRecDepth 100000 in
set_option maxHeartbeats 4000000 in
theorem zl_case8 {Z : zx_Z} {aM : Nat → Nat} {b L i : Nat} {xs : Nat → Int32} (C : zl_ok Z aM b L xs) (hL : L ≤ 3072) (hi : i + 6 ≤ L) {I : zx_S → zx_S → Prop} (hp : zp_S8 I) {σ τ : zx_S} (hI : I σ τ) (next : ∀ σ τ, I σ τ → zL Z aM 793 [(0, .ref b), (1, .ref (zz_d Z 0)), (2, .ref (aM 0)), (3, .int (nI i))] [] σ τ) : zL Z aM 408 [(0, .ref b), (1, .ref (zz_d Z 0)), (2, .ref (aM 0)), (3, .int (nI i))] [] σ τ := by
  obtain ⟨v, σ1, τ1, h1, h2, hI1⟩ := hp σ τ (xs (i + 1)) (xs (i + 2)) hI
  refine zl_aload_n C dL_law_408 (q := 409) rfl 1 rfl rfl ?_
  refine zl_aload_n C dL_law_409 (q := 410) rfl 0 rfl rfl ?_
  refine zl_iload_n C dL_law_410 (q := 411) rfl 3 rfl rfl ?_
  refine zl_iconst C dL_law_411 (q := 412) (v := (1 : Int32)) (by decide) rfl ?_
  refine zl_iadd C dL_law_412 (q := 413) rfl ?_
  refine zl_sld C dL_law_413 (q := 414) (zl_idx (j := 1) hi hL (by decide) (by decide)) rfl ?_
  rw [nI_at_1 i L hi hL]
  refine zl_aload_n C dL_law_414 (q := 415) rfl 0 rfl rfl ?_
  refine zl_iload_n C dL_law_415 (q := 416) rfl 3 rfl rfl ?_
  refine zl_iconst C dL_law_416 (q := 417) (v := (2 : Int32)) (by decide) rfl ?_
  refine zl_iadd C dL_law_417 (q := 418) rfl ?_
  refine zl_sld C dL_law_418 (q := 419) (zl_idx (j := 2) hi hL (by decide) (by decide)) rfl ?_
  rw [nI_at_2 i L hi hL]
  refine zl_X (q := 422) (n := 2) C (As := [.int (xs (i + 1)), .int (xs (i + 2))]) (rest := []) dL_law_419 (zX_ValueBench_value_met zX_So C.2.2.2.1.1 h1) ⟨zw_681, zw_682, zw_683, zw_62, zw_684, by decide +kernel⟩ ⟨by decide, 9, _, _, rfl, fun _ _ _ => ⟨_, rfl⟩⟩ ⟨by decide, by decide⟩ rfl (Nat.le_of_ble_eq_true rfl) rfl rfl ?_
  refine zl_aload_n C dL_law_422 (q := 423) rfl 2 rfl rfl ?_
  refine zl_aload_n C dL_law_423 (q := 424) rfl 0 rfl rfl ?_
  refine zl_iload_n C dL_law_424 (q := 425) rfl 3 rfl rfl ?_
  refine zl_iconst C dL_law_425 (q := 426) (v := (1 : Int32)) (by decide) rfl ?_
  refine zl_iadd C dL_law_426 (q := 427) rfl ?_
  refine zl_sld C dL_law_427 (q := 428) (zl_idx (j := 1) hi hL (by decide) (by decide)) rfl ?_
  rw [nI_at_1 i L hi hL]
  refine zl_aload_n C dL_law_428 (q := 429) rfl 0 rfl rfl ?_
  refine zl_iload_n C dL_law_429 (q := 430) rfl 3 rfl rfl ?_
  refine zl_iconst C dL_law_430 (q := 431) (v := (2 : Int32)) (by decide) rfl ?_
  refine zl_iadd C dL_law_431 (q := 432) rfl ?_
  refine zl_sld C dL_law_432 (q := 433) (zl_idx (j := 2) hi hL (by decide) (by decide)) rfl ?_
  rw [nI_at_2 i L hi hL]
  refine zl_M (q := 436) (n := 2) C (As := [.int (xs (i + 1)), .int (xs (i + 2))]) (rest := [.int v]) dL_law_433 (zM_ValueBenchModel_value_met zM_So C.2.2.2.1.2 h2) ⟨zw_1168, zw_1169, zw_1170, zw_73, zw_1171, by decide +kernel⟩ ⟨by decide, 10, _, _, rfl, fun _ _ _ => ⟨_, rfl⟩⟩ ⟨by decide, by decide⟩ rfl (Nat.le_of_ble_eq_true rfl) rfl rfl ?_
  refine zl_eq (tgt := 793) C dL_law_436 (by decide) ?_
  exact next _ _ hI1
set_option maxRecDepth 100000 in
set_option maxHeartbeats 4000000 in
theorem zl_case9 {Z : zx_Z} {aM : Nat → Nat} {b L i : Nat} {xs : Nat → Int32} (C : zl_ok Z aM b L xs) (hL : L ≤ 3072) (hi : i + 6 ≤ L) {I : zx_S → zx_S → Prop} (hp : zp_S9 I) {σ τ : zx_S} (hI : I σ τ) (next : ∀ σ τ, I σ τ → zL Z aM 793 [(0, .ref b), (1, .ref (zz_d Z 0)), (2, .ref (aM 0)), (3, .int (nI i))] [] σ τ) : zL Z aM 441 [(0, .ref b), (1, .ref (zz_d Z 0)), (2, .ref (aM 0)), (3, .int (nI i))] [] σ τ := by
  obtain ⟨v, σ1, τ1, h1, h2, hI1⟩ := hp σ τ (xs (i + 1)) (xs (i + 2)) hI
  refine zl_aload_n C dL_law_441 (q := 442) rfl 1 rfl rfl ?_
  refine zl_aload_n C dL_law_442 (q := 443) rfl 0 rfl rfl ?_
  refine zl_iload_n C dL_law_443 (q := 444) rfl 3 rfl rfl ?_
  refine zl_iconst C dL_law_444 (q := 445) (v := (1 : Int32)) (by decide) rfl ?_
  refine zl_iadd C dL_law_445 (q := 446) rfl ?_
  refine zl_sld C dL_law_446 (q := 447) (zl_idx (j := 1) hi hL (by decide) (by decide)) rfl ?_
  rw [nI_at_1 i L hi hL]
  refine zl_aload_n C dL_law_447 (q := 448) rfl 0 rfl rfl ?_
  refine zl_iload_n C dL_law_448 (q := 449) rfl 3 rfl rfl ?_
  refine zl_iconst C dL_law_449 (q := 450) (v := (2 : Int32)) (by decide) rfl ?_
  refine zl_iadd C dL_law_450 (q := 451) rfl ?_
  refine zl_sld C dL_law_451 (q := 452) (zl_idx (j := 2) hi hL (by decide) (by decide)) rfl ?_
  rw [nI_at_2 i L hi hL]
  refine zl_X (q := 455) (n := 2) C (As := [.int (xs (i + 1)), .int (xs (i + 2))]) (rest := []) dL_law_452 (zX_ValueBench_operand_met zX_So C.2.2.2.1.1 h1) ⟨zw_690, zw_691, zw_692, zw_62, zw_693, by decide +kernel⟩ ⟨by decide, 9, _, _, rfl, fun _ _ _ => ⟨_, rfl⟩⟩ ⟨by decide, by decide⟩ rfl (Nat.le_of_ble_eq_true rfl) rfl rfl ?_
  refine zl_aload_n C dL_law_455 (q := 456) rfl 2 rfl rfl ?_
  refine zl_aload_n C dL_law_456 (q := 457) rfl 0 rfl rfl ?_
  refine zl_iload_n C dL_law_457 (q := 458) rfl 3 rfl rfl ?_
  refine zl_iconst C dL_law_458 (q := 459) (v := (1 : Int32)) (by decide) rfl ?_
  refine zl_iadd C dL_law_459 (q := 460) rfl ?_
  refine zl_sld C dL_law_460 (q := 461) (zl_idx (j := 1) hi hL (by decide) (by decide)) rfl ?_
  rw [nI_at_1 i L hi hL]
  refine zl_aload_n C dL_law_461 (q := 462) rfl 0 rfl rfl ?_
  refine zl_iload_n C dL_law_462 (q := 463) rfl 3 rfl rfl ?_
  refine zl_iconst C dL_law_463 (q := 464) (v := (2 : Int32)) (by decide) rfl ?_
  refine zl_iadd C dL_law_464 (q := 465) rfl ?_
  refine zl_sld C dL_law_465 (q := 466) (zl_idx (j := 2) hi hL (by decide) (by decide)) rfl ?_
  rw [nI_at_2 i L hi hL]
  refine zl_M (q := 469) (n := 2) C (As := [.int (xs (i + 1)), .int (xs (i + 2))]) (rest := [.int v]) dL_law_466 (zM_ValueBenchModel_operand_met zM_So C.2.2.2.1.2 h2) ⟨zw_1176, zw_1177, zw_1178, zw_73, zw_1179, by decide +kernel⟩ ⟨by decide, 10, _, _, rfl, fun _ _ _ => ⟨_, rfl⟩⟩ ⟨by decide, by decide⟩ rfl (Nat.le_of_ble_eq_true rfl) rfl rfl ?_
  refine zl_eq (tgt := 793) C dL_law_469 (by decide) ?_
  exact next _ _ hI1
set_option maxRecDepth 100000 in
set_option maxHeartbeats 4000000 in
theorem zl_case10 {Z : zx_Z} {aM : Nat → Nat} {b L i : Nat} {xs : Nat → Int32} (C : zl_ok Z aM b L xs) (hL : L ≤ 3072) (hi : i + 6 ≤ L) {I : zx_S → zx_S → Prop} (hp : zp_S10 I) {σ τ : zx_S} (hI : I σ τ) (next : ∀ σ τ, I σ τ → zL Z aM 793 [(0, .ref b), (1, .ref (zz_d Z 0)), (2, .ref (aM 0)), (3, .int (nI i))] [] σ τ) : zL Z aM 474 [(0, .ref b), (1, .ref (zz_d Z 0)), (2, .ref (aM 0)), (3, .int (nI i))] [] σ τ := by
  obtain ⟨v, σ1, τ1, h1, h2, hI1⟩ := hp σ τ (xs (i + 1)) (xs (i + 2)) hI
  refine zl_aload_n C dL_law_474 (q := 475) rfl 1 rfl rfl ?_
  refine zl_aload_n C dL_law_475 (q := 476) rfl 0 rfl rfl ?_
  refine zl_iload_n C dL_law_476 (q := 477) rfl 3 rfl rfl ?_
  refine zl_iconst C dL_law_477 (q := 478) (v := (1 : Int32)) (by decide) rfl ?_
  refine zl_iadd C dL_law_478 (q := 479) rfl ?_
  refine zl_sld C dL_law_479 (q := 480) (zl_idx (j := 1) hi hL (by decide) (by decide)) rfl ?_
  rw [nI_at_1 i L hi hL]
  refine zl_aload_n C dL_law_480 (q := 481) rfl 0 rfl rfl ?_
  refine zl_iload_n C dL_law_481 (q := 482) rfl 3 rfl rfl ?_
  refine zl_iconst C dL_law_482 (q := 483) (v := (2 : Int32)) (by decide) rfl ?_
  refine zl_iadd C dL_law_483 (q := 484) rfl ?_
  refine zl_sld C dL_law_484 (q := 485) (zl_idx (j := 2) hi hL (by decide) (by decide)) rfl ?_
  rw [nI_at_2 i L hi hL]
  refine zl_X (q := 488) (n := 2) C (As := [.int (xs (i + 1)), .int (xs (i + 2))]) (rest := []) dL_law_485 (zX_ValueBench_led_met zX_So C.2.2.2.1.1 h1) ⟨zw_700, zw_701, zw_702, zw_62, zw_703, by decide +kernel⟩ ⟨by decide, 9, _, _, rfl, fun _ _ _ => ⟨_, rfl⟩⟩ ⟨by decide, by decide⟩ rfl (Nat.le_of_ble_eq_true rfl) rfl rfl ?_
  refine zl_aload_n C dL_law_488 (q := 489) rfl 2 rfl rfl ?_
  refine zl_aload_n C dL_law_489 (q := 490) rfl 0 rfl rfl ?_
  refine zl_iload_n C dL_law_490 (q := 491) rfl 3 rfl rfl ?_
  refine zl_iconst C dL_law_491 (q := 492) (v := (1 : Int32)) (by decide) rfl ?_
  refine zl_iadd C dL_law_492 (q := 493) rfl ?_
  refine zl_sld C dL_law_493 (q := 494) (zl_idx (j := 1) hi hL (by decide) (by decide)) rfl ?_
  rw [nI_at_1 i L hi hL]
  refine zl_aload_n C dL_law_494 (q := 495) rfl 0 rfl rfl ?_
  refine zl_iload_n C dL_law_495 (q := 496) rfl 3 rfl rfl ?_
  refine zl_iconst C dL_law_496 (q := 497) (v := (2 : Int32)) (by decide) rfl ?_
  refine zl_iadd C dL_law_497 (q := 498) rfl ?_
  refine zl_sld C dL_law_498 (q := 499) (zl_idx (j := 2) hi hL (by decide) (by decide)) rfl ?_
  rw [nI_at_2 i L hi hL]
  refine zl_M (q := 502) (n := 2) C (As := [.int (xs (i + 1)), .int (xs (i + 2))]) (rest := [.int v]) dL_law_499 (zM_ValueBenchModel_led_met zM_So C.2.2.2.1.2 h2) ⟨zw_1184, zw_1185, zw_1186, zw_73, zw_1187, by decide +kernel⟩ ⟨by decide, 10, _, _, rfl, fun _ _ _ => ⟨_, rfl⟩⟩ ⟨by decide, by decide⟩ rfl (Nat.le_of_ble_eq_true rfl) rfl rfl ?_
  refine zl_eq (tgt := 793) C dL_law_502 (by decide) ?_
  exact next _ _ hI1
set_option maxRecDepth 100000 in
set_option maxHeartbeats 4000000 in
theorem zl_case11 {Z : zx_Z} {aM : Nat → Nat} {b L i : Nat} {xs : Nat → Int32} (C : zl_ok Z aM b L xs) (hL : L ≤ 3072) (hi : i + 6 ≤ L) {I : zx_S → zx_S → Prop} (hp : zp_S11 I) {σ τ : zx_S} (hI : I σ τ) (next : ∀ σ τ, I σ τ → zL Z aM 793 [(0, .ref b), (1, .ref (zz_d Z 0)), (2, .ref (aM 0)), (3, .int (nI i))] [] σ τ) : zL Z aM 507 [(0, .ref b), (1, .ref (zz_d Z 0)), (2, .ref (aM 0)), (3, .int (nI i))] [] σ τ := by
  obtain ⟨v, σ1, τ1, h1, h2, hI1⟩ := hp σ τ (xs (i + 1)) hI
  refine zl_aload_n C dL_law_507 (q := 508) rfl 1 rfl rfl ?_
  refine zl_aload_n C dL_law_508 (q := 509) rfl 0 rfl rfl ?_
  refine zl_iload_n C dL_law_509 (q := 510) rfl 3 rfl rfl ?_
  refine zl_iconst C dL_law_510 (q := 511) (v := (1 : Int32)) (by decide) rfl ?_
  refine zl_iadd C dL_law_511 (q := 512) rfl ?_
  refine zl_sld C dL_law_512 (q := 513) (zl_idx (j := 1) hi hL (by decide) (by decide)) rfl ?_
  rw [nI_at_1 i L hi hL]
  refine zl_X (q := 516) (n := 1) C (As := [.int (xs (i + 1))]) (rest := []) dL_law_513 (zX_ValueBench_classOf_met zX_So C.2.2.2.1.1 h1) ⟨zw_704, zw_705, zw_706, zw_62, zw_707, by decide +kernel⟩ ⟨by decide, 9, _, _, rfl, fun _ _ _ => ⟨_, rfl⟩⟩ ⟨by decide, by decide⟩ rfl (Nat.le_of_ble_eq_true rfl) rfl rfl ?_
  refine zl_aload_n C dL_law_516 (q := 517) rfl 2 rfl rfl ?_
  refine zl_aload_n C dL_law_517 (q := 518) rfl 0 rfl rfl ?_
  refine zl_iload_n C dL_law_518 (q := 519) rfl 3 rfl rfl ?_
  refine zl_iconst C dL_law_519 (q := 520) (v := (1 : Int32)) (by decide) rfl ?_
  refine zl_iadd C dL_law_520 (q := 521) rfl ?_
  refine zl_sld C dL_law_521 (q := 522) (zl_idx (j := 1) hi hL (by decide) (by decide)) rfl ?_
  rw [nI_at_1 i L hi hL]
  refine zl_M (q := 525) (n := 1) C (As := [.int (xs (i + 1))]) (rest := [.int v]) dL_law_522 (zM_ValueBenchModel_classOf_met zM_So C.2.2.2.1.2 h2) ⟨zw_1188, zw_1189, zw_1190, zw_73, zw_1191, by decide +kernel⟩ ⟨by decide, 10, _, _, rfl, fun _ _ _ => ⟨_, rfl⟩⟩ ⟨by decide, by decide⟩ rfl (Nat.le_of_ble_eq_true rfl) rfl rfl ?_
  refine zl_eq (tgt := 793) C dL_law_525 (by decide) ?_
  exact next _ _ hI1
set_option maxRecDepth 100000 in
set_option maxHeartbeats 4000000 in
theorem zl_case12 {Z : zx_Z} {aM : Nat → Nat} {b L i : Nat} {xs : Nat → Int32} (C : zl_ok Z aM b L xs) (hL : L ≤ 3072) (hi : i + 6 ≤ L) {I : zx_S → zx_S → Prop} (hp : zp_S12 I) {σ τ : zx_S} (hI : I σ τ) (next : ∀ σ τ, I σ τ → zL Z aM 793 [(0, .ref b), (1, .ref (zz_d Z 0)), (2, .ref (aM 0)), (3, .int (nI i))] [] σ τ) : zL Z aM 530 [(0, .ref b), (1, .ref (zz_d Z 0)), (2, .ref (aM 0)), (3, .int (nI i))] [] σ τ := by
  by_cases hz2 : xs (i + 2) = 0
  · skip
    obtain ⟨v, σ1, τ1, h1, h2, hI1⟩ := hp σ τ (xs (i + 1)) (0 : Int32) hI (Or.inl rfl)
    refine zl_aload_n C dL_law_530 (q := 531) rfl 1 rfl rfl ?_
    refine zl_aload_n C dL_law_531 (q := 532) rfl 0 rfl rfl ?_
    refine zl_iload_n C dL_law_532 (q := 533) rfl 3 rfl rfl ?_
    refine zl_iconst C dL_law_533 (q := 534) (v := (1 : Int32)) (by decide) rfl ?_
    refine zl_iadd C dL_law_534 (q := 535) rfl ?_
    refine zl_sld C dL_law_535 (q := 536) (zl_idx (j := 1) hi hL (by decide) (by decide)) rfl ?_
    rw [nI_at_1 i L hi hL]
    refine zl_aload_n C dL_law_536 (q := 537) rfl 0 rfl rfl ?_
    refine zl_iload_n C dL_law_537 (q := 538) rfl 3 rfl rfl ?_
    refine zl_iconst C dL_law_538 (q := 539) (v := (2 : Int32)) (by decide) rfl ?_
    refine zl_iadd C dL_law_539 (q := 540) rfl ?_
    refine zl_sld C dL_law_540 (q := 541) (zl_idx (j := 2) hi hL (by decide) (by decide)) rfl ?_
    rw [nI_at_2 i L hi hL]
    refine zl_ift (tgt := 548) C dL_law_541 hz2 (by decide) ?_
    refine zl_iconst C dL_law_548 (q := 549) (v := (0 : Int32)) (by decide) rfl ?_
    refine zl_X (q := 552) (n := 2) C (As := [.int (xs (i + 1)), .int (0 : Int32)]) (rest := []) dL_law_549 (zX_ValueBench_read_met zX_So C.2.2.2.1.1 h1) ⟨zw_708, zw_709, zw_710, zw_62, zw_711, by decide +kernel⟩ ⟨by decide, 9, _, _, rfl, fun _ _ _ => ⟨_, rfl⟩⟩ ⟨by decide, by decide⟩ rfl (Nat.le_of_ble_eq_true rfl) rfl rfl ?_
    refine zl_aload_n C dL_law_552 (q := 553) rfl 2 rfl rfl ?_
    refine zl_aload_n C dL_law_553 (q := 554) rfl 0 rfl rfl ?_
    refine zl_iload_n C dL_law_554 (q := 555) rfl 3 rfl rfl ?_
    refine zl_iconst C dL_law_555 (q := 556) (v := (1 : Int32)) (by decide) rfl ?_
    refine zl_iadd C dL_law_556 (q := 557) rfl ?_
    refine zl_sld C dL_law_557 (q := 558) (zl_idx (j := 1) hi hL (by decide) (by decide)) rfl ?_
    rw [nI_at_1 i L hi hL]
    refine zl_aload_n C dL_law_558 (q := 559) rfl 0 rfl rfl ?_
    refine zl_iload_n C dL_law_559 (q := 560) rfl 3 rfl rfl ?_
    refine zl_iconst C dL_law_560 (q := 561) (v := (2 : Int32)) (by decide) rfl ?_
    refine zl_iadd C dL_law_561 (q := 562) rfl ?_
    refine zl_sld C dL_law_562 (q := 563) (zl_idx (j := 2) hi hL (by decide) (by decide)) rfl ?_
    rw [nI_at_2 i L hi hL]
    refine zl_ift (tgt := 570) C dL_law_563 hz2 (by decide) ?_
    refine zl_iconst C dL_law_570 (q := 571) (v := (0 : Int32)) (by decide) rfl ?_
    refine zl_M (q := 574) (n := 2) C (As := [.int (xs (i + 1)), .int (0 : Int32)]) (rest := [.int v]) dL_law_571 (zM_ValueBenchModel_read_met zM_So C.2.2.2.1.2 h2) ⟨zw_1192, zw_1193, zw_1194, zw_73, zw_1195, by decide +kernel⟩ ⟨by decide, 10, _, _, rfl, fun _ _ _ => ⟨_, rfl⟩⟩ ⟨by decide, by decide⟩ rfl (Nat.le_of_ble_eq_true rfl) rfl rfl ?_
    refine zl_eq (tgt := 793) C dL_law_574 (by decide) ?_
    exact next _ _ hI1
  · skip
    obtain ⟨v, σ1, τ1, h1, h2, hI1⟩ := hp σ τ (xs (i + 1)) (1 : Int32) hI (Or.inr rfl)
    refine zl_aload_n C dL_law_530 (q := 531) rfl 1 rfl rfl ?_
    refine zl_aload_n C dL_law_531 (q := 532) rfl 0 rfl rfl ?_
    refine zl_iload_n C dL_law_532 (q := 533) rfl 3 rfl rfl ?_
    refine zl_iconst C dL_law_533 (q := 534) (v := (1 : Int32)) (by decide) rfl ?_
    refine zl_iadd C dL_law_534 (q := 535) rfl ?_
    refine zl_sld C dL_law_535 (q := 536) (zl_idx (j := 1) hi hL (by decide) (by decide)) rfl ?_
    rw [nI_at_1 i L hi hL]
    refine zl_aload_n C dL_law_536 (q := 537) rfl 0 rfl rfl ?_
    refine zl_iload_n C dL_law_537 (q := 538) rfl 3 rfl rfl ?_
    refine zl_iconst C dL_law_538 (q := 539) (v := (2 : Int32)) (by decide) rfl ?_
    refine zl_iadd C dL_law_539 (q := 540) rfl ?_
    refine zl_sld C dL_law_540 (q := 541) (zl_idx (j := 2) hi hL (by decide) (by decide)) rfl ?_
    rw [nI_at_2 i L hi hL]
    refine zl_iff (tgt := 548) (q := 544) C dL_law_541 hz2 (by decide) rfl ?_
    refine zl_iconst C dL_law_544 (q := 545) (v := (1 : Int32)) (by decide) rfl ?_
    refine zl_goto (q := 549) C dL_law_545 (by decide) ?_
    refine zl_X (q := 552) (n := 2) C (As := [.int (xs (i + 1)), .int (1 : Int32)]) (rest := []) dL_law_549 (zX_ValueBench_read_met zX_So C.2.2.2.1.1 h1) ⟨zw_708, zw_709, zw_710, zw_62, zw_711, by decide +kernel⟩ ⟨by decide, 9, _, _, rfl, fun _ _ _ => ⟨_, rfl⟩⟩ ⟨by decide, by decide⟩ rfl (Nat.le_of_ble_eq_true rfl) rfl rfl ?_
    refine zl_aload_n C dL_law_552 (q := 553) rfl 2 rfl rfl ?_
    refine zl_aload_n C dL_law_553 (q := 554) rfl 0 rfl rfl ?_
    refine zl_iload_n C dL_law_554 (q := 555) rfl 3 rfl rfl ?_
    refine zl_iconst C dL_law_555 (q := 556) (v := (1 : Int32)) (by decide) rfl ?_
    refine zl_iadd C dL_law_556 (q := 557) rfl ?_
    refine zl_sld C dL_law_557 (q := 558) (zl_idx (j := 1) hi hL (by decide) (by decide)) rfl ?_
    rw [nI_at_1 i L hi hL]
    refine zl_aload_n C dL_law_558 (q := 559) rfl 0 rfl rfl ?_
    refine zl_iload_n C dL_law_559 (q := 560) rfl 3 rfl rfl ?_
    refine zl_iconst C dL_law_560 (q := 561) (v := (2 : Int32)) (by decide) rfl ?_
    refine zl_iadd C dL_law_561 (q := 562) rfl ?_
    refine zl_sld C dL_law_562 (q := 563) (zl_idx (j := 2) hi hL (by decide) (by decide)) rfl ?_
    rw [nI_at_2 i L hi hL]
    refine zl_iff (tgt := 570) (q := 566) C dL_law_563 hz2 (by decide) rfl ?_
    refine zl_iconst C dL_law_566 (q := 567) (v := (1 : Int32)) (by decide) rfl ?_
    refine zl_goto (q := 571) C dL_law_567 (by decide) ?_
    refine zl_M (q := 574) (n := 2) C (As := [.int (xs (i + 1)), .int (1 : Int32)]) (rest := [.int v]) dL_law_571 (zM_ValueBenchModel_read_met zM_So C.2.2.2.1.2 h2) ⟨zw_1192, zw_1193, zw_1194, zw_73, zw_1195, by decide +kernel⟩ ⟨by decide, 10, _, _, rfl, fun _ _ _ => ⟨_, rfl⟩⟩ ⟨by decide, by decide⟩ rfl (Nat.le_of_ble_eq_true rfl) rfl rfl ?_
    refine zl_eq (tgt := 793) C dL_law_574 (by decide) ?_
    exact next _ _ hI1
set_option maxRecDepth 100000 in
set_option maxHeartbeats 4000000 in
theorem zl_case13 {Z : zx_Z} {aM : Nat → Nat} {b L i : Nat} {xs : Nat → Int32} (C : zl_ok Z aM b L xs) (hL : L ≤ 3072) (hi : i + 6 ≤ L) {I : zx_S → zx_S → Prop} (hp : zp_S13 I) {σ τ : zx_S} (hI : I σ τ) (next : ∀ σ τ, I σ τ → zL Z aM 793 [(0, .ref b), (1, .ref (zz_d Z 0)), (2, .ref (aM 0)), (3, .int (nI i))] [] σ τ) : zL Z aM 579 [(0, .ref b), (1, .ref (zz_d Z 0)), (2, .ref (aM 0)), (3, .int (nI i))] [] σ τ := by
  by_cases hz3 : xs (i + 3) = 0
  · skip
    obtain ⟨v, σ1, τ1, h1, h2, hI1⟩ := hp σ τ (xs (i + 1)) (xs (i + 2)) (0 : Int32) hI (Or.inl rfl)
    refine zl_aload_n C dL_law_579 (q := 580) rfl 1 rfl rfl ?_
    refine zl_aload_n C dL_law_580 (q := 581) rfl 0 rfl rfl ?_
    refine zl_iload_n C dL_law_581 (q := 582) rfl 3 rfl rfl ?_
    refine zl_iconst C dL_law_582 (q := 583) (v := (1 : Int32)) (by decide) rfl ?_
    refine zl_iadd C dL_law_583 (q := 584) rfl ?_
    refine zl_sld C dL_law_584 (q := 585) (zl_idx (j := 1) hi hL (by decide) (by decide)) rfl ?_
    rw [nI_at_1 i L hi hL]
    refine zl_aload_n C dL_law_585 (q := 586) rfl 0 rfl rfl ?_
    refine zl_iload_n C dL_law_586 (q := 587) rfl 3 rfl rfl ?_
    refine zl_iconst C dL_law_587 (q := 588) (v := (2 : Int32)) (by decide) rfl ?_
    refine zl_iadd C dL_law_588 (q := 589) rfl ?_
    refine zl_sld C dL_law_589 (q := 590) (zl_idx (j := 2) hi hL (by decide) (by decide)) rfl ?_
    rw [nI_at_2 i L hi hL]
    refine zl_aload_n C dL_law_590 (q := 591) rfl 0 rfl rfl ?_
    refine zl_iload_n C dL_law_591 (q := 592) rfl 3 rfl rfl ?_
    refine zl_iconst C dL_law_592 (q := 593) (v := (3 : Int32)) (by decide) rfl ?_
    refine zl_iadd C dL_law_593 (q := 594) rfl ?_
    refine zl_sld C dL_law_594 (q := 595) (zl_idx (j := 3) hi hL (by decide) (by decide)) rfl ?_
    rw [nI_at_3 i L hi hL]
    refine zl_ift (tgt := 602) C dL_law_595 hz3 (by decide) ?_
    refine zl_iconst C dL_law_602 (q := 603) (v := (0 : Int32)) (by decide) rfl ?_
    refine zl_X (q := 606) (n := 3) C (As := [.int (xs (i + 1)), .int (xs (i + 2)), .int (0 : Int32)]) (rest := []) dL_law_603 (zX_ValueBench_emits_met zX_So C.2.2.2.1.1 h1) ⟨zw_716, zw_717, zw_718, zw_62, zw_719, by decide +kernel⟩ ⟨by decide, 9, _, _, rfl, fun _ _ _ => ⟨_, rfl⟩⟩ ⟨by decide, by decide⟩ rfl (Nat.le_of_ble_eq_true rfl) rfl rfl ?_
    refine zl_aload_n C dL_law_606 (q := 607) rfl 2 rfl rfl ?_
    refine zl_aload_n C dL_law_607 (q := 608) rfl 0 rfl rfl ?_
    refine zl_iload_n C dL_law_608 (q := 609) rfl 3 rfl rfl ?_
    refine zl_iconst C dL_law_609 (q := 610) (v := (1 : Int32)) (by decide) rfl ?_
    refine zl_iadd C dL_law_610 (q := 611) rfl ?_
    refine zl_sld C dL_law_611 (q := 612) (zl_idx (j := 1) hi hL (by decide) (by decide)) rfl ?_
    rw [nI_at_1 i L hi hL]
    refine zl_aload_n C dL_law_612 (q := 613) rfl 0 rfl rfl ?_
    refine zl_iload_n C dL_law_613 (q := 614) rfl 3 rfl rfl ?_
    refine zl_iconst C dL_law_614 (q := 615) (v := (2 : Int32)) (by decide) rfl ?_
    refine zl_iadd C dL_law_615 (q := 616) rfl ?_
    refine zl_sld C dL_law_616 (q := 617) (zl_idx (j := 2) hi hL (by decide) (by decide)) rfl ?_
    rw [nI_at_2 i L hi hL]
    refine zl_aload_n C dL_law_617 (q := 618) rfl 0 rfl rfl ?_
    refine zl_iload_n C dL_law_618 (q := 619) rfl 3 rfl rfl ?_
    refine zl_iconst C dL_law_619 (q := 620) (v := (3 : Int32)) (by decide) rfl ?_
    refine zl_iadd C dL_law_620 (q := 621) rfl ?_
    refine zl_sld C dL_law_621 (q := 622) (zl_idx (j := 3) hi hL (by decide) (by decide)) rfl ?_
    rw [nI_at_3 i L hi hL]
    refine zl_ift (tgt := 629) C dL_law_622 hz3 (by decide) ?_
    refine zl_iconst C dL_law_629 (q := 630) (v := (0 : Int32)) (by decide) rfl ?_
    refine zl_M (q := 633) (n := 3) C (As := [.int (xs (i + 1)), .int (xs (i + 2)), .int (0 : Int32)]) (rest := [.int v]) dL_law_630 (zM_ValueBenchModel_emits_met zM_So C.2.2.2.1.2 h2) ⟨zw_1196, zw_1197, zw_1198, zw_73, zw_1199, by decide +kernel⟩ ⟨by decide, 10, _, _, rfl, fun _ _ _ => ⟨_, rfl⟩⟩ ⟨by decide, by decide⟩ rfl (Nat.le_of_ble_eq_true rfl) rfl rfl ?_
    refine zl_eq (tgt := 793) C dL_law_633 (by decide) ?_
    exact next _ _ hI1
  · skip
    obtain ⟨v, σ1, τ1, h1, h2, hI1⟩ := hp σ τ (xs (i + 1)) (xs (i + 2)) (1 : Int32) hI (Or.inr rfl)
    refine zl_aload_n C dL_law_579 (q := 580) rfl 1 rfl rfl ?_
    refine zl_aload_n C dL_law_580 (q := 581) rfl 0 rfl rfl ?_
    refine zl_iload_n C dL_law_581 (q := 582) rfl 3 rfl rfl ?_
    refine zl_iconst C dL_law_582 (q := 583) (v := (1 : Int32)) (by decide) rfl ?_
    refine zl_iadd C dL_law_583 (q := 584) rfl ?_
    refine zl_sld C dL_law_584 (q := 585) (zl_idx (j := 1) hi hL (by decide) (by decide)) rfl ?_
    rw [nI_at_1 i L hi hL]
    refine zl_aload_n C dL_law_585 (q := 586) rfl 0 rfl rfl ?_
    refine zl_iload_n C dL_law_586 (q := 587) rfl 3 rfl rfl ?_
    refine zl_iconst C dL_law_587 (q := 588) (v := (2 : Int32)) (by decide) rfl ?_
    refine zl_iadd C dL_law_588 (q := 589) rfl ?_
    refine zl_sld C dL_law_589 (q := 590) (zl_idx (j := 2) hi hL (by decide) (by decide)) rfl ?_
    rw [nI_at_2 i L hi hL]
    refine zl_aload_n C dL_law_590 (q := 591) rfl 0 rfl rfl ?_
    refine zl_iload_n C dL_law_591 (q := 592) rfl 3 rfl rfl ?_
    refine zl_iconst C dL_law_592 (q := 593) (v := (3 : Int32)) (by decide) rfl ?_
    refine zl_iadd C dL_law_593 (q := 594) rfl ?_
    refine zl_sld C dL_law_594 (q := 595) (zl_idx (j := 3) hi hL (by decide) (by decide)) rfl ?_
    rw [nI_at_3 i L hi hL]
    refine zl_iff (tgt := 602) (q := 598) C dL_law_595 hz3 (by decide) rfl ?_
    refine zl_iconst C dL_law_598 (q := 599) (v := (1 : Int32)) (by decide) rfl ?_
    refine zl_goto (q := 603) C dL_law_599 (by decide) ?_
    refine zl_X (q := 606) (n := 3) C (As := [.int (xs (i + 1)), .int (xs (i + 2)), .int (1 : Int32)]) (rest := []) dL_law_603 (zX_ValueBench_emits_met zX_So C.2.2.2.1.1 h1) ⟨zw_716, zw_717, zw_718, zw_62, zw_719, by decide +kernel⟩ ⟨by decide, 9, _, _, rfl, fun _ _ _ => ⟨_, rfl⟩⟩ ⟨by decide, by decide⟩ rfl (Nat.le_of_ble_eq_true rfl) rfl rfl ?_
    refine zl_aload_n C dL_law_606 (q := 607) rfl 2 rfl rfl ?_
    refine zl_aload_n C dL_law_607 (q := 608) rfl 0 rfl rfl ?_
    refine zl_iload_n C dL_law_608 (q := 609) rfl 3 rfl rfl ?_
    refine zl_iconst C dL_law_609 (q := 610) (v := (1 : Int32)) (by decide) rfl ?_
    refine zl_iadd C dL_law_610 (q := 611) rfl ?_
    refine zl_sld C dL_law_611 (q := 612) (zl_idx (j := 1) hi hL (by decide) (by decide)) rfl ?_
    rw [nI_at_1 i L hi hL]
    refine zl_aload_n C dL_law_612 (q := 613) rfl 0 rfl rfl ?_
    refine zl_iload_n C dL_law_613 (q := 614) rfl 3 rfl rfl ?_
    refine zl_iconst C dL_law_614 (q := 615) (v := (2 : Int32)) (by decide) rfl ?_
    refine zl_iadd C dL_law_615 (q := 616) rfl ?_
    refine zl_sld C dL_law_616 (q := 617) (zl_idx (j := 2) hi hL (by decide) (by decide)) rfl ?_
    rw [nI_at_2 i L hi hL]
    refine zl_aload_n C dL_law_617 (q := 618) rfl 0 rfl rfl ?_
    refine zl_iload_n C dL_law_618 (q := 619) rfl 3 rfl rfl ?_
    refine zl_iconst C dL_law_619 (q := 620) (v := (3 : Int32)) (by decide) rfl ?_
    refine zl_iadd C dL_law_620 (q := 621) rfl ?_
    refine zl_sld C dL_law_621 (q := 622) (zl_idx (j := 3) hi hL (by decide) (by decide)) rfl ?_
    rw [nI_at_3 i L hi hL]
    refine zl_iff (tgt := 629) (q := 625) C dL_law_622 hz3 (by decide) rfl ?_
    refine zl_iconst C dL_law_625 (q := 626) (v := (1 : Int32)) (by decide) rfl ?_
    refine zl_goto (q := 630) C dL_law_626 (by decide) ?_
    refine zl_M (q := 633) (n := 3) C (As := [.int (xs (i + 1)), .int (xs (i + 2)), .int (1 : Int32)]) (rest := [.int v]) dL_law_630 (zM_ValueBenchModel_emits_met zM_So C.2.2.2.1.2 h2) ⟨zw_1196, zw_1197, zw_1198, zw_73, zw_1199, by decide +kernel⟩ ⟨by decide, 10, _, _, rfl, fun _ _ _ => ⟨_, rfl⟩⟩ ⟨by decide, by decide⟩ rfl (Nat.le_of_ble_eq_true rfl) rfl rfl ?_
    refine zl_eq (tgt := 793) C dL_law_633 (by decide) ?_
    exact next _ _ hI1
set_option maxRecDepth 100000 in
set_option maxHeartbeats 4000000 in
theorem zl_case14 {Z : zx_Z} {aM : Nat → Nat} {b L i : Nat} {xs : Nat → Int32} (C : zl_ok Z aM b L xs) (hL : L ≤ 3072) (hi : i + 6 ≤ L) {I : zx_S → zx_S → Prop} (hp : zp_S14 I) {σ τ : zx_S} (hI : I σ τ) (next : ∀ σ τ, I σ τ → zL Z aM 793 [(0, .ref b), (1, .ref (zz_d Z 0)), (2, .ref (aM 0)), (3, .int (nI i))] [] σ τ) : zL Z aM 638 [(0, .ref b), (1, .ref (zz_d Z 0)), (2, .ref (aM 0)), (3, .int (nI i))] [] σ τ := by
  obtain ⟨v, σ1, τ1, h1, h2, hI1⟩ := hp σ τ (xs (i + 1)) (xs (i + 2)) (xs (i + 3)) (xs (i + 4)) (xs (i + 5)) hI
  refine zl_aload_n C dL_law_638 (q := 639) rfl 1 rfl rfl ?_
  refine zl_aload_n C dL_law_639 (q := 640) rfl 0 rfl rfl ?_
  refine zl_iload_n C dL_law_640 (q := 641) rfl 3 rfl rfl ?_
  refine zl_iconst C dL_law_641 (q := 642) (v := (1 : Int32)) (by decide) rfl ?_
  refine zl_iadd C dL_law_642 (q := 643) rfl ?_
  refine zl_sld C dL_law_643 (q := 644) (zl_idx (j := 1) hi hL (by decide) (by decide)) rfl ?_
  rw [nI_at_1 i L hi hL]
  refine zl_aload_n C dL_law_644 (q := 645) rfl 0 rfl rfl ?_
  refine zl_iload_n C dL_law_645 (q := 646) rfl 3 rfl rfl ?_
  refine zl_iconst C dL_law_646 (q := 647) (v := (2 : Int32)) (by decide) rfl ?_
  refine zl_iadd C dL_law_647 (q := 648) rfl ?_
  refine zl_sld C dL_law_648 (q := 649) (zl_idx (j := 2) hi hL (by decide) (by decide)) rfl ?_
  rw [nI_at_2 i L hi hL]
  refine zl_aload_n C dL_law_649 (q := 650) rfl 0 rfl rfl ?_
  refine zl_iload_n C dL_law_650 (q := 651) rfl 3 rfl rfl ?_
  refine zl_iconst C dL_law_651 (q := 652) (v := (3 : Int32)) (by decide) rfl ?_
  refine zl_iadd C dL_law_652 (q := 653) rfl ?_
  refine zl_sld C dL_law_653 (q := 654) (zl_idx (j := 3) hi hL (by decide) (by decide)) rfl ?_
  rw [nI_at_3 i L hi hL]
  refine zl_aload_n C dL_law_654 (q := 655) rfl 0 rfl rfl ?_
  refine zl_iload_n C dL_law_655 (q := 656) rfl 3 rfl rfl ?_
  refine zl_iconst C dL_law_656 (q := 657) (v := (4 : Int32)) (by decide) rfl ?_
  refine zl_iadd C dL_law_657 (q := 658) rfl ?_
  refine zl_sld C dL_law_658 (q := 659) (zl_idx (j := 4) hi hL (by decide) (by decide)) rfl ?_
  rw [nI_at_4 i L hi hL]
  refine zl_aload_n C dL_law_659 (q := 660) rfl 0 rfl rfl ?_
  refine zl_iload_n C dL_law_660 (q := 661) rfl 3 rfl rfl ?_
  refine zl_iconst C dL_law_661 (q := 662) (v := (5 : Int32)) (by decide) rfl ?_
  refine zl_iadd C dL_law_662 (q := 663) rfl ?_
  refine zl_sld C dL_law_663 (q := 664) (zl_idx (j := 5) hi hL (by decide) (by decide)) rfl ?_
  rw [nI_at_5 i L hi hL]
  refine zl_X (q := 667) (n := 5) C (As := [.int (xs (i + 1)), .int (xs (i + 2)), .int (xs (i + 3)), .int (xs (i + 4)), .int (xs (i + 5))]) (rest := []) dL_law_664 (zX_ValueBench_run_met zX_So C.2.2.2.1.1 h1) ⟨zw_724, zw_725, zw_726, zw_62, zw_727, by decide +kernel⟩ ⟨by decide, 9, _, _, rfl, fun _ _ _ => ⟨_, rfl⟩⟩ ⟨by decide, by decide⟩ rfl (Nat.le_of_ble_eq_true rfl) rfl rfl ?_
  refine zl_aload_n C dL_law_667 (q := 668) rfl 2 rfl rfl ?_
  refine zl_aload_n C dL_law_668 (q := 669) rfl 0 rfl rfl ?_
  refine zl_iload_n C dL_law_669 (q := 670) rfl 3 rfl rfl ?_
  refine zl_iconst C dL_law_670 (q := 671) (v := (1 : Int32)) (by decide) rfl ?_
  refine zl_iadd C dL_law_671 (q := 672) rfl ?_
  refine zl_sld C dL_law_672 (q := 673) (zl_idx (j := 1) hi hL (by decide) (by decide)) rfl ?_
  rw [nI_at_1 i L hi hL]
  refine zl_aload_n C dL_law_673 (q := 674) rfl 0 rfl rfl ?_
  refine zl_iload_n C dL_law_674 (q := 675) rfl 3 rfl rfl ?_
  refine zl_iconst C dL_law_675 (q := 676) (v := (2 : Int32)) (by decide) rfl ?_
  refine zl_iadd C dL_law_676 (q := 677) rfl ?_
  refine zl_sld C dL_law_677 (q := 678) (zl_idx (j := 2) hi hL (by decide) (by decide)) rfl ?_
  rw [nI_at_2 i L hi hL]
  refine zl_aload_n C dL_law_678 (q := 679) rfl 0 rfl rfl ?_
  refine zl_iload_n C dL_law_679 (q := 680) rfl 3 rfl rfl ?_
  refine zl_iconst C dL_law_680 (q := 681) (v := (3 : Int32)) (by decide) rfl ?_
  refine zl_iadd C dL_law_681 (q := 682) rfl ?_
  refine zl_sld C dL_law_682 (q := 683) (zl_idx (j := 3) hi hL (by decide) (by decide)) rfl ?_
  rw [nI_at_3 i L hi hL]
  refine zl_aload_n C dL_law_683 (q := 684) rfl 0 rfl rfl ?_
  refine zl_iload_n C dL_law_684 (q := 685) rfl 3 rfl rfl ?_
  refine zl_iconst C dL_law_685 (q := 686) (v := (4 : Int32)) (by decide) rfl ?_
  refine zl_iadd C dL_law_686 (q := 687) rfl ?_
  refine zl_sld C dL_law_687 (q := 688) (zl_idx (j := 4) hi hL (by decide) (by decide)) rfl ?_
  rw [nI_at_4 i L hi hL]
  refine zl_aload_n C dL_law_688 (q := 689) rfl 0 rfl rfl ?_
  refine zl_iload_n C dL_law_689 (q := 690) rfl 3 rfl rfl ?_
  refine zl_iconst C dL_law_690 (q := 691) (v := (5 : Int32)) (by decide) rfl ?_
  refine zl_iadd C dL_law_691 (q := 692) rfl ?_
  refine zl_sld C dL_law_692 (q := 693) (zl_idx (j := 5) hi hL (by decide) (by decide)) rfl ?_
  rw [nI_at_5 i L hi hL]
  refine zl_M (q := 696) (n := 5) C (As := [.int (xs (i + 1)), .int (xs (i + 2)), .int (xs (i + 3)), .int (xs (i + 4)), .int (xs (i + 5))]) (rest := [.int v]) dL_law_693 (zM_ValueBenchModel_run_met zM_So C.2.2.2.1.2 h2) ⟨zw_1010, zw_1011, zw_1012, zw_73, zw_1013, by decide +kernel⟩ ⟨by decide, 10, _, _, rfl, fun _ _ _ => ⟨_, rfl⟩⟩ ⟨by decide, by decide⟩ rfl (Nat.le_of_ble_eq_true rfl) rfl rfl ?_
  refine zl_eq (tgt := 793) C dL_law_696 (by decide) ?_
  exact next _ _ hI1
set_option maxRecDepth 100000 in
set_option maxHeartbeats 4000000 in
theorem zl_case15 {Z : zx_Z} {aM : Nat → Nat} {b L i : Nat} {xs : Nat → Int32} (C : zl_ok Z aM b L xs) (hL : L ≤ 3072) (hi : i + 6 ≤ L) {I : zx_S → zx_S → Prop} (hp : zp_S15 I) {σ τ : zx_S} (hI : I σ τ) (next : ∀ σ τ, I σ τ → zL Z aM 793 [(0, .ref b), (1, .ref (zz_d Z 0)), (2, .ref (aM 0)), (3, .int (nI i))] [] σ τ) : zL Z aM 701 [(0, .ref b), (1, .ref (zz_d Z 0)), (2, .ref (aM 0)), (3, .int (nI i))] [] σ τ := by
  obtain ⟨v, σ1, τ1, h1, h2, hI1⟩ := hp σ τ (xs (i + 1)) hI
  refine zl_aload_n C dL_law_701 (q := 702) rfl 1 rfl rfl ?_
  refine zl_aload_n C dL_law_702 (q := 703) rfl 0 rfl rfl ?_
  refine zl_iload_n C dL_law_703 (q := 704) rfl 3 rfl rfl ?_
  refine zl_iconst C dL_law_704 (q := 705) (v := (1 : Int32)) (by decide) rfl ?_
  refine zl_iadd C dL_law_705 (q := 706) rfl ?_
  refine zl_sld C dL_law_706 (q := 707) (zl_idx (j := 1) hi hL (by decide) (by decide)) rfl ?_
  rw [nI_at_1 i L hi hL]
  refine zl_X (q := 710) (n := 1) C (As := [.int (xs (i + 1))]) (rest := []) dL_law_707 (zX_ValueBench_fuel_met zX_So C.2.2.2.1.1 h1) ⟨zw_828, zw_829, zw_830, zw_62, zw_831, by decide +kernel⟩ ⟨by decide, 9, _, _, rfl, fun _ _ _ => ⟨_, rfl⟩⟩ ⟨by decide, by decide⟩ rfl (Nat.le_of_ble_eq_true rfl) rfl rfl ?_
  refine zl_aload_n C dL_law_710 (q := 711) rfl 2 rfl rfl ?_
  refine zl_aload_n C dL_law_711 (q := 712) rfl 0 rfl rfl ?_
  refine zl_iload_n C dL_law_712 (q := 713) rfl 3 rfl rfl ?_
  refine zl_iconst C dL_law_713 (q := 714) (v := (1 : Int32)) (by decide) rfl ?_
  refine zl_iadd C dL_law_714 (q := 715) rfl ?_
  refine zl_sld C dL_law_715 (q := 716) (zl_idx (j := 1) hi hL (by decide) (by decide)) rfl ?_
  rw [nI_at_1 i L hi hL]
  refine zl_M (q := 719) (n := 1) C (As := [.int (xs (i + 1))]) (rest := [.int v]) dL_law_716 (zM_ValueBenchModel_fuel_met zM_So C.2.2.2.1.2 h2) ⟨zw_1136, zw_1137, zw_1138, zw_73, zw_1139, by decide +kernel⟩ ⟨by decide, 10, _, _, rfl, fun _ _ _ => ⟨_, rfl⟩⟩ ⟨by decide, by decide⟩ rfl (Nat.le_of_ble_eq_true rfl) rfl rfl ?_
  refine zl_eq (tgt := 793) C dL_law_719 (by decide) ?_
  exact next _ _ hI1
set_option maxRecDepth 100000 in
set_option maxHeartbeats 4000000 in
theorem zl_case16 {Z : zx_Z} {aM : Nat → Nat} {b L i : Nat} {xs : Nat → Int32} (C : zl_ok Z aM b L xs) (hL : L ≤ 3072) (hi : i + 6 ≤ L) {I : zx_S → zx_S → Prop} (hp : zp_S16 I) {σ τ : zx_S} (hI : I σ τ) (next : ∀ σ τ, I σ τ → zL Z aM 793 [(0, .ref b), (1, .ref (zz_d Z 0)), (2, .ref (aM 0)), (3, .int (nI i))] [] σ τ) : zL Z aM 724 [(0, .ref b), (1, .ref (zz_d Z 0)), (2, .ref (aM 0)), (3, .int (nI i))] [] σ τ := by
  obtain ⟨v, h1, h2, hI1⟩ := hp σ τ (xs (i + 1)) hI
  refine zl_aload_n C dL_law_724 (q := 725) rfl 1 rfl rfl ?_
  refine zl_aload_n C dL_law_725 (q := 726) rfl 0 rfl rfl ?_
  refine zl_iload_n C dL_law_726 (q := 727) rfl 3 rfl rfl ?_
  refine zl_iconst C dL_law_727 (q := 728) (v := (1 : Int32)) (by decide) rfl ?_
  refine zl_iadd C dL_law_728 (q := 729) rfl ?_
  refine zl_sld C dL_law_729 (q := 730) (zl_idx (j := 1) hi hL (by decide) (by decide)) rfl ?_
  rw [nI_at_1 i L hi hL]
  refine zl_X (q := 733) (n := 1) C (As := [.int (xs (i + 1))]) (rest := []) dL_law_730 (zX_ValueBench_ran_met zX_So C.2.2.2.1.1 h1) ⟨zw_832, zw_833, zw_834, zw_62, zw_835, by decide +kernel⟩ ⟨by decide, 9, _, _, rfl, fun _ _ _ => ⟨_, rfl⟩⟩ ⟨by decide, by decide⟩ rfl (Nat.le_of_ble_eq_true rfl) rfl rfl ?_
  refine zl_aload_n C dL_law_733 (q := 734) rfl 2 rfl rfl ?_
  refine zl_aload_n C dL_law_734 (q := 735) rfl 0 rfl rfl ?_
  refine zl_iload_n C dL_law_735 (q := 736) rfl 3 rfl rfl ?_
  refine zl_iconst C dL_law_736 (q := 737) (v := (1 : Int32)) (by decide) rfl ?_
  refine zl_iadd C dL_law_737 (q := 738) rfl ?_
  refine zl_sld C dL_law_738 (q := 739) (zl_idx (j := 1) hi hL (by decide) (by decide)) rfl ?_
  rw [nI_at_1 i L hi hL]
  refine zl_M (q := 742) (n := 1) C (As := [.int (xs (i + 1))]) (rest := [.int v]) dL_law_739 (zM_ValueBenchModel_ran_met zM_So C.2.2.2.1.2 h2) ⟨zw_1140, zw_1141, zw_1142, zw_73, zw_1143, by decide +kernel⟩ ⟨by decide, 10, _, _, rfl, fun _ _ _ => ⟨_, rfl⟩⟩ ⟨by decide, by decide⟩ rfl (Nat.le_of_ble_eq_true rfl) rfl rfl ?_
  refine zl_eq (tgt := 793) C dL_law_742 (by decide) ?_
  exact next _ _ hI1
set_option maxRecDepth 100000 in
set_option maxHeartbeats 4000000 in
theorem zl_case17 {Z : zx_Z} {aM : Nat → Nat} {b L i : Nat} {xs : Nat → Int32} (C : zl_ok Z aM b L xs) (hL : L ≤ 3072) (hi : i + 6 ≤ L) {I : zx_S → zx_S → Prop} (hp : zp_S17 I) {σ τ : zx_S} (hI : I σ τ) (next : ∀ σ τ, I σ τ → zL Z aM 793 [(0, .ref b), (1, .ref (zz_d Z 0)), (2, .ref (aM 0)), (3, .int (nI i))] [] σ τ) : zL Z aM 747 [(0, .ref b), (1, .ref (zz_d Z 0)), (2, .ref (aM 0)), (3, .int (nI i))] [] σ τ := by
  obtain ⟨v, h1, h2, hI1⟩ := hp σ τ (xs (i + 1)) hI
  refine zl_aload_n C dL_law_747 (q := 748) rfl 1 rfl rfl ?_
  refine zl_aload_n C dL_law_748 (q := 749) rfl 0 rfl rfl ?_
  refine zl_iload_n C dL_law_749 (q := 750) rfl 3 rfl rfl ?_
  refine zl_iconst C dL_law_750 (q := 751) (v := (1 : Int32)) (by decide) rfl ?_
  refine zl_iadd C dL_law_751 (q := 752) rfl ?_
  refine zl_sld C dL_law_752 (q := 753) (zl_idx (j := 1) hi hL (by decide) (by decide)) rfl ?_
  rw [nI_at_1 i L hi hL]
  refine zl_X (q := 756) (n := 1) C (As := [.int (xs (i + 1))]) (rest := []) dL_law_753 (zX_ValueBench_emitted_met zX_So C.2.2.2.1.1 h1) ⟨zw_836, zw_837, zw_838, zw_62, zw_839, by decide +kernel⟩ ⟨by decide, 9, _, _, rfl, fun _ _ _ => ⟨_, rfl⟩⟩ ⟨by decide, by decide⟩ rfl (Nat.le_of_ble_eq_true rfl) rfl rfl ?_
  refine zl_aload_n C dL_law_756 (q := 757) rfl 2 rfl rfl ?_
  refine zl_aload_n C dL_law_757 (q := 758) rfl 0 rfl rfl ?_
  refine zl_iload_n C dL_law_758 (q := 759) rfl 3 rfl rfl ?_
  refine zl_iconst C dL_law_759 (q := 760) (v := (1 : Int32)) (by decide) rfl ?_
  refine zl_iadd C dL_law_760 (q := 761) rfl ?_
  refine zl_sld C dL_law_761 (q := 762) (zl_idx (j := 1) hi hL (by decide) (by decide)) rfl ?_
  rw [nI_at_1 i L hi hL]
  refine zl_M (q := 765) (n := 1) C (As := [.int (xs (i + 1))]) (rest := [.int v]) dL_law_762 (zM_ValueBenchModel_emitted_met zM_So C.2.2.2.1.2 h2) ⟨zw_1144, zw_1145, zw_1146, zw_73, zw_1147, by decide +kernel⟩ ⟨by decide, 10, _, _, rfl, fun _ _ _ => ⟨_, rfl⟩⟩ ⟨by decide, by decide⟩ rfl (Nat.le_of_ble_eq_true rfl) rfl rfl ?_
  refine zl_eq (tgt := 793) C dL_law_765 (by decide) ?_
  exact next _ _ hI1
set_option maxRecDepth 100000 in
set_option maxHeartbeats 4000000 in
theorem zl_case18 {Z : zx_Z} {aM : Nat → Nat} {b L i : Nat} {xs : Nat → Int32} (C : zl_ok Z aM b L xs) (hL : L ≤ 3072) (hi : i + 6 ≤ L) {I : zx_S → zx_S → Prop} (hp : zp_S18 I) {σ τ : zx_S} (hI : I σ τ) (next : ∀ σ τ, I σ τ → zL Z aM 793 [(0, .ref b), (1, .ref (zz_d Z 0)), (2, .ref (aM 0)), (3, .int (nI i))] [] σ τ) : zL Z aM 770 [(0, .ref b), (1, .ref (zz_d Z 0)), (2, .ref (aM 0)), (3, .int (nI i))] [] σ τ := by
  obtain ⟨v, σ1, τ1, h1, h2, hI1⟩ := hp σ τ (xs (i + 1)) hI
  refine zl_aload_n C dL_law_770 (q := 771) rfl 1 rfl rfl ?_
  refine zl_aload_n C dL_law_771 (q := 772) rfl 0 rfl rfl ?_
  refine zl_iload_n C dL_law_772 (q := 773) rfl 3 rfl rfl ?_
  refine zl_iconst C dL_law_773 (q := 774) (v := (1 : Int32)) (by decide) rfl ?_
  refine zl_iadd C dL_law_774 (q := 775) rfl ?_
  refine zl_sld C dL_law_775 (q := 776) (zl_idx (j := 1) hi hL (by decide) (by decide)) rfl ?_
  rw [nI_at_1 i L hi hL]
  refine zl_X (q := 779) (n := 1) C (As := [.int (xs (i + 1))]) (rest := []) dL_law_776 (zX_ValueBench_count_met zX_So C.2.2.2.1.1 h1) ⟨zw_840, zw_841, zw_842, zw_62, zw_843, by decide +kernel⟩ ⟨by decide, 9, _, _, rfl, fun _ _ _ => ⟨_, rfl⟩⟩ ⟨by decide, by decide⟩ rfl (Nat.le_of_ble_eq_true rfl) rfl rfl ?_
  refine zl_aload_n C dL_law_779 (q := 780) rfl 2 rfl rfl ?_
  refine zl_aload_n C dL_law_780 (q := 781) rfl 0 rfl rfl ?_
  refine zl_iload_n C dL_law_781 (q := 782) rfl 3 rfl rfl ?_
  refine zl_iconst C dL_law_782 (q := 783) (v := (1 : Int32)) (by decide) rfl ?_
  refine zl_iadd C dL_law_783 (q := 784) rfl ?_
  refine zl_sld C dL_law_784 (q := 785) (zl_idx (j := 1) hi hL (by decide) (by decide)) rfl ?_
  rw [nI_at_1 i L hi hL]
  refine zl_M (q := 788) (n := 1) C (As := [.int (xs (i + 1))]) (rest := [.int v]) dL_law_785 (zM_ValueBenchModel_count_met zM_So C.2.2.2.1.2 h2) ⟨zw_1200, zw_1201, zw_1202, zw_73, zw_1203, by decide +kernel⟩ ⟨by decide, 10, _, _, rfl, fun _ _ _ => ⟨_, rfl⟩⟩ ⟨by decide, by decide⟩ rfl (Nat.le_of_ble_eq_true rfl) rfl rfl ?_
  refine zl_eq (tgt := 793) C dL_law_788 (by decide) ?_
  exact next _ _ hI1
set_option maxRecDepth 100000 in
set_option maxHeartbeats 4000000 in
theorem zl_loop {Z : zx_Z} {aM : Nat → Nat} {b L : Nat} {xs : Nat → Int32} (C : zl_ok Z aM b L xs) (hL : L ≤ 3072) {I : zx_S → zx_S → Prop} (hp : zp_All I) (he : ∀ (H : Heap) (ls : Array Slot), W (zz_p Z) (zz_l Z) (zz_e Z) (zz_R Z) (zz_s Z) (zz_m Z) (zz_a Z) (zz_b Z) (zz_t Z) (zz_c Z) H [] 600000 7302250 (zz_Q Z) (F0 (zz_m Z) 800 ls [.int 1])) :
    ∀ (n i : Nat) (σ τ : zx_S), L + 6 < i + n → i ≤ L + 6 → I σ τ → zL Z aM 18 [(0, .ref b), (1, .ref (zz_d Z 0)), (2, .ref (aM 0)), (3, .int (nI i))] [] σ τ := by
  intro n
  induction n with
  | zero => intro i σ τ h1 h2; omega
  | succ n ih =>
    intro i σ τ h1 h2 hI
    refine zl_iload_n C dL_law_18 (q := 19) rfl 3 rfl rfl ?_
    refine zl_aload_n C dL_law_19 (q := 20) rfl 0 rfl rfl ?_
    refine zl_slen C dL_law_20 (q := 21) rfl ?_
    refine zl_bipush C dL_law_21 (q := 23) (v := (6 : Int32)) (by decide) rfl ?_
    refine zl_isub C dL_law_23 (q := 24) rfl ?_
    refine zl_gt C dL_law_24 (tgt := 799) (q := 27) (by decide) rfl (fun _ => ?_) (fun c => ?_)
    · refine zl_iconst C dL_law_799 (q := 800) (v := (1 : Int32)) (by decide) rfl ?_
      intro H locs ls g1 g2 g3 hl
      have e := C.2.2.2.2.2.2.2.2
      refine va_forget (fun q hq => by rw [← e]; exact g3.2.2 q hq) ?_
      exact W.widen (k := 600000) (n := 7302250) (by decide) (by decide) (he H ls)
    · have hi : i + 6 ≤ L := by
        have h3 : ¬ (nI L - 6).toInt < (nI i).toInt := fun q => c (Int32.lt_iff_toInt_lt.mpr q)
        rw [nI_toInt (n := i) (by omega), Int32.toInt_sub, nI_toInt (n := L) (by omega), show (6 : Int32).toInt = 6 by decide] at h3
        rw [Int.bmod_eq_of_le (by omega) (by omega)] at h3
        omega
      have next : ∀ σ τ, I σ τ → zL Z aM 793 [(0, .ref b), (1, .ref (zz_d Z 0)), (2, .ref (aM 0)), (3, .int (nI i))] [] σ τ := by
        intro σ τ hI
        refine zl_iinc C dL_law_793 (q := 796) 3 rfl (v := nI (i + 6)) (by rw [show Int32.ofInt 6 = nI 6 by decide, nI_add]) (by decide) (lv' := [(3, .int (nI (i + 6))), (0, .ref b), (1, .ref (zz_d Z 0)), (2, .ref (aM 0))]) rfl rfl ?_
        refine zl_goto (q := 18) C dL_law_796 (by decide) ?_
        exact zl_sub [1, 2, 3, 0] rfl (ih (i + 6) σ τ (by omega) (by omega) hI)
      refine zl_aload_n C dL_law_27 (q := 28) rfl 0 rfl rfl ?_
      refine zl_iload_n C dL_law_28 (q := 29) rfl 3 rfl rfl ?_
      refine zl_sld C dL_law_29 (q := 30) (vp_in_nI (by omega) (by omega)) rfl ?_
      refine zl_bipush C dL_law_30 (q := 32) (v := (31 : Int32)) (by decide) rfl ?_
      refine zl_iand C dL_law_32 (q := 33) rfl ?_
      generalize (xs (nI i).toNatClampNeg) &&& (31 : Int32) = x
      by_cases e0 : x = (0 : Int32)
      · refine zl_tableIn (tgt := 124) (off := 91) C dL_law_33 (by rw [e0]; decide) (by rw [e0]; decide) (by rw [e0] <;> exact rfl) (by decide) ?_
        exact zl_case0 C hL hi hp.1 hI next
      by_cases e1 : x = (1 : Int32)
      · refine zl_tableIn (tgt := 137) (off := 104) C dL_law_33 (by rw [e1]; decide) (by rw [e1]; decide) (by rw [e1] <;> exact rfl) (by decide) ?_
        exact zl_case1 C hL hi hp.2.1 hI next
      by_cases e2 : x = (2 : Int32)
      · refine zl_tableIn (tgt := 200) (off := 167) C dL_law_33 (by rw [e2]; decide) (by rw [e2]; decide) (by rw [e2] <;> exact rfl) (by decide) ?_
        exact zl_case2 C hL hi hp.2.2.1 hI next
      by_cases e3 : x = (3 : Int32)
      · refine zl_tableIn (tgt := 263) (off := 230) C dL_law_33 (by rw [e3]; decide) (by rw [e3]; decide) (by rw [e3] <;> exact rfl) (by decide) ?_
        exact zl_case3 C hL hi hp.2.2.2.1 hI next
      by_cases e4 : x = (4 : Int32)
      · refine zl_tableIn (tgt := 276) (off := 243) C dL_law_33 (by rw [e4]; decide) (by rw [e4]; decide) (by rw [e4] <;> exact rfl) (by decide) ?_
        exact zl_case4 C hL hi hp.2.2.2.2.1 hI next
      by_cases e5 : x = (5 : Int32)
      · refine zl_tableIn (tgt := 309) (off := 276) C dL_law_33 (by rw [e5]; decide) (by rw [e5]; decide) (by rw [e5] <;> exact rfl) (by decide) ?_
        exact zl_case5 C hL hi hp.2.2.2.2.2.1 hI next
      by_cases e6 : x = (6 : Int32)
      · refine zl_tableIn (tgt := 342) (off := 309) C dL_law_33 (by rw [e6]; decide) (by rw [e6]; decide) (by rw [e6] <;> exact rfl) (by decide) ?_
        exact zl_case6 C hL hi hp.2.2.2.2.2.2.1 hI next
      by_cases e7 : x = (7 : Int32)
      · refine zl_tableIn (tgt := 375) (off := 342) C dL_law_33 (by rw [e7]; decide) (by rw [e7]; decide) (by rw [e7] <;> exact rfl) (by decide) ?_
        exact zl_case7 C hL hi hp.2.2.2.2.2.2.2.1 hI next
      by_cases e8 : x = (8 : Int32)
      · refine zl_tableIn (tgt := 408) (off := 375) C dL_law_33 (by rw [e8]; decide) (by rw [e8]; decide) (by rw [e8] <;> exact rfl) (by decide) ?_
        exact zl_case8 C hL hi hp.2.2.2.2.2.2.2.2.1 hI next
      by_cases e9 : x = (9 : Int32)
      · refine zl_tableIn (tgt := 441) (off := 408) C dL_law_33 (by rw [e9]; decide) (by rw [e9]; decide) (by rw [e9] <;> exact rfl) (by decide) ?_
        exact zl_case9 C hL hi hp.2.2.2.2.2.2.2.2.2.1 hI next
      by_cases e10 : x = (10 : Int32)
      · refine zl_tableIn (tgt := 474) (off := 441) C dL_law_33 (by rw [e10]; decide) (by rw [e10]; decide) (by rw [e10] <;> exact rfl) (by decide) ?_
        exact zl_case10 C hL hi hp.2.2.2.2.2.2.2.2.2.2.1 hI next
      by_cases e11 : x = (11 : Int32)
      · refine zl_tableIn (tgt := 507) (off := 474) C dL_law_33 (by rw [e11]; decide) (by rw [e11]; decide) (by rw [e11] <;> exact rfl) (by decide) ?_
        exact zl_case11 C hL hi hp.2.2.2.2.2.2.2.2.2.2.2.1 hI next
      by_cases e12 : x = (12 : Int32)
      · refine zl_tableIn (tgt := 530) (off := 497) C dL_law_33 (by rw [e12]; decide) (by rw [e12]; decide) (by rw [e12] <;> exact rfl) (by decide) ?_
        exact zl_case12 C hL hi hp.2.2.2.2.2.2.2.2.2.2.2.2.1 hI next
      by_cases e13 : x = (13 : Int32)
      · refine zl_tableIn (tgt := 579) (off := 546) C dL_law_33 (by rw [e13]; decide) (by rw [e13]; decide) (by rw [e13] <;> exact rfl) (by decide) ?_
        exact zl_case13 C hL hi hp.2.2.2.2.2.2.2.2.2.2.2.2.2.1 hI next
      by_cases e14 : x = (14 : Int32)
      · refine zl_tableIn (tgt := 638) (off := 605) C dL_law_33 (by rw [e14]; decide) (by rw [e14]; decide) (by rw [e14] <;> exact rfl) (by decide) ?_
        exact zl_case14 C hL hi hp.2.2.2.2.2.2.2.2.2.2.2.2.2.2.1 hI next
      by_cases e15 : x = (15 : Int32)
      · refine zl_tableIn (tgt := 701) (off := 668) C dL_law_33 (by rw [e15]; decide) (by rw [e15]; decide) (by rw [e15] <;> exact rfl) (by decide) ?_
        exact zl_case15 C hL hi hp.2.2.2.2.2.2.2.2.2.2.2.2.2.2.2.1 hI next
      by_cases e16 : x = (16 : Int32)
      · refine zl_tableIn (tgt := 724) (off := 691) C dL_law_33 (by rw [e16]; decide) (by rw [e16]; decide) (by rw [e16] <;> exact rfl) (by decide) ?_
        exact zl_case16 C hL hi hp.2.2.2.2.2.2.2.2.2.2.2.2.2.2.2.2.1 hI next
      by_cases e17 : x = (17 : Int32)
      · refine zl_tableIn (tgt := 747) (off := 714) C dL_law_33 (by rw [e17]; decide) (by rw [e17]; decide) (by rw [e17] <;> exact rfl) (by decide) ?_
        exact zl_case17 C hL hi hp.2.2.2.2.2.2.2.2.2.2.2.2.2.2.2.2.2.1 hI next
      by_cases e18 : x = (18 : Int32)
      · refine zl_tableIn (tgt := 770) (off := 737) C dL_law_33 (by rw [e18]; decide) (by rw [e18]; decide) (by rw [e18] <;> exact rfl) (by decide) ?_
        exact zl_case18 C hL hi hp.2.2.2.2.2.2.2.2.2.2.2.2.2.2.2.2.2.2 hI next
      refine zl_tableOut (tgt := 793) C dL_law_33 (by have f0 := lv_neT (a := 0) e0 (by decide); have f1 := lv_neT (a := 1) e1 (by decide); have f2 := lv_neT (a := 2) e2 (by decide); have f3 := lv_neT (a := 3) e3 (by decide); have f4 := lv_neT (a := 4) e4 (by decide); have f5 := lv_neT (a := 5) e5 (by decide); have f6 := lv_neT (a := 6) e6 (by decide); have f7 := lv_neT (a := 7) e7 (by decide); have f8 := lv_neT (a := 8) e8 (by decide); have f9 := lv_neT (a := 9) e9 (by decide); have f10 := lv_neT (a := 10) e10 (by decide); have f11 := lv_neT (a := 11) e11 (by decide); have f12 := lv_neT (a := 12) e12 (by decide); have f13 := lv_neT (a := 13) e13 (by decide); have f14 := lv_neT (a := 14) e14 (by decide); have f15 := lv_neT (a := 15) e15 (by decide); have f16 := lv_neT (a := 16) e16 (by decide); have f17 := lv_neT (a := 17) e17 (by decide); have f18 := lv_neT (a := 18) e18 (by decide); omega) (by decide) ?_
      exact next _ _ hI
