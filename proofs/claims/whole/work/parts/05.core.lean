/-! a side's world: cells 0 .. N-1 at the addresses ad k, each with its numbers σ k; zW: the machine's W with heap, locals and frame put away -/
abbrev zx_S : Type := Nat → Nat → Int32
/-- contents of a cell by (array classes, addresses, cell, numbers); how many cells; classes; words; words that are carried -/
abbrev zx_D : Type := (ClassId × ClassId → (Nat → Nat) → Nat → (Nat → Int32) → va_E) × Nat × List vw_C × List Cond × List Cond
abbrev zx_Z : Type := Program × Launch × Env × Room × State × MethodId × Array Value × List Frame × Method × Code × (State → Prop) × va_G × (ClassId × ClassId) × (Nat → Nat) × Heap
abbrev zz_p (Z : zx_Z) : Program := Z.1
abbrev zz_l (Z : zx_Z) : Launch := Z.2.1
abbrev zz_e (Z : zx_Z) : Env := Z.2.2.1
abbrev zz_R (Z : zx_Z) : Room := Z.2.2.2.1
abbrev zz_s (Z : zx_Z) : State := Z.2.2.2.2.1
abbrev zz_m (Z : zx_Z) : MethodId := Z.2.2.2.2.2.1
abbrev zz_a (Z : zx_Z) : Array Value := Z.2.2.2.2.2.2.1
abbrev zz_b (Z : zx_Z) : List Frame := Z.2.2.2.2.2.2.2.1
abbrev zz_t (Z : zx_Z) : Method := Z.2.2.2.2.2.2.2.2.1
abbrev zz_c (Z : zx_Z) : Code := Z.2.2.2.2.2.2.2.2.2.1
abbrev zz_Q (Z : zx_Z) : State → Prop := Z.2.2.2.2.2.2.2.2.2.2.1
abbrev zz_D (Z : zx_Z) : va_G := Z.2.2.2.2.2.2.2.2.2.2.2.1
abbrev zz_z (Z : zx_Z) : ClassId × ClassId := Z.2.2.2.2.2.2.2.2.2.2.2.2.1
abbrev zz_d (Z : zx_Z) : Nat → Nat := Z.2.2.2.2.2.2.2.2.2.2.2.2.2.1
abbrev zz_H (Z : zx_Z) : Heap := Z.2.2.2.2.2.2.2.2.2.2.2.2.2.2
abbrev zd_L (S : zx_D) : ClassId × ClassId → (Nat → Nat) → Nat → (Nat → Int32) → va_E := S.1
abbrev zd_N (S : zx_D) : Nat := S.2.1
abbrev zd_C (S : zx_D) : List vw_C := S.2.2.1
abbrev zd_W (S : zx_D) : List Cond := S.2.2.2.1
abbrev zd_X (S : zx_D) : List Cond := S.2.2.2.2
def zx_w (S : zx_D) (cz : ClassId × ClassId) (ad : Nat → Nat) (σ : zx_S) : va_W := (List.range (zd_N S)).map (fun k => (ad k, zd_L S cz ad k (σ k)))
def zx_A (S : zx_D) (ad : Nat → Nat) : Nat → Prop := fun q => ∃ k, k < zd_N S ∧ q = ad k
abbrev zx_I (S : zx_D) (ad : Nat → Nat) : Prop := ∀ i j, i < zd_N S → j < zd_N S → ad i = ad j → i = j
def zx_uc (σ : zx_S) (k : Nat) (g : Nat → Int32) : zx_S := fun c => if c = k then g else σ c
def zx_su (σ : zx_S) (k i : Nat) (x : Int32) : zx_S := zx_uc σ k (upd (σ k) i x)
theorem zx_w_at {S : zx_D} {cz : ClassId × ClassId} {ad : Nat → Nat} {σ : zx_S} {k : Nat} (h : k < zd_N S) : (zx_w S cz ad σ)[k]? = some (ad k, zd_L S cz ad k (σ k)) := by
  simp [zx_w, List.getElem?_map, List.getElem?_range h]
theorem zx_w_inv {S : zx_D} {cz : ClassId × ClassId} {ad : Nat → Nat} {σ : zx_S} {k : Nat} {q : Nat × va_E} (h : (zx_w S cz ad σ)[k]? = some q) : k < zd_N S ∧ q = (ad k, zd_L S cz ad k (σ k)) := by
  by_cases hk : k < zd_N S
  · exact ⟨hk, (Option.some.inj ((zx_w_at hk).symm.trans h)).symm⟩
  · rw [List.getElem?_eq_none (by simp [zx_w]; omega)] at h
    cases h
theorem zx_w_set {S : zx_D} {cz : ClassId × ClassId} {ad : Nat → Nat} {σ : zx_S} {k : Nat} (h : k < zd_N S) (g : Nat → Int32) : (zx_w S cz ad σ).set k (ad k, zd_L S cz ad k g) = zx_w S cz ad (zx_uc σ k g) := by
  apply List.ext_getElem?
  intro j
  by_cases hj : j = k
  · subst hj
    rw [zx_w_at h, List.getElem?_set_self (by simp [zx_w]; exact h)]
    simp [zx_uc]
  · rw [List.getElem?_set_ne (fun e => hj e.symm)]
    by_cases hn : j < zd_N S
    · rw [zx_w_at hn, zx_w_at hn]
      simp [zx_uc, hj]
    · rw [List.getElem?_eq_none (by simp [zx_w]; omega), List.getElem?_eq_none (by simp [zx_w]; omega)]
theorem zx_w_D {S : zx_D} {cz : ClassId × ClassId} {ad : Nat → Nat} {σ : zx_S} (hi : zx_I S ad) : va_D (zx_A S ad) (zx_w S cz ad σ) := by
  refine ⟨fun i j p q hp hq e => ?_, fun k q hk => ?_⟩
  · obtain ⟨h1, rfl⟩ := zx_w_inv hp
    obtain ⟨h2, rfl⟩ := zx_w_inv hq
    exact hi i j h1 h2 e
  · obtain ⟨h1, rfl⟩ := zx_w_inv hk
    exact ⟨k, h1, rfl⟩
abbrev zx_ty (cz : ClassId × ClassId) : List (ClassId × FieldType) := [(cz.1, .int), (cz.2, .boolean)]
/-- what a side's words must be -/
def zx_So (S : zx_D) : Prop := (∀ w ∈ zd_W S, goodWord w = true) ∧ ∀ w ∈ zd_X S, w.onTables = true ∧ ∀ (s U : State), s.WarmedH U.vm → va_Nw w s → va_Nw w U
theorem zx_good {S : zx_D} (h : zx_So S) {ws : List Cond} (hw : ∀ w ∈ ws, w ∈ zd_W S) : GoodIn (zd_W S) ws := fun w q => ⟨hw w q, good_of_word (h.1 w (hw w q))⟩
def zx_B (S : zx_D) (D : va_G) (cz : ClassId × ClassId) (ad : Nat → Nat) (σ : zx_S) (U : State) : Prop := va_P D (zd_C S) (zx_w S cz ad σ) U.heap ∧ va_K D (zd_C S) (zx_ty cz) U ∧ ∀ w ∈ zd_X S, va_Nw w U
def zx_X (S : zx_D) (Z : zx_Z) (σ : zx_S) (H : Heap) (locs : List Loc) : Prop := va_P (zz_D Z) (zd_C S) (zx_w S (zz_z Z) (zz_d Z) σ) H ∧ va_S (zx_A S (zz_d Z)) (zz_H Z) H locs
abbrev zx_ok (S : zx_D) (Z : zx_Z) (cc : ByteArray) (nL : Nat) (own : String) (fr lo : Nat) : Prop :=
  CallFix (zz_p Z) (zz_m Z) (zz_c Z) cc nL (zz_s Z) (zz_a Z) (zd_W S) own ∧ va_K (zz_D Z) (zd_C S) (zx_ty (zz_z Z)) (zz_s Z) ∧ (∀ w ∈ zd_X S, va_Nw w (zz_s Z)) ∧ zx_I S (zz_d Z) ∧ zx_So S ∧ fr ≤ (zz_R Z).frames ∧ lo ≤ (zz_R Z).locals
def zW (S : zx_D) (Z : zx_Z) (nL pc : Nat) (lv : List (Nat × Value)) (st : List Value) (σ : zx_S) : Prop :=
  ∀ (H : Heap) (locs : List Loc) (ls : Array Slot), zx_X S Z σ H locs → lv_has ls nL lv → W (zz_p Z) (zz_l Z) (zz_e Z) (zz_R Z) (zz_s Z) (zz_m Z) (zz_a Z) (zz_b Z) (zz_t Z) (zz_c Z) H locs 0 0 (zz_Q Z) (F0 (zz_m Z) pc ls st)
/-! the pure side's words -/
def zx_lt {α : Type} (x : Int32) (f : Int32 → Option α) : Option α := f x
def zx_ls {α : Type} (x : zx_S) (f : zx_S → Option α) : Option α := f x
def zx_ck {α : Type} (i : Int32) (n : Nat) (k : Option α) : Option α := if i < 0 ∨ n ≤ i.toNatClampNeg then none else k
def zx_ne {α : Type} (e : Int32) (k : Option α) : Option α := if e = 0 then none else k
def zx_zr {α : Type} (e : Int32) (k : Option α) : Option α := if e = 0 ∨ e = 1 then k else none
def zx_cp {α : Type} (s : zx_S) (c0 : Nat) (i0 : Int32) (n0 c1 : Nat) (i1 : Int32) (n1 : Nat) (n : Int32) (f : zx_S → Option α) : Option α :=
  if i0 < 0 ∨ i1 < 0 ∨ n < 0 ∨ n0 < i0.toNatClampNeg + n.toNatClampNeg ∨ n1 < i1.toNatClampNeg + n.toNatClampNeg then none else f (zx_uc s c1 (va_cpy (s c0) (s c1) i0.toNatClampNeg i1.toNatClampNeg n.toNatClampNeg))
def zx_b2 {α : Type} (o : Option (Int32 × zx_S)) (f : Int32 → zx_S → Option α) : Option α := match o with
  | none => none
  | some q => f q.1 q.2
def zx_b1 {α β : Type} (o : Option α) (f : α → Option β) : Option β := match o with
  | none => none
  | some q => f q
theorem zx_b1_so {α β : Type} {o : Option α} {f : α → Option β} {r : β} (h : zx_b1 o f = some r) : ∃ q, o = some q ∧ f q = some r := by
  cases o with
  | none => cases h
  | some q => exact ⟨q, rfl, h⟩
theorem zx_b2_so {α : Type} {o : Option (Int32 × zx_S)} {f : Int32 → zx_S → Option α} {r : α} (h : zx_b2 o f = some r) : ∃ x s, o = some (x, s) ∧ f x s = some r := by
  cases o with
  | none => cases h
  | some q => exact ⟨q.1, q.2, rfl, h⟩
theorem zx_ck_so {α : Type} {i : Int32} {n : Nat} {k : Option α} {r : α} (h : zx_ck i n k = some r) : vp_in i n ∧ k = some r := by
  unfold zx_ck at h
  split at h
  · cases h
  · rename_i q
    exact ⟨q, h⟩
theorem zx_ne_so {α : Type} {e : Int32} {k : Option α} {r : α} (h : zx_ne e k = some r) : ¬ e = 0 ∧ k = some r := by
  unfold zx_ne at h
  split at h
  · cases h
  · rename_i q
    exact ⟨q, h⟩
theorem zx_zr_so {α : Type} {e : Int32} {k : Option α} {r : α} (h : zx_zr e k = some r) : (e = 0 ∨ e = 1) ∧ k = some r := by
  unfold zx_zr at h
  split at h
  · rename_i q
    exact ⟨q, h⟩
  · cases h
theorem zx_nb {e : Int32} (h : e = 0 ∨ e = 1) : narrow .boolean (.int e) = .int e := by
  rcases h with rfl | rfl <;> decide
/-! cells -/
def zx_ai (S : zx_D) (k n : Nat) : Prop := k < zd_N S ∧ ∀ (cz : ClassId × ClassId) (ad : Nat → Nat) (f : Nat → Int32), zd_L S cz ad k f = .inl (cz.1, n, .inl f)
def zx_az (S : zx_D) (k n : Nat) : Prop := k < zd_N S ∧ ∀ (cz : ClassId × ClassId) (ad : Nat → Nat) (f : Nat → Int32), zd_L S cz ad k f = .inl (cz.2, n, .inl f)
/-- a field of a cell under a name that a method's class spells -/
def zx_fl (S : zx_D) (own : String) (idx k sl : Nat) (V : (Nat → Nat) → (Nat → Int32) → Value) : Prop := k < zd_N S ∧ ∃ (ci : Nat) (C : String) (T : u_T) (N : Nat) (ref : String), (zd_C S)[ci]? = some (C, T, N) ∧ sl < N ∧ (∀ w ∈ u_ws C T N, w ∈ zd_W S) ∧ Cond.fieldLink own idx ref (T sl).2.1 (T sl).2.2.1 ∈ zd_W S ∧ (ref = (T sl).1 ∨ Cond.sameField ref (T sl).1 (T sl).2.1 (T sl).2.2.1 ∈ zd_W S) ∧ ∀ (cz : ClassId × ClassId) (ad : Nat → Nat) (f : Nat → Int32), ∃ fs, zd_L S cz ad k f = .inr (ci, fs) ∧ fs[sl]? = some (V ad f)
/-- ... and it may be written: an int or a boolean -/
def zx_fp (S : zx_D) (own : String) (idx k sl : Nat) (ty : FieldType) : Prop := k < zd_N S ∧ ∃ (ci : Nat) (C : String) (T : u_T) (N : Nat) (t : Nat → FieldType), (zd_C S)[ci]? = some (C, T, N) ∧ sl < N ∧ (∀ w ∈ u_ws C T N, w ∈ zd_W S) ∧ (∀ k, k < N → parseFieldDescriptor (T k).2.2.1 = some (t k)) ∧ (∀ a, a < N → ∀ b, b < N → a ≠ b → (T a).2.1 ≠ (T b).2.1) ∧ Cond.fieldLink own idx (T sl).1 (T sl).2.1 (T sl).2.2.1 ∈ zd_W S ∧ (T sl).2.2.2 = false ∧ parseFieldDescriptor (T sl).2.2.1 = some ty ∧ ∀ (cz : ClassId × ClassId) (ad : Nat → Nat) (f : Nat → Int32), ∃ fs, zd_L S cz ad k f = .inr (ci, fs) ∧ sl < fs.length ∧ ∀ x : Int32, zd_L S cz ad k (upd f sl x) = .inr (ci, fs.set sl (.int x))
/-- an object's class -/
def zx_oc (S : zx_D) (k : Nat) (C : String) : Prop := k < zd_N S ∧ ∃ (ci : Nat) (T : u_T) (N : Nat), (zd_C S)[ci]? = some (C, T, N) ∧ ∀ (cz : ClassId × ClassId) (ad : Nat → Nat) (f : Nat → Int32), ∃ fs, zd_L S cz ad k f = .inr (ci, fs)
section ZR
variable {S : zx_D} {Z : zx_Z} {cc : ByteArray} {nL pc q : Nat} {own : String} {fr lo : Nat} {lv lv' : List (Nat × Value)} {rest st : List Value} {σ : zx_S} {α : Type} {r : α}
theorem zr_sub (ks : List Nat) (hl : lv_pick lv ks = lv') (h : zW S Z nL pc lv' st σ) : zW S Z nL pc lv st σ := fun H locs ls hX hv => h H locs ls hX (lv_sub hv ks hl)
theorem zr_top {x : Int32} {f : Int32 → Option α} (h : zx_lt x f = some r) (k : ∀ y : Int32, f y = some r → zW S Z nL pc lv (.int y :: rest) σ) : zW S Z nL pc lv (.int x :: rest) σ := k x h
theorem zr_ls {x : zx_S} {f : zx_S → Option α} (h : zx_ls x f = some r) (k : ∀ y : zx_S, f y = some r → zW S Z nL pc lv st y) : zW S Z nL pc lv st x := k x h
theorem zr_iconst (C : zx_ok S Z cc nL own fr lo) {n : Int} {v : Int32} (d : decode cc pc = .ok (.iconst n, 1)) (hv : Int32.ofInt n = v) (hq : pc + 1 = q) (k : zW S Z nL q lv (.int v :: st) σ) : zW S Z nL pc lv st σ := by
  subst hq
  exact fun H locs ls hX hl => lv_iconst C.1.1 C.1.2.1 d hv (k H locs ls hX hl)
theorem zr_bipush (C : zx_ok S Z cc nL own fr lo) {n : Int} {v : Int32} (d : decode cc pc = .ok (.bipush n, 2)) (hv : (Int8.ofInt n).toInt32 = v) (hq : pc + 2 = q) (k : zW S Z nL q lv (.int v :: st) σ) : zW S Z nL pc lv st σ := by
  subst hq
  exact fun H locs ls hX hl => lv_bipush C.1.1 C.1.2.1 d hv (k H locs ls hX hl)
theorem zr_sipush (C : zx_ok S Z cc nL own fr lo) {n : Int} {v : Int32} (d : decode cc pc = .ok (.sipush n, 3)) (hv : (Int16.ofInt n).toInt32 = v) (hq : pc + 3 = q) (k : zW S Z nL q lv (.int v :: st) σ) : zW S Z nL pc lv st σ := by
  subst hq
  exact fun H locs ls hX hl => lv_sipush C.1.1 C.1.2.1 d hv (k H locs ls hX hl)
theorem zr_ldcw (C : zx_ok S Z cc nL own fr lo) {n : Nat} {v : Int32} (d : decode cc pc = .ok (.ldc_w n, 3)) (hw : Cond.constant own n v ∈ zd_W S) (hq : pc + 3 = q) (k : zW S Z nL q lv (.int v :: st) σ) : zW S Z nL pc lv st σ := by
  subst hq
  exact fun H locs ls hX hl => lv_ldcw C.1.1 C.1.2.1 C.1.2.2.2.1 (C.1.2.2.2.2 _ hw) d (k H locs ls hX hl)
theorem zr_iload_n (C : zx_ok S Z cc nL own fr lo) {n : Fin 4} {i : Nat} {x : Int32} (d : decode cc pc = .ok (.iload_n n, 1)) (hi : (n : Nat) = i) (j : Nat) (hj : lv[j]? = some (i, .int x)) (hq : pc + 1 = q) (k : zW S Z nL q lv (.int x :: st) σ) : zW S Z nL pc lv st σ := by
  subst hq
  exact fun H locs ls hX hl => lv_iload_n C.1.1 C.1.2.1 d hi (lv_at hl j hj) (k H locs ls hX hl)
theorem zr_iload (C : zx_ok S Z cc nL own fr lo) {i : Nat} {x : Int32} (d : decode cc pc = .ok (.iload i, 2)) (j : Nat) (hj : lv[j]? = some (i, .int x)) (hq : pc + 2 = q) (k : zW S Z nL q lv (.int x :: st) σ) : zW S Z nL pc lv st σ := by
  subst hq
  exact fun H locs ls hX hl => lv_iload C.1.1 C.1.2.1 d (lv_at hl j hj) (k H locs ls hX hl)
theorem zr_aload_n (C : zx_ok S Z cc nL own fr lo) {n : Fin 4} {i : Nat} {x : Nat} (d : decode cc pc = .ok (.aload_n n, 1)) (hi : (n : Nat) = i) (j : Nat) (hj : lv[j]? = some (i, .ref x)) (hq : pc + 1 = q) (k : zW S Z nL q lv (.ref x :: st) σ) : zW S Z nL pc lv st σ := by
  subst hq
  exact fun H locs ls hX hl => lv_aload_n C.1.1 C.1.2.1 d hi (lv_at hl j hj) (k H locs ls hX hl)
theorem zr_aload (C : zx_ok S Z cc nL own fr lo) {i : Nat} {x : Nat} (d : decode cc pc = .ok (.aload i, 2)) (j : Nat) (hj : lv[j]? = some (i, .ref x)) (hq : pc + 2 = q) (k : zW S Z nL q lv (.ref x :: st) σ) : zW S Z nL pc lv st σ := by
  subst hq
  exact fun H locs ls hX hl => lv_aload C.1.1 C.1.2.1 d (lv_at hl j hj) (k H locs ls hX hl)
abbrev zr_f (i : Nat) : Nat × Value → Bool := fun q => !(q.1 == i) && !(q.1 + 1 == i && q.2.category == 2)
theorem zr_istore_n (C : zx_ok S Z cc nL own fr lo) {n : Fin 4} {i : Nat} {x : Int32} (d : decode cc pc = .ok (.istore_n n, 1)) (hi : (n : Nat) = i) (hn : i < nL) (hl' : (i, Value.int x) :: lv.filter (zr_f i) = lv') (hq : pc + 1 = q) (k : zW S Z nL q lv' st σ) : zW S Z nL pc lv (.int x :: st) σ := by
  subst hq
  exact fun H locs ls hX hl => lv_istore_n C.1.1 C.1.2.1 d hi hl hn hl' (fun ls' h' => k H locs ls' hX h')
theorem zr_istore (C : zx_ok S Z cc nL own fr lo) {i : Nat} {x : Int32} (d : decode cc pc = .ok (.istore i, 2)) (hn : i < nL) (hl' : (i, Value.int x) :: lv.filter (zr_f i) = lv') (hq : pc + 2 = q) (k : zW S Z nL q lv' st σ) : zW S Z nL pc lv (.int x :: st) σ := by
  subst hq
  exact fun H locs ls hX hl => lv_istore C.1.1 C.1.2.1 d hl hn hl' (fun ls' h' => k H locs ls' hX h')
theorem zr_astore_n (C : zx_ok S Z cc nL own fr lo) {n : Fin 4} {i : Nat} {x : Nat} (d : decode cc pc = .ok (.astore_n n, 1)) (hi : (n : Nat) = i) (hn : i < nL) (hl' : (i, Value.ref x) :: lv.filter (zr_f i) = lv') (hq : pc + 1 = q) (k : zW S Z nL q lv' st σ) : zW S Z nL pc lv (.ref x :: st) σ := by
  subst hq
  exact fun H locs ls hX hl => lv_astore_n C.1.1 C.1.2.1 d hi hl hn hl' (fun ls' h' => k H locs ls' hX h')
theorem zr_astore (C : zx_ok S Z cc nL own fr lo) {i : Nat} {x : Nat} (d : decode cc pc = .ok (.astore i, 2)) (hn : i < nL) (hl' : (i, Value.ref x) :: lv.filter (zr_f i) = lv') (hq : pc + 2 = q) (k : zW S Z nL q lv' st σ) : zW S Z nL pc lv (.ref x :: st) σ := by
  subst hq
  exact fun H locs ls hX hl => lv_astore C.1.1 C.1.2.1 d hl hn hl' (fun ls' h' => k H locs ls' hX h')
theorem zr_iinc (C : zx_ok S Z cc nL own fr lo) {i : Nat} {n : Int} {x y : Int32} {f : Int32 → Option α} (d : decode cc pc = .ok (.iinc i n, 3)) (h : zx_lt (x + y) f = some r) (hy : Int32.ofInt n = y) (j : Nat) (hj : lv[j]? = some (i, .int x)) (hn : i < nL) {lw : Int32 → List (Nat × Value)} (hl' : ∀ v, (i, Value.int v) :: lv.filter (zr_f i) = lw v) (hq : pc + 3 = q) (k : ∀ v, f v = some r → zW S Z nL q (lw v) st σ) : zW S Z nL pc lv st σ := by
  subst hq
  subst hy
  exact fun H locs ls hX hl => lv_iinc C.1.1 C.1.2.1 d hl hj rfl hn (hl' _) (fun ls' h' => k _ h H locs ls' hX h')

theorem zr_iadd (C : zx_ok S Z cc nL own fr lo) {x y : Int32} (d : decode cc pc = .ok (.iadd, 1)) (hq : pc + 1 = q) (k : zW S Z nL q lv (.int (x + y) :: st) σ) : zW S Z nL pc lv (.int y :: .int x :: st) σ := by
  subst hq
  exact fun H locs ls hX hl => lv_iadd C.1.1 C.1.2.1 d (k H locs ls hX hl)
theorem zr_isub (C : zx_ok S Z cc nL own fr lo) {x y : Int32} (d : decode cc pc = .ok (.isub, 1)) (hq : pc + 1 = q) (k : zW S Z nL q lv (.int (x - y) :: st) σ) : zW S Z nL pc lv (.int y :: .int x :: st) σ := by
  subst hq
  exact fun H locs ls hX hl => lv_isub C.1.1 C.1.2.1 d (k H locs ls hX hl)
theorem zr_imul (C : zx_ok S Z cc nL own fr lo) {x y : Int32} (d : decode cc pc = .ok (.imul, 1)) (hq : pc + 1 = q) (k : zW S Z nL q lv (.int (x * y) :: st) σ) : zW S Z nL pc lv (.int y :: .int x :: st) σ := by
  subst hq
  exact fun H locs ls hX hl => lv_imul C.1.1 C.1.2.1 d (k H locs ls hX hl)
theorem zr_iand (C : zx_ok S Z cc nL own fr lo) {x y : Int32} (d : decode cc pc = .ok (.iand, 1)) (hq : pc + 1 = q) (k : zW S Z nL q lv (.int (x &&& y) :: st) σ) : zW S Z nL pc lv (.int y :: .int x :: st) σ := by
  subst hq
  exact fun H locs ls hX hl => lv_iand C.1.1 C.1.2.1 d (k H locs ls hX hl)
theorem zr_ior (C : zx_ok S Z cc nL own fr lo) {x y : Int32} (d : decode cc pc = .ok (.ior, 1)) (hq : pc + 1 = q) (k : zW S Z nL q lv (.int (x ||| y) :: st) σ) : zW S Z nL pc lv (.int y :: .int x :: st) σ := by
  subst hq
  exact fun H locs ls hX hl => lv_ior C.1.1 C.1.2.1 d (k H locs ls hX hl)
theorem zr_ixor (C : zx_ok S Z cc nL own fr lo) {x y : Int32} (d : decode cc pc = .ok (.ixor, 1)) (hq : pc + 1 = q) (k : zW S Z nL q lv (.int (x ^^^ y) :: st) σ) : zW S Z nL pc lv (.int y :: .int x :: st) σ := by
  subst hq
  exact fun H locs ls hX hl => lv_ixor C.1.1 C.1.2.1 d (k H locs ls hX hl)
theorem zr_ishl (C : zx_ok S Z cc nL own fr lo) {x y : Int32} (d : decode cc pc = .ok (.ishl, 1)) (hq : pc + 1 = q) (k : zW S Z nL q lv (.int (x <<< (y &&& 31)) :: st) σ) : zW S Z nL pc lv (.int y :: .int x :: st) σ := by
  subst hq
  exact fun H locs ls hX hl => lv_ishl C.1.1 C.1.2.1 d (k H locs ls hX hl)
theorem zr_ishr (C : zx_ok S Z cc nL own fr lo) {x y : Int32} (d : decode cc pc = .ok (.ishr, 1)) (hq : pc + 1 = q) (k : zW S Z nL q lv (.int (x >>> (y &&& 31)) :: st) σ) : zW S Z nL pc lv (.int y :: .int x :: st) σ := by
  subst hq
  exact fun H locs ls hX hl => lv_ishr C.1.1 C.1.2.1 d (k H locs ls hX hl)
theorem zr_idiv (C : zx_ok S Z cc nL own fr lo) {x y : Int32} (d : decode cc pc = .ok (.idiv, 1)) (hn : ¬ y = 0) (hq : pc + 1 = q) (k : zW S Z nL q lv (.int (x / y) :: st) σ) : zW S Z nL pc lv (.int y :: .int x :: st) σ := by
  subst hq
  exact fun H locs ls hX hl => lv_idiv C.1.1 C.1.2.1 d hn (k H locs ls hX hl)
theorem zr_irem (C : zx_ok S Z cc nL own fr lo) {x y : Int32} (d : decode cc pc = .ok (.irem, 1)) (hn : ¬ y = 0) (hq : pc + 1 = q) (k : zW S Z nL q lv (.int (x - x / y * y) :: st) σ) : zW S Z nL pc lv (.int y :: .int x :: st) σ := by
  subst hq
  exact fun H locs ls hX hl => lv_irem C.1.1 C.1.2.1 d hn (k H locs ls hX hl)
theorem zr_iushr (C : zx_ok S Z cc nL own fr lo) {x y : Int32} (d : decode cc pc = .ok (.iushr, 1)) (hq : pc + 1 = q) (k : zW S Z nL q lv (.int ((x.toUInt32 >>> (y.toUInt32 &&& Int32.toUInt32 31)).toInt32) :: st) σ) : zW S Z nL pc lv (.int y :: .int x :: st) σ := by
  subst hq
  exact fun H locs ls hX hl => lv_iushr C.1.1 C.1.2.1 d rfl (k H locs ls hX hl)
theorem zr_ineg (C : zx_ok S Z cc nL own fr lo) {x : Int32} (d : decode cc pc = .ok (.ineg, 1)) (hq : pc + 1 = q) (k : zW S Z nL q lv (.int (-x) :: st) σ) : zW S Z nL pc lv (.int x :: st) σ := by
  subst hq
  exact fun H locs ls hX hl => lv_ineg C.1.1 C.1.2.1 d (k H locs ls hX hl)
theorem zr_dup (C : zx_ok S Z cc nL own fr lo) {va : Value} (d : decode cc pc = .ok (.dup, 1)) (ha : va.category = 1) (hq : pc + 1 = q) (k : zW S Z nL q lv (va :: va :: st) σ) : zW S Z nL pc lv (va :: st) σ := by
  subst hq
  exact fun H locs ls hX hl => lv_dup C.1.1 C.1.2.1 d ha (k H locs ls hX hl)
theorem zr_pop (C : zx_ok S Z cc nL own fr lo) {va : Value} (d : decode cc pc = .ok (.pop, 1)) (ha : va.category = 1) (hq : pc + 1 = q) (k : zW S Z nL q lv st σ) : zW S Z nL pc lv (va :: st) σ := by
  subst hq
  exact fun H locs ls hX hl => lv_pop C.1.1 C.1.2.1 d ha (k H locs ls hX hl)
theorem zr_dup_x1 (C : zx_ok S Z cc nL own fr lo) {va vb : Value} (d : decode cc pc = .ok (.dup_x1, 1)) (ha : va.category = 1) (hb : vb.category = 1) (hq : pc + 1 = q) (k : zW S Z nL q lv (va :: vb :: va :: st) σ) : zW S Z nL pc lv (va :: vb :: st) σ := by
  subst hq
  exact fun H locs ls hX hl => lv_dup_x1 C.1.1 C.1.2.1 d ha hb (k H locs ls hX hl)
theorem zr_dup2 (C : zx_ok S Z cc nL own fr lo) {va vb : Value} (d : decode cc pc = .ok (.dup2, 1)) (ha : va.category = 1) (hb : vb.category = 1) (hq : pc + 1 = q) (k : zW S Z nL q lv (va :: vb :: va :: vb :: st) σ) : zW S Z nL pc lv (va :: vb :: st) σ := by
  subst hq
  exact fun H locs ls hX hl => lv_dup2_11 C.1.1 C.1.2.1 d ha hb (k H locs ls hX hl)
theorem zr_goto (C : zx_ok S Z cc nL own fr lo) {off : Int} (d : decode cc pc = .ok (.goto off, 3)) (hq : (pc : Int) + off = (q : Int)) (k : zW S Z nL q lv st σ) : zW S Z nL pc lv st σ :=
  fun H locs ls hX hl => lv_goto C.1.1 C.1.2.1 d hq (k H locs ls hX hl)
theorem zr_ifnonnull (C : zx_ok S Z cc nL own fr lo) {x : Nat} {off : Int} (d : decode cc pc = .ok (.ifnonnull off, 3)) (hq : (pc : Int) + off = (q : Int)) (k : zW S Z nL q lv st σ) : zW S Z nL pc lv (.ref x :: st) σ :=
  fun H locs ls hX hl => lv_ifnonnull C.1.1 C.1.2.1 d hq (k H locs ls hX hl)
theorem zr_ifnull (C : zx_ok S Z cc nL own fr lo) {x : Nat} {off : Int} (d : decode cc pc = .ok (.ifnull off, 3)) (hq : pc + 3 = q) (k : zW S Z nL q lv st σ) : zW S Z nL pc lv (.ref x :: st) σ := by
  subst hq
  exact fun H locs ls hX hl => lv_ifnull C.1.1 C.1.2.1 d (k H locs ls hX hl)
theorem zr_ifnonnullN (C : zx_ok S Z cc nL own fr lo) {off : Int} (d : decode cc pc = .ok (.ifnonnull off, 3)) (hq : pc + 3 = q) (k : zW S Z nL q lv st σ) : zW S Z nL pc lv (.null :: st) σ := by
  subst hq
  exact fun H locs ls hX hl => lv_ifnonnullN C.1.1 C.1.2.1 d (k H locs ls hX hl)
theorem zr_ifnullN (C : zx_ok S Z cc nL own fr lo) {off : Int} (d : decode cc pc = .ok (.ifnull off, 3)) (hq : (pc : Int) + off = (q : Int)) (k : zW S Z nL q lv st σ) : zW S Z nL pc lv (.null :: st) σ :=
  fun H locs ls hX hl => lv_ifnullN C.1.1 C.1.2.1 d hq (k H locs ls hX hl)
theorem zr_if_eq (C : zx_ok S Z cc nL own fr lo) {x : Int32} {off : Int} {tgt : Nat} {dc : Decidable (x = 0)} {A B : Option α} (d : decode cc pc = .ok (.ifCond .eq off, 3)) (h : @ite _ (x = 0) dc A B = some r) (ht : (pc : Int) + off = (tgt : Int)) (hq : pc + 3 = q) (kt : A = some r → zW S Z nL tgt lv st σ) (kf : B = some r → zW S Z nL q lv st σ) : zW S Z nL pc lv (.int x :: st) σ := by
  subst hq
  intro H locs ls hX hl
  refine lv_if_eq C.1.1 C.1.2.1 d ht (fun c => kt ?_ H locs ls hX hl) (fun c => kf ?_ H locs ls hX hl)
  · rw [if_pos c] at h; exact h
  · rw [if_neg c] at h; exact h
theorem zr_icmp_eq (C : zx_ok S Z cc nL own fr lo) {x y : Int32} {off : Int} {tgt : Nat} {dc : Decidable (x = y)} {A B : Option α} (d : decode cc pc = .ok (.if_icmp .eq off, 3)) (h : @ite _ (x = y) dc A B = some r) (ht : (pc : Int) + off = (tgt : Int)) (hq : pc + 3 = q) (kt : A = some r → zW S Z nL tgt lv st σ) (kf : B = some r → zW S Z nL q lv st σ) : zW S Z nL pc lv (.int y :: .int x :: st) σ := by
  subst hq
  intro H locs ls hX hl
  refine lv_icmp_eq C.1.1 C.1.2.1 d ht (fun c => kt ?_ H locs ls hX hl) (fun c => kf ?_ H locs ls hX hl)
  · rw [if_pos c] at h; exact h
  · rw [if_neg c] at h; exact h
theorem zr_if_ne (C : zx_ok S Z cc nL own fr lo) {x : Int32} {off : Int} {tgt : Nat} {dc : Decidable (x = 0)} {A B : Option α} (d : decode cc pc = .ok (.ifCond .ne off, 3)) (h : @ite _ (x = 0) dc A B = some r) (ht : (pc : Int) + off = (tgt : Int)) (hq : pc + 3 = q) (kt : B = some r → zW S Z nL tgt lv st σ) (kf : A = some r → zW S Z nL q lv st σ) : zW S Z nL pc lv (.int x :: st) σ := by
  subst hq
  intro H locs ls hX hl
  refine lv_if_ne C.1.1 C.1.2.1 d ht (fun c => kt ?_ H locs ls hX hl) (fun c => kf ?_ H locs ls hX hl)
  · rw [if_neg c] at h; exact h
  · rw [if_pos c] at h; exact h
theorem zr_icmp_ne (C : zx_ok S Z cc nL own fr lo) {x y : Int32} {off : Int} {tgt : Nat} {dc : Decidable (x = y)} {A B : Option α} (d : decode cc pc = .ok (.if_icmp .ne off, 3)) (h : @ite _ (x = y) dc A B = some r) (ht : (pc : Int) + off = (tgt : Int)) (hq : pc + 3 = q) (kt : B = some r → zW S Z nL tgt lv st σ) (kf : A = some r → zW S Z nL q lv st σ) : zW S Z nL pc lv (.int y :: .int x :: st) σ := by
  subst hq
  intro H locs ls hX hl
  refine lv_icmp_ne C.1.1 C.1.2.1 d ht (fun c => kt ?_ H locs ls hX hl) (fun c => kf ?_ H locs ls hX hl)
  · rw [if_neg c] at h; exact h
  · rw [if_pos c] at h; exact h
theorem zr_if_lt (C : zx_ok S Z cc nL own fr lo) {x : Int32} {off : Int} {tgt : Nat} {dc : Decidable (x < 0)} {A B : Option α} (d : decode cc pc = .ok (.ifCond .lt off, 3)) (h : @ite _ (x < 0) dc A B = some r) (ht : (pc : Int) + off = (tgt : Int)) (hq : pc + 3 = q) (kt : A = some r → zW S Z nL tgt lv st σ) (kf : B = some r → zW S Z nL q lv st σ) : zW S Z nL pc lv (.int x :: st) σ := by
  subst hq
  intro H locs ls hX hl
  refine lv_if_lt C.1.1 C.1.2.1 d ht (fun c => kt ?_ H locs ls hX hl) (fun c => kf ?_ H locs ls hX hl)
  · rw [if_pos c] at h; exact h
  · rw [if_neg c] at h; exact h
theorem zr_icmp_lt (C : zx_ok S Z cc nL own fr lo) {x y : Int32} {off : Int} {tgt : Nat} {dc : Decidable (x < y)} {A B : Option α} (d : decode cc pc = .ok (.if_icmp .lt off, 3)) (h : @ite _ (x < y) dc A B = some r) (ht : (pc : Int) + off = (tgt : Int)) (hq : pc + 3 = q) (kt : A = some r → zW S Z nL tgt lv st σ) (kf : B = some r → zW S Z nL q lv st σ) : zW S Z nL pc lv (.int y :: .int x :: st) σ := by
  subst hq
  intro H locs ls hX hl
  refine lv_icmp_lt C.1.1 C.1.2.1 d ht (fun c => kt ?_ H locs ls hX hl) (fun c => kf ?_ H locs ls hX hl)
  · rw [if_pos c] at h; exact h
  · rw [if_neg c] at h; exact h
theorem zr_if_ge (C : zx_ok S Z cc nL own fr lo) {x : Int32} {off : Int} {tgt : Nat} {dc : Decidable (0 ≤ x)} {A B : Option α} (d : decode cc pc = .ok (.ifCond .ge off, 3)) (h : @ite _ (0 ≤ x) dc A B = some r) (ht : (pc : Int) + off = (tgt : Int)) (hq : pc + 3 = q) (kt : A = some r → zW S Z nL tgt lv st σ) (kf : B = some r → zW S Z nL q lv st σ) : zW S Z nL pc lv (.int x :: st) σ := by
  subst hq
  intro H locs ls hX hl
  refine lv_if_ge C.1.1 C.1.2.1 d ht (fun c => kt ?_ H locs ls hX hl) (fun c => kf ?_ H locs ls hX hl)
  · rw [if_pos c] at h; exact h
  · rw [if_neg c] at h; exact h
theorem zr_icmp_ge (C : zx_ok S Z cc nL own fr lo) {x y : Int32} {off : Int} {tgt : Nat} {dc : Decidable (y ≤ x)} {A B : Option α} (d : decode cc pc = .ok (.if_icmp .ge off, 3)) (h : @ite _ (y ≤ x) dc A B = some r) (ht : (pc : Int) + off = (tgt : Int)) (hq : pc + 3 = q) (kt : A = some r → zW S Z nL tgt lv st σ) (kf : B = some r → zW S Z nL q lv st σ) : zW S Z nL pc lv (.int y :: .int x :: st) σ := by
  subst hq
  intro H locs ls hX hl
  refine lv_icmp_ge C.1.1 C.1.2.1 d ht (fun c => kt ?_ H locs ls hX hl) (fun c => kf ?_ H locs ls hX hl)
  · rw [if_pos c] at h; exact h
  · rw [if_neg c] at h; exact h
theorem zr_if_gt (C : zx_ok S Z cc nL own fr lo) {x : Int32} {off : Int} {tgt : Nat} {dc : Decidable (0 < x)} {A B : Option α} (d : decode cc pc = .ok (.ifCond .gt off, 3)) (h : @ite _ (0 < x) dc A B = some r) (ht : (pc : Int) + off = (tgt : Int)) (hq : pc + 3 = q) (kt : A = some r → zW S Z nL tgt lv st σ) (kf : B = some r → zW S Z nL q lv st σ) : zW S Z nL pc lv (.int x :: st) σ := by
  subst hq
  intro H locs ls hX hl
  refine lv_if_gt C.1.1 C.1.2.1 d ht (fun c => kt ?_ H locs ls hX hl) (fun c => kf ?_ H locs ls hX hl)
  · rw [if_pos c] at h; exact h
  · rw [if_neg c] at h; exact h
theorem zr_icmp_gt (C : zx_ok S Z cc nL own fr lo) {x y : Int32} {off : Int} {tgt : Nat} {dc : Decidable (y < x)} {A B : Option α} (d : decode cc pc = .ok (.if_icmp .gt off, 3)) (h : @ite _ (y < x) dc A B = some r) (ht : (pc : Int) + off = (tgt : Int)) (hq : pc + 3 = q) (kt : A = some r → zW S Z nL tgt lv st σ) (kf : B = some r → zW S Z nL q lv st σ) : zW S Z nL pc lv (.int y :: .int x :: st) σ := by
  subst hq
  intro H locs ls hX hl
  refine lv_icmp_gt C.1.1 C.1.2.1 d ht (fun c => kt ?_ H locs ls hX hl) (fun c => kf ?_ H locs ls hX hl)
  · rw [if_pos c] at h; exact h
  · rw [if_neg c] at h; exact h
theorem zr_if_le (C : zx_ok S Z cc nL own fr lo) {x : Int32} {off : Int} {tgt : Nat} {dc : Decidable (x ≤ 0)} {A B : Option α} (d : decode cc pc = .ok (.ifCond .le off, 3)) (h : @ite _ (x ≤ 0) dc A B = some r) (ht : (pc : Int) + off = (tgt : Int)) (hq : pc + 3 = q) (kt : A = some r → zW S Z nL tgt lv st σ) (kf : B = some r → zW S Z nL q lv st σ) : zW S Z nL pc lv (.int x :: st) σ := by
  subst hq
  intro H locs ls hX hl
  refine lv_if_le C.1.1 C.1.2.1 d ht (fun c => kt ?_ H locs ls hX hl) (fun c => kf ?_ H locs ls hX hl)
  · rw [if_pos c] at h; exact h
  · rw [if_neg c] at h; exact h
theorem zr_icmp_le (C : zx_ok S Z cc nL own fr lo) {x y : Int32} {off : Int} {tgt : Nat} {dc : Decidable (x ≤ y)} {A B : Option α} (d : decode cc pc = .ok (.if_icmp .le off, 3)) (h : @ite _ (x ≤ y) dc A B = some r) (ht : (pc : Int) + off = (tgt : Int)) (hq : pc + 3 = q) (kt : A = some r → zW S Z nL tgt lv st σ) (kf : B = some r → zW S Z nL q lv st σ) : zW S Z nL pc lv (.int y :: .int x :: st) σ := by
  subst hq
  intro H locs ls hX hl
  refine lv_icmp_le C.1.1 C.1.2.1 d ht (fun c => kt ?_ H locs ls hX hl) (fun c => kf ?_ H locs ls hX hl)
  · rw [if_pos c] at h; exact h
  · rw [if_neg c] at h; exact h
theorem zr_lookup (C : zx_ok S Z cc nL own fr lo) {dflt : Int} {ps : Array (Int × Int)} {len : Nat} {x : Int32} {off : Int} {tgt : Nat} (d : decode cc pc = .ok (.lookupswitch dflt ps, len)) (hp : (ps.toList.zip (ps.toList.drop 1)).all (fun (a, next) => a.1 < next.1) = true) (ho : Op.lookupswitch.offset ps.toList dflt x.toInt = off) (ht : (pc : Int) + off = (tgt : Int)) (k : zW S Z nL tgt lv st σ) : zW S Z nL pc lv (.int x :: st) σ :=
  fun H locs ls hX hl => lv_lookup C.1.1 C.1.2.1 d hp ho ht (k H locs ls hX hl)
theorem zr_tableOut (C : zx_ok S Z cc nL own fr lo) {dflt lw hi : Int} {offs : Array Int} {len : Nat} {x : Int32} {tgt : Nat} (d : decode cc pc = .ok (.tableswitch dflt lw hi offs, len)) (h : x.toInt < lw ∨ hi < x.toInt) (ht : (pc : Int) + dflt = (tgt : Int)) (k : zW S Z nL tgt lv st σ) : zW S Z nL pc lv (.int x :: st) σ :=
  fun H locs ls hX hl => lv_tableOut C.1.1 C.1.2.1 d h ht (k H locs ls hX hl)
theorem zr_tableIn (C : zx_ok S Z cc nL own fr lo) {dflt lw hi : Int} {offs : Array Int} {len : Nat} {x : Int32} {off : Int} {tgt : Nat} (d : decode cc pc = .ok (.tableswitch dflt lw hi offs, len)) (h1 : ¬ x.toInt < lw) (h2 : ¬ hi < x.toInt) (ho : offs[(x.toInt - lw).toNat]? = some off) (ht : (pc : Int) + off = (tgt : Int)) (k : zW S Z nL tgt lv st σ) : zW S Z nL pc lv (.int x :: st) σ :=
  fun H locs ls hX hl => lv_tableIn C.1.1 C.1.2.1 d h1 h2 ho ht (k H locs ls hX hl)
/-! the world -/
theorem zr_iald (C : zx_ok S Z cc nL own fr lo) {k n : Nat} {i : Int32} (d : decode cc pc = .ok (.iaload, 1)) (ha : zx_ai S k n) (hin : vp_in i n) (hq : pc + 1 = q) (kk : zW S Z nL q lv (.int (σ k i.toNatClampNeg) :: st) σ) : zW S Z nL pc lv (.int i :: .ref (zz_d Z k) :: st) σ := by
  subst hq
  exact fun H locs ls hX hl => va_iald C.1.1 C.1.2.1 C.2.1 hX.1 k 0 (by rw [zx_w_at ha.1, ha.2]) rfl hin d (kk H locs ls hX hl)
theorem zr_zald (C : zx_ok S Z cc nL own fr lo) {k n : Nat} {i : Int32} (d : decode cc pc = .ok (.baload, 1)) (ha : zx_az S k n) (hin : vp_in i n) (hq : pc + 1 = q) (kk : zW S Z nL q lv (.int (σ k i.toNatClampNeg) :: st) σ) : zW S Z nL pc lv (.int i :: .ref (zz_d Z k) :: st) σ := by
  subst hq
  exact fun H locs ls hX hl => va_zald C.1.1 C.1.2.1 C.2.1 hX.1 k 1 (by rw [zx_w_at ha.1, ha.2]) rfl hin d (kk H locs ls hX hl)
theorem zr_iast (C : zx_ok S Z cc nL own fr lo) {k n : Nat} {i x : Int32} (d : decode cc pc = .ok (.iastore, 1)) (ha : zx_ai S k n) (hin : vp_in i n) (hq : pc + 1 = q) (kk : zW S Z nL q lv st (zx_su σ k i.toNatClampNeg x)) : zW S Z nL pc lv (.int x :: .int i :: .ref (zz_d Z k) :: st) σ := by
  subst hq
  intro H locs ls hX hl
  refine va_iast C.1.1 C.1.2.1 C.2.1 hX.1 (zx_w_D C.2.2.2.1) hX.2 k 0 (by rw [zx_w_at ha.1, ha.2]) rfl hin d (fun H1 locs1 hP _ hS => kk H1 locs1 ls ⟨?_, hS⟩ hl)
  have e := zx_w_set (cz := zz_z Z) (ad := zz_d Z) (σ := σ) ha.1 (upd (σ k) i.toNatClampNeg x)
  rw [ha.2] at e
  unfold zx_su
  rw [← e]
  exact hP
theorem zr_zast (C : zx_ok S Z cc nL own fr lo) {k n : Nat} {i x : Int32} (d : decode cc pc = .ok (.bastore, 1)) (ha : zx_az S k n) (hin : vp_in i n) (hq : pc + 1 = q) (kk : zW S Z nL q lv st (zx_su σ k i.toNatClampNeg (vp_nar .boolean x))) : zW S Z nL pc lv (.int x :: .int i :: .ref (zz_d Z k) :: st) σ := by
  subst hq
  intro H locs ls hX hl
  refine va_zast C.1.1 C.1.2.1 C.2.1 hX.1 (zx_w_D C.2.2.2.1) hX.2 k 1 (by rw [zx_w_at ha.1, ha.2]) rfl hin d (fun H1 locs1 hP _ hS => kk H1 locs1 ls ⟨?_, hS⟩ hl)
  have e := zx_w_set (cz := zz_z Z) (ad := zz_d Z) (σ := σ) ha.1 (upd (σ k) i.toNatClampNeg (vp_nar .boolean x))
  rw [ha.2] at e
  unfold zx_su
  rw [← e]
  exact hP
theorem zr_alen (C : zx_ok S Z cc nL own fr lo) {k n : Nat} {x : Int32} (d : decode cc pc = .ok (.arraylength, 1)) (ha : zx_ai S k n) (hx : Int32.ofNat n = x) (hq : pc + 1 = q) (kk : zW S Z nL q lv (.int x :: st) σ) : zW S Z nL pc lv (.ref (zz_d Z k) :: st) σ := by
  subst hq
  exact fun H locs ls hX hl => va_alen C.1.1 C.1.2.1 C.2.1 hX.1 k 0 (by rw [zx_w_at ha.1, ha.2]) rfl hx d (kk H locs ls hX hl)
theorem zr_get (C : zx_ok S Z cc nL own fr lo) {idx k sl : Nat} {V : (Nat → Nat) → (Nat → Int32) → Value} (d : decode cc pc = .ok (.getfield idx, 3)) (hf : zx_fl S own idx k sl V) (hq : pc + 3 = q) (kk : zW S Z nL q lv (V (zz_d Z) (σ k) :: st) σ) : zW S Z nL pc lv (.ref (zz_d Z k) :: st) σ := by
  subst hq
  obtain ⟨hk, ci, K, T, N, ref, hc, hsl, hu, hlk, hsm, hL⟩ := hf
  obtain ⟨fs, h1, h2⟩ := hL (zz_z Z) (zz_d Z) (σ k)
  refine fun H locs ls hX hl => va_get C.1.1 C.1.2.1 C.1.2.2.2.2 hu C.1.2.2.2.1 C.2.1 hX.1 k (by rw [zx_w_at hk, h1]) hc sl hsl (C.1.2.2.2.2 _ hlk) ?_ h2 d (kk H locs ls hX hl)
  intro y hy
  rcases hsm with h | h
  · rw [h]; exact hy
  · exact u_same (C.1.2.2.2.2 _ h) y hy
theorem zr_put (C : zx_ok S Z cc nL own fr lo) {idx k sl : Nat} {ty : FieldType} {x : Int32} (d : decode cc pc = .ok (.putfield idx, 3)) (hf : zx_fp S own idx k sl ty) (hn : narrow ty (.int x) = .int x) (hfit : fits ty (.int x) = true) (hq : pc + 3 = q) (kk : zW S Z nL q lv st (zx_su σ k sl x)) : zW S Z nL pc lv (.int x :: .ref (zz_d Z k) :: st) σ := by
  subst hq
  obtain ⟨hk, ci, K, T, N, t, hc, hsl, hu, ht, hnm, hlk, hfin, hty, hL⟩ := hf
  obtain ⟨fs, h1, h2, h3⟩ := hL (zz_z Z) (zz_d Z) (σ k)
  intro H locs ls hX hl
  refine va_put C.1.1 C.1.2.1 C.1.2.2.2.2 hu t ht hnm C.1.2.2.2.1 C.2.1 hX.1 (zx_w_D C.2.2.2.1) hX.2 k (by rw [zx_w_at hk, h1]) hc sl hsl (C.1.2.2.2.2 _ hlk) (fun _ h => h) hfin hty hn hfit h2 d (fun H1 locs1 hP _ hS => kk H1 locs1 ls ⟨?_, hS⟩ hl)
  have e := zx_w_set (cz := zz_z Z) (ad := zz_d Z) (σ := σ) hk (upd (σ k) sl x)
  rw [h3] at e
  unfold zx_su
  rw [← e]
  exact hP
theorem zr_copy (C : zx_ok S Z cc nL own fr lo) {idx k0 k1 n0 n1 : Nat} {i0 i1 n : Int32} {f : zx_S → Option α} (d : decode cc pc = .ok (.invokestatic idx, 3)) (h : zx_cp σ k0 i0 n0 k1 i1 n1 n f = some r) (h0 : zx_ai S k0 n0) (h1 : zx_ai S k1 n1) (hlk : Cond.methodLink own idx arraycopyName ∈ zd_W S) (hnat : Cond.native arraycopyName ∈ zd_W S) (hstat : Cond.static arraycopyName ∈ zd_W S) (hini : Cond.initialized "java/lang/System" ∈ zd_W S) (hfr : 1 ≤ fr) (hlo : (st.map fun v => v.category).sum + (nativeFrameWords "java/lang/System" "arraycopy" 5 + 11) ≤ lo) (hq : pc + 3 = q) (kk : ∀ y : zx_S, f y = some r → zW S Z nL q lv st y) : zW S Z nL pc lv (.int n :: .int i1 :: .ref (zz_d Z k1) :: .int i0 :: .ref (zz_d Z k0) :: st) σ := by
  subst hq
  unfold zx_cp at h
  split at h
  · cases h
  · rename_i hno
    have a1 : ¬ i0 < 0 := fun z => hno (Or.inl z)
    have a2 : ¬ i1 < 0 := fun z => hno (Or.inr (Or.inl z))
    have a3 : ¬ n < 0 := fun z => hno (Or.inr (Or.inr (Or.inl z)))
    have a4 : i0.toNatClampNeg + n.toNatClampNeg ≤ n0 := Nat.not_lt.mp (fun z => hno (Or.inr (Or.inr (Or.inr (Or.inl z)))))
    have a5 : i1.toNatClampNeg + n.toNatClampNeg ≤ n1 := Nat.not_lt.mp (fun z => hno (Or.inr (Or.inr (Or.inr (Or.inr z)))))
    intro H locs ls hX hl
    refine va_copyi C.1.1 C.1.2.1 (C.1.2.2.1.trans hl.1.symm) C.1.2.2.2.1 (C.1.2.2.2.2 _ hlk) (C.1.2.2.2.2 _ hnat) (C.1.2.2.2.2 _ hstat) (C.1.2.2.2.2 _ hini) C.2.1 hX.1 (zx_w_D C.2.2.2.1) hX.2 k0 k1 0 0 (by rw [zx_w_at h0.1, h0.2]) (by rw [zx_w_at h1.1, h1.2]) rfl rfl rfl a1 a2 a3 a4 a5 (fun _ _ => rfl) (Nat.le_trans hfr C.2.2.2.2.2.1) (Nat.le_trans hlo C.2.2.2.2.2.2) d (fun H1 locs1 hP _ hS => kk _ h H1 locs1 ls ⟨?_, hS⟩ hl)
    have e := zx_w_set (cz := zz_z Z) (ad := zz_d Z) (σ := σ) h1.1 (va_cpy (σ k0) (σ k1) i0.toNatClampNeg i1.toNatClampNeg n.toNatClampNeg)
    rw [h1.2] at e
    rw [← e]
    exact hP
end ZR

