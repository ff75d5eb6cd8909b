/-! constructors: a world that grows, as a list -/
def zG (S : zx_D) (Z : zx_Z) (A : Nat → Prop) (nL pc : Nat) (lv : List (Nat × Value)) (st : List Value) (ws : va_W) (cells slots : Nat) : Prop :=
  ∀ (H : Heap) (locs : List Loc) (ls : Array Slot), va_P (zz_D Z) (zd_C S) ws H → va_D A ws → va_S A (zz_H Z) H locs → lv_has ls nL lv → W (zz_p Z) (zz_l Z) (zz_e Z) (zz_R Z) (zz_s Z) (zz_m Z) (zz_a Z) (zz_b Z) (zz_t Z) (zz_c Z) H locs cells slots (zz_Q Z) (F0 (zz_m Z) pc ls st)
abbrev zg_ok (S : zx_D) (Z : zx_Z) (A : Nat → Prop) (cc : ByteArray) (nL : Nat) (own : String) (fr lo ce sl : Nat) : Prop :=
  CallFix (zz_p Z) (zz_m Z) (zz_c Z) cc nL (zz_s Z) (zz_a Z) (zd_W S) own ∧ va_K (zz_D Z) (zd_C S) (zx_ty (zz_z Z)) (zz_s Z) ∧ (∀ w ∈ zd_X S, va_Nw w (zz_s Z)) ∧ (∀ q, (zz_H Z).size ≤ q → A q) ∧ zx_So S ∧ (fr ≤ (zz_R Z).frames ∧ lo ≤ (zz_R Z).locals) ∧ ce ≤ (zz_R Z).cells ∧ sl ≤ (zz_R Z).slots
section ZG
variable {S : zx_D} {Z : zx_Z} {A : Nat → Prop} {cc : ByteArray} {nL pc q : Nat} {own : String} {fr lo ce sl : Nat} {lv lv' : List (Nat × Value)} {rest st : List Value} {ws : va_W} {cells slots : Nat}
theorem zg_iconst (C : zg_ok S Z A cc nL own fr lo ce sl) {n : Int} {v : Int32} (d : decode cc pc = .ok (.iconst n, 1)) (hv : Int32.ofInt n = v) (hq : pc + 1 = q) (k : zG S Z A nL q lv (.int v :: st) ws cells slots) : zG S Z A nL pc lv st ws cells slots := by
  subst hq
  exact fun H locs ls hP hD hS hl => lv_iconst C.1.1 C.1.2.1 d hv (k H locs ls hP hD hS hl)
theorem zg_bipush (C : zg_ok S Z A cc nL own fr lo ce sl) {n : Int} {v : Int32} (d : decode cc pc = .ok (.bipush n, 2)) (hv : (Int8.ofInt n).toInt32 = v) (hq : pc + 2 = q) (k : zG S Z A nL q lv (.int v :: st) ws cells slots) : zG S Z A nL pc lv st ws cells slots := by
  subst hq
  exact fun H locs ls hP hD hS hl => lv_bipush C.1.1 C.1.2.1 d hv (k H locs ls hP hD hS hl)
theorem zg_sipush (C : zg_ok S Z A cc nL own fr lo ce sl) {n : Int} {v : Int32} (d : decode cc pc = .ok (.sipush n, 3)) (hv : (Int16.ofInt n).toInt32 = v) (hq : pc + 3 = q) (k : zG S Z A nL q lv (.int v :: st) ws cells slots) : zG S Z A nL pc lv st ws cells slots := by
  subst hq
  exact fun H locs ls hP hD hS hl => lv_sipush C.1.1 C.1.2.1 d hv (k H locs ls hP hD hS hl)
theorem zg_iload_n (C : zg_ok S Z A cc nL own fr lo ce sl) {n : Fin 4} {i : Nat} {x : Int32} (d : decode cc pc = .ok (.iload_n n, 1)) (hi : (n : Nat) = i) (j : Nat) (hj : lv[j]? = some (i, .int x)) (hq : pc + 1 = q) (k : zG S Z A nL q lv (.int x :: st) ws cells slots) : zG S Z A nL pc lv st ws cells slots := by
  subst hq
  exact fun H locs ls hP hD hS hl => lv_iload_n C.1.1 C.1.2.1 d hi (lv_at hl j hj) (k H locs ls hP hD hS hl)
theorem zg_aload_n (C : zg_ok S Z A cc nL own fr lo ce sl) {n : Fin 4} {i : Nat} {x : Nat} (d : decode cc pc = .ok (.aload_n n, 1)) (hi : (n : Nat) = i) (j : Nat) (hj : lv[j]? = some (i, .ref x)) (hq : pc + 1 = q) (k : zG S Z A nL q lv (.ref x :: st) ws cells slots) : zG S Z A nL pc lv st ws cells slots := by
  subst hq
  exact fun H locs ls hP hD hS hl => lv_aload_n C.1.1 C.1.2.1 d hi (lv_at hl j hj) (k H locs ls hP hD hS hl)
theorem zg_aload (C : zg_ok S Z A cc nL own fr lo ce sl) {i : Nat} {x : Nat} (d : decode cc pc = .ok (.aload i, 2)) (j : Nat) (hj : lv[j]? = some (i, .ref x)) (hq : pc + 2 = q) (k : zG S Z A nL q lv (.ref x :: st) ws cells slots) : zG S Z A nL pc lv st ws cells slots := by
  subst hq
  exact fun H locs ls hP hD hS hl => lv_aload C.1.1 C.1.2.1 d (lv_at hl j hj) (k H locs ls hP hD hS hl)
theorem zg_dup (C : zg_ok S Z A cc nL own fr lo ce sl) {va : Value} (d : decode cc pc = .ok (.dup, 1)) (ha : va.category = 1) (hq : pc + 1 = q) (k : zG S Z A nL q lv (va :: va :: st) ws cells slots) : zG S Z A nL pc lv (va :: st) ws cells slots := by
  subst hq
  exact fun H locs ls hP hD hS hl => lv_dup C.1.1 C.1.2.1 d ha (k H locs ls hP hD hS hl)
theorem zg_astore_n (C : zg_ok S Z A cc nL own fr lo ce sl) {n : Fin 4} {i : Nat} {x : Nat} (d : decode cc pc = .ok (.astore_n n, 1)) (hi : (n : Nat) = i) (hn : i < nL) (hl' : (i, Value.ref x) :: lv.filter (zr_f i) = lv') (hq : pc + 1 = q) (k : zG S Z A nL q lv' st ws cells slots) : zG S Z A nL pc lv (.ref x :: st) ws cells slots := by
  subst hq
  exact fun H locs ls hP hD hS hl => lv_astore_n C.1.1 C.1.2.1 d hi hl hn hl' (fun ls' h' => k H locs ls' hP hD hS h')
theorem zg_istore_n (C : zg_ok S Z A cc nL own fr lo ce sl) {n : Fin 4} {i : Nat} {x : Int32} (d : decode cc pc = .ok (.istore_n n, 1)) (hi : (n : Nat) = i) (hn : i < nL) (hl' : (i, Value.int x) :: lv.filter (zr_f i) = lv') (hq : pc + 1 = q) (k : zG S Z A nL q lv' st ws cells slots) : zG S Z A nL pc lv (.int x :: st) ws cells slots := by
  subst hq
  exact fun H locs ls hP hD hS hl => lv_istore_n C.1.1 C.1.2.1 d hi hl hn hl' (fun ls' h' => k H locs ls' hP hD hS h')
theorem zg_goto (C : zg_ok S Z A cc nL own fr lo ce sl) {off : Int} (d : decode cc pc = .ok (.goto off, 3)) (hq : (pc : Int) + off = (q : Int)) (k : zG S Z A nL q lv st ws cells slots) : zG S Z A nL pc lv st ws cells slots :=
  fun H locs ls hP hD hS hl => lv_goto C.1.1 C.1.2.1 d hq (k H locs ls hP hD hS hl)
theorem zg_aconst_null (C : zg_ok S Z A cc nL own fr lo ce sl) (d : decode cc pc = .ok (.aconst_null, 1)) (hq : pc + 1 = q) (k : zG S Z A nL q lv (.null :: st) ws cells slots) : zG S Z A nL pc lv st ws cells slots := by
  subst hq
  exact fun H locs ls hP hD hS hl => lv_null C.1.1 C.1.2.1 d (k H locs ls hP hD hS hl)
theorem zg_aloadN (C : zg_ok S Z A cc nL own fr lo ce sl) {i : Nat} (d : decode cc pc = .ok (.aload i, 2)) (j : Nat) (hj : lv[j]? = some (i, .null)) (hq : pc + 2 = q) (k : zG S Z A nL q lv (.null :: st) ws cells slots) : zG S Z A nL pc lv st ws cells slots := by
  subst hq
  exact fun H locs ls hP hD hS hl => lv_aloadN C.1.1 C.1.2.1 d (lv_at hl j hj) (k H locs ls hP hD hS hl)
theorem zg_ifnonnull (C : zg_ok S Z A cc nL own fr lo ce sl) {x : Nat} {off : Int} (d : decode cc pc = .ok (.ifnonnull off, 3)) (hq : (pc : Int) + off = (q : Int)) (k : zG S Z A nL q lv st ws cells slots) : zG S Z A nL pc lv (.ref x :: st) ws cells slots :=
  fun H locs ls hP hD hS hl => lv_ifnonnull C.1.1 C.1.2.1 d hq (k H locs ls hP hD hS hl)
theorem zg_ifnonnullN (C : zg_ok S Z A cc nL own fr lo ce sl) {off : Int} (d : decode cc pc = .ok (.ifnonnull off, 3)) (hq : pc + 3 = q) (k : zG S Z A nL q lv st ws cells slots) : zG S Z A nL pc lv (.null :: st) ws cells slots := by
  subst hq
  exact fun H locs ls hP hD hS hl => lv_ifnonnullN C.1.1 C.1.2.1 d (k H locs ls hP hD hS hl)
theorem zg_obj (C : zg_ok S Z A cc nL own fr lo ce sl) {idx a : Nat} (d : decode cc pc = .ok (.invokespecial idx, 3)) (hlk : Cond.methodLink own idx objectInit ∈ zd_W S) (hi : Cond.instanceMethod objectInit ∈ zd_W S) (hc : Cond.code objectInit ⟨#[0xb1]⟩ 1 none ∈ zd_W S) (hfr : 1 ≤ fr) (hlo : 12 + (st.map fun v => v.category).sum ≤ lo) (hq : pc + 3 = q) (k : zG S Z A nL q lv st ws cells slots) : zG S Z A nL pc lv (.ref a :: st) ws cells slots := by
  subst hq
  intro H locs ls hP hD hS hl
  have hts := C.1.2.2.2.2
  refine W.objInit C.1.1 C.1.2.1 C.1.2.2.2.1 (hts _ hlk) (hts _ hi) (hts _ hc) rfl (hl.1.trans C.1.2.2.1.symm) rfl d (Nat.le_trans hfr C.2.2.2.2.2.1.1) ?_ (k H locs ls hP hD hS hl)
  have h1 := C.2.2.2.2.2.1.2
  show 2 * 0 + _ + 12 ≤ _
  omega
theorem zg_new (C : zg_ok S Z A cc nL own fr lo ce sl) {idx ci N : Nat} {K : String} {T : u_T} {fs : List Value} (d : decode cc pc = .ok (.new idx, 3)) (hu : ∀ w ∈ u_ws K T N, w ∈ zd_W S) (ty : Nat → FieldType) (hty : ∀ k, k < N → parseFieldDescriptor (T k).2.2.1 = some (ty k)) (hlk : Cond.classLink own idx K ∈ zd_W S) (hin : Cond.instantiable K N ∈ zd_W S) (hini : Cond.initialized K ∈ zd_W S) (hc : (zd_C S)[ci]? = some (K, T, N)) (hfs : ∀ j, j < N → defaultValue (ty j) = vp_V fs j) (h1 : cells + 1 ≤ ce) (h2 : slots + N ≤ sl) (hq : pc + 3 = q) (k : ∀ a : Nat, zG S Z A nL q lv (.ref a :: st) (ws ++ [(a, .inr (ci, fs))]) (cells + 1) (slots + N)) : zG S Z A nL pc lv st ws cells slots := by
  subst hq
  intro H locs ls hP hD hS hl
  have hts := C.1.2.2.2.2
  exact va_new C.1.1 C.1.2.1 hts hu ty hty C.1.2.2.2.1 (hts _ hlk) (hts _ hin) (hts _ hini) C.2.1 hP hD hS C.2.2.2.1 hc hfs (Nat.le_trans h1 C.2.2.2.2.2.2.1) (Nat.le_trans h2 C.2.2.2.2.2.2.2) d (fun a H1 hP1 hD1 hS1 => k a H1 locs ls hP1 hD1 hS1 hl)
theorem zg_newa (C : zg_ok S Z A cc nL own fr lo ce sl) {n : Int32} {N : Nat} (d : decode cc pc = .ok (.newarray .int, 2)) (hw : Cond.arrayClass .int ∈ zd_W S) (hn : ¬ n < 0) (hN : n.toNatClampNeg = N) (hb : N * componentBytes .int ≤ 536870912) (h1 : cells + 1 ≤ ce) (h2 : slots + N ≤ sl) (hq : pc + 2 = q) (k : ∀ a : Nat, zG S Z A nL q lv (.ref a :: st) (ws ++ [(a, .inl ((zz_z Z).1, N, .inl (fun _ => 0)))]) (cells + 1) (slots + N)) : zG S Z A nL pc lv (.int n :: st) ws cells slots := by
  subst hq
  intro H locs ls hP hD hS hl
  refine va_newa (atype := .int) (ty := .int) (a0 := (N, .inl (fun _ => 0))) C.1.1 C.1.2.1 (C.1.2.2.2.2 _ hw) rfl C.2.1 hP hD hS C.2.2.2.1 (fun _ => rfl) hn hN hb (Nat.le_trans h1 C.2.2.2.2.2.2.1) (Nat.le_trans h2 C.2.2.2.2.2.2.2) d (fun a cA H1 hK1 hP1 hD1 hS1 => ?_)
  have e1 : (zz_s Z).vm.findClass ("[" ++ FieldType.int.toString) = some cA := (hK1.2 2 _ rfl).2
  have e2 : (zz_s Z).vm.findClass ("[" ++ FieldType.int.toString) = some (zz_z Z).1 := (C.2.1.2 0 _ rfl).2
  have e3 : cA = (zz_z Z).1 := Option.some.inj (e1.symm.trans e2)
  subst e3
  exact k a H1 locs ls hP1 hD1 hS1 hl
theorem zg_newz (C : zg_ok S Z A cc nL own fr lo ce sl) {n : Int32} {N : Nat} (d : decode cc pc = .ok (.newarray .boolean, 2)) (hw : Cond.arrayClass .boolean ∈ zd_W S) (hn : ¬ n < 0) (hN : n.toNatClampNeg = N) (hb : N * componentBytes .boolean ≤ 536870912) (h1 : cells + 1 ≤ ce) (h2 : slots + N ≤ sl) (hq : pc + 2 = q) (k : ∀ a : Nat, zG S Z A nL q lv (.ref a :: st) (ws ++ [(a, .inl ((zz_z Z).2, N, .inl (fun _ => 0)))]) (cells + 1) (slots + N)) : zG S Z A nL pc lv (.int n :: st) ws cells slots := by
  subst hq
  intro H locs ls hP hD hS hl
  refine va_newa (atype := .boolean) (ty := .boolean) (a0 := (N, .inl (fun _ => 0))) C.1.1 C.1.2.1 (C.1.2.2.2.2 _ hw) rfl C.2.1 hP hD hS C.2.2.2.1 (fun _ => rfl) hn hN hb (Nat.le_trans h1 C.2.2.2.2.2.2.1) (Nat.le_trans h2 C.2.2.2.2.2.2.2) d (fun a cA H1 hK1 hP1 hD1 hS1 => ?_)
  have e1 : (zz_s Z).vm.findClass ("[" ++ FieldType.boolean.toString) = some cA := (hK1.2 2 _ rfl).2
  have e2 : (zz_s Z).vm.findClass ("[" ++ FieldType.boolean.toString) = some (zz_z Z).2 := (C.2.1.2 1 _ rfl).2
  have e3 : cA = (zz_z Z).2 := Option.some.inj (e1.symm.trans e2)
  subst e3
  exact k a H1 locs ls hP1 hD1 hS1 hl
theorem zg_get (C : zg_ok S Z A cc nL own fr lo ce sl) {idx k a ci N : Nat} {K ref : String} {T : u_T} {fs : List Value} {v : Value} (s0 : Nat) (d : decode cc pc = .ok (.getfield idx, 3)) (he : ws[k]? = some (a, .inr (ci, fs))) (hc : (zd_C S)[ci]? = some (K, T, N)) (hs : s0 < N) (hu : ∀ w ∈ u_ws K T N, w ∈ zd_W S) (hlk : Cond.fieldLink own idx ref (T s0).2.1 (T s0).2.2.1 ∈ zd_W S) (hr : ref = (T s0).1) (hv : fs[s0]? = some v) (hq : pc + 3 = q) (kk : zG S Z A nL q lv (v :: st) ws cells slots) : zG S Z A nL pc lv (.ref a :: st) ws cells slots := by
  subst hq
  exact fun H locs ls hP hD hS hl => va_get C.1.1 C.1.2.1 C.1.2.2.2.2 hu C.1.2.2.2.1 C.2.1 hP k he hc s0 hs (C.1.2.2.2.2 _ hlk) (fun _ h => by rw [hr]; exact h) hv d (kk H locs ls hP hD hS hl)
theorem zg_putF (C : zg_ok S Z A cc nL own fr lo ce sl) {idx k a ci N : Nat} {K ref : String} {T : u_T} {ty : FieldType} {fs : List Value} {v : Value} (s0 : Nat) (hin : (zz_t Z).name = "<init>") (d : decode cc pc = .ok (.putfield idx, 3)) (he : ws[k]? = some (a, .inr (ci, fs))) (hc : (zd_C S)[ci]? = some (K, T, N)) (hs : s0 < N) (hu : ∀ w ∈ u_ws K T N, w ∈ zd_W S) (t : Nat → FieldType) (ht : ∀ k, k < N → parseFieldDescriptor (T k).2.2.1 = some (t k)) (hnm : ∀ a, a < N → ∀ b, b < N → a ≠ b → (T a).2.1 ≠ (T b).2.1) (hlk : Cond.fieldLink own idx ref (T s0).2.1 (T s0).2.2.1 ∈ zd_W S) (hsm : ref = (T s0).1) (hfin : (T s0).2.2.2 = true) (hdc : (T s0).1 = own) (hty : parseFieldDescriptor (T s0).2.2.1 = some ty) (hn : narrow ty v = v) (hfit : fits ty v = true) (hl9 : s0 < fs.length) (hq : pc + 3 = q) (kk : zG S Z A nL q lv st (ws.set k (a, .inr (ci, fs.set s0 v))) cells slots) : zG S Z A nL pc lv (v :: .ref a :: st) ws cells slots := by
  subst hq
  exact fun H locs ls hP hD hS hl => va_putF C.1.1 C.1.2.1 C.1.2.2.2.2 hu t ht hnm C.1.2.2.2.1 C.2.1 hP hD hS k he hc s0 hs (C.1.2.2.2.2 _ hlk) (fun _ h => by rw [hsm]; exact h) hfin hin hdc hty hn hfit hl9 d (fun H1 locs1 hP1 hD1 hS1 => kk H1 locs1 ls hP1 hD1 hS1 hl)
theorem zg_put (C : zg_ok S Z A cc nL own fr lo ce sl) {idx k a ci N : Nat} {K ref : String} {T : u_T} {ty : FieldType} {fs : List Value} {v : Value} (s0 : Nat) (d : decode cc pc = .ok (.putfield idx, 3)) (he : ws[k]? = some (a, .inr (ci, fs))) (hc : (zd_C S)[ci]? = some (K, T, N)) (hs : s0 < N) (hu : ∀ w ∈ u_ws K T N, w ∈ zd_W S) (t : Nat → FieldType) (ht : ∀ k, k < N → parseFieldDescriptor (T k).2.2.1 = some (t k)) (hnm : ∀ a, a < N → ∀ b, b < N → a ≠ b → (T a).2.1 ≠ (T b).2.1) (hlk : Cond.fieldLink own idx ref (T s0).2.1 (T s0).2.2.1 ∈ zd_W S) (hsm : ref = (T s0).1) (hfin : (T s0).2.2.2 = false) (hty : parseFieldDescriptor (T s0).2.2.1 = some ty) (hn : narrow ty v = v) (hfit : fits ty v = true) (hl9 : s0 < fs.length) (hq : pc + 3 = q) (kk : zG S Z A nL q lv st (ws.set k (a, .inr (ci, fs.set s0 v))) cells slots) : zG S Z A nL pc lv (v :: .ref a :: st) ws cells slots := by
  subst hq
  exact fun H locs ls hP hD hS hl => va_put C.1.1 C.1.2.1 C.1.2.2.2.2 hu t ht hnm C.1.2.2.2.1 C.2.1 hP hD hS k he hc s0 hs (C.1.2.2.2.2 _ hlk) (fun _ h => by rw [hsm]; exact h) hfin hty hn hfit hl9 d (fun H1 locs1 hP1 hD1 hS1 => kk H1 locs1 ls hP1 hD1 hS1 hl)
theorem zg_ws {ws' : va_W} (h : ws = ws') (k : zG S Z A nL pc lv st ws' cells slots) : zG S Z A nL pc lv st ws cells slots := h ▸ k
theorem zg_sub {ws' : va_W} (is : List Nat) (h1 : is.filterMap (fun i => ws[i]?) = ws') (h2 : is.map (fun i => ws[i]?) = ws'.map some) (hnd : va_nd is = true) (k : zG S Z A nL pc lv st ws' cells slots) : zG S Z A nL pc lv st ws cells slots := fun H locs ls hP hD hS hl => k H locs ls (hP.sub is h1) (hD.sub is hnd h2) hS hl
end ZG
/-- a constructor's contract: from the cells ws0 to the cells ws1 u, u being the new ones' addresses -/
def zx_MC (S : zx_D) (l : Launch) (D : va_G) (cz : ClassId × ClassId) (y : MethodName) (cc : ByteArray) (nL : Nat) (fr lo : Nat) (av : List Value) (ws0 : va_W) (ws1 : (Nat → Nat) → va_W) (mc ms sz : Nat) : Prop := Met l y (Cond.code y cc nL none :: zd_W S) { frames := fr, cells := mc, slots := ms, locals := lo } (va_Pc av (fun U => U.heap.size = sz ∧ va_P D (zd_C S) ws0 U.heap ∧ va_K D (zd_C S) (zx_ty cz) U ∧ (∀ w ∈ zd_X S, va_Nw w U) ∧ va_D (fun _ => True) ws0)) (va_Qv (fun _ : Nat → Nat => True) (fun u t => va_P D (zd_C S) (ws1 u) t.heap ∧ va_D (va_A ws0 sz) (ws1 u)) (va_A ws0 sz)) mc ms (va_A ws0 sz)
section ZH
variable {S : zx_D} {l : Launch} {D : va_G} {cz : ClassId × ClassId} {y : MethodName} {cc : ByteArray} {nL : Nat} {own : String} {fr lo : Nat} {av : List Value} {ws0 : va_W} {ws1 : (Nat → Nat) → va_W} {mc ms : Nat}
theorem zx_metC (hS : zx_So S) (hy : plainName y.cls = true) (ho : y.cls = own) (hnm : y.name = "<init>") (ha : (lg_sl av).length ≤ nL) (wk : ∀ (Z : zx_Z) (A : Nat → Prop), zz_l Z = l → zz_D Z = D → zz_z Z = cz → zg_ok S Z A cc nL own fr lo mc ms → (zz_t Z).name = "<init>" → (∀ (pc : Nat) (lv : List (Nat × Value)) (u : Nat → Nat), decode cc pc = .ok (.return_, 1) → zG S Z A nL pc lv [] (ws1 u) mc ms) → zG S Z A nL 0 (lv_args 0 av) [] ws0 0 0) (sz : Nat) : zx_MC S l D cz y cc nL fr lo av ws0 ws1 mc ms sz := by
  refine Met.ofW (cc := cc) (maxL := nL) (ret := none) hy rfl ?_
  intro p e s m args below meth c s₁ B hml hv
  obtain ⟨rfl, hsz, hP, hK, hN, hD0⟩ := hv
  subst hsz
  have hts := atoms_spec (ws := Cond.code y cc nL none :: zd_W S) B.pre
  have hown : s.vm.findClass own = some m.cls := by rw [← ho]; exact findClass_of_methodNamed B.named
  have hin : meth.name = "<init>" := hnm ▸ (name_of_methodNamed B.named B.method).1
  have hl := lv_entry av (n := nL) ha
  have hD := hD0.self (sz := s.heap.size)
  rw [lg_entry_eq]
  exact wk (p, l, e, _, s, m, av.toArray, below, meth, c, _, D, cz, fun k => k, s.heap) (va_A ws0 s.heap.size) rfl rfl rfl ⟨⟨B.exec, B.bytes, hml, hown, fun w h => hts w (List.mem_cons_of_mem _ h)⟩, hK, hN, fun q h => Or.inr h, hS, ⟨Nat.le_refl _, Nat.le_refl _⟩, Nat.le_refl _, Nat.le_refl _⟩ hin (fun pc lv u d H locs ls hP1 hD1 hS1 hl1 => W.vret B.exec B.bytes B.returns (fun t ht hW => ⟨⟨u, rfl, trivial, by rw [ht]; exact hP1, hD1⟩, hS1.F ht⟩) hS1.2.2 d) s.heap [] _ hP hD va_S.rf hl
end ZH
section ZI
variable {S : zx_D} {Z : zx_Z} {A : Nat → Prop} {cc : ByteArray} {nL pc q : Nat} {own : String} {fr lo ce sl : Nat} {lv : List (Nat × Value)} {rest st : List Value} {ws wc wr : va_W} {ws1 : (Nat → Nat) → va_W} {cells slots mc ms : Nat} {y : MethodName} {cy : ByteArray} {ny f2 l2 idx n b : Nat} {As : List Value}
theorem zg_pre (C : zg_ok S Z A cc nL own fr lo ce sl) {H : Heap} (hPc : va_P (zz_D Z) (zd_C S) wc H) (hDc : va_D A wc) (av : List Value) : PreS (zz_s Z) H (va_Pc av (fun U => U.heap.size = H.size ∧ va_P (zz_D Z) (zd_C S) wc U.heap ∧ va_K (zz_D Z) (zd_C S) (zx_ty (zz_z Z)) U ∧ (∀ w ∈ zd_X S, va_Nw w U) ∧ va_D (fun _ => True) wc)) av := by
  refine ⟨fun a U g mk q => ?_, fun U hU hW => ⟨rfl, by rw [hU], by rw [hU]; exact hPc, va_K.moved hW.alike C.2.1, fun w hw => (C.2.2.2.2.1.2 w hw).2 _ _ hW (C.2.2.1 w hw), hDc.weaken (fun _ _ _ _ => trivial)⟩⟩
  obtain ⟨q0, q1, qP, qK, qN, qD⟩ := q
  exact ⟨q0, q1, qP, va_K.moved (u := U) (U := U.calling g mk a) (Vm.Alike.refl U.vm) qK, fun w hw => va_Nw.same (C.2.2.2.2.1.2 w hw).1 (u := U) rfl (qN w hw), qD⟩
theorem zg_back {H : Heap} {t : State} {H1 : Heap} {u : Nat → Nat} (hP : va_P (zz_D Z) (zd_C S) ws H) (hD : va_D A ws) (isC isR : List Nat) (hC : isC.map (fun i => ws[i]?) = wc.map some) (hR : isR.map (fun i => ws[i]?) = wr.map some) (hn : va_nd isR = true) (hdis : ∀ i ∈ isR, i ∉ isC) (ht : t.heap = H1) (hF : ∀ q, va_A wc H.size q → A q) (hB : va_P (zz_D Z) (zd_C S) (ws1 u) t.heap ∧ va_D (va_A wc H.size) (ws1 u)) (hk : ∀ q : Nat, q < H.size → ¬ va_A wc H.size q → H1[q]? = H[q]?) : va_P (zz_D Z) (zd_C S) (wr ++ ws1 u) H1 ∧ va_D A (wr ++ ws1 u) :=
  va_join hP hD isC isR hC hR hn hdis hk hF (by rw [← ht]; exact hB.1) hB.2
/-- a constructor is called: a plain link -/
theorem zg_init (C : zg_ok S Z A cc nL own fr lo ce sl) (d : decode cc pc = .ok (.invokespecial idx, 3)) (hM : ∀ sz, zx_MC S (zz_l Z) (zz_D Z) (zz_z Z) y cy ny f2 l2 (.ref b :: As) wc ws1 mc ms sz) (hw : Cond.methodLink own idx y ∈ zd_W S ∧ Cond.instanceMethod y ∈ zd_W S ∧ Cond.initialized y.cls ∈ zd_W S ∧ Cond.code y cy ny none ∈ zd_W S ∧ y.name = "<init>" ∧ (y.cls ≠ "java/lang/invoke/MethodHandle" ∧ y.cls ≠ "java/lang/invoke/VarHandle" ∧ (parseMethodDescriptor y.desc).map (fun d => d.parameters.length) = some n)) (isC isR : List Nat) (hC : isC.map (fun i => ws[i]?) = wc.map some) (hC2 : isC.filterMap (fun i => ws[i]?) = wc) (hR : isR.map (fun i => ws[i]?) = wr.map some) (hnC : va_nd isC = true) (hn : va_nd isR = true) (hdis : ∀ i ∈ isR, i ∉ isC) (hf : f2 + 1 ≤ fr ∧ 8 + (ny + 11) + l2 ≤ lo) (h1 : cells + mc ≤ ce) (h2 : slots + ms ≤ sl) (hnn : As.length = n) (hr : (rest.map fun v => v.category).sum ≤ 8) (hst : st = As.reverse ++ .ref b :: rest) (hq : pc + 3 = q) (kk : ∀ u : Nat → Nat, zG S Z A nL q lv rest (wr ++ ws1 u) (cells + mc) (slots + ms)) : zG S Z A nL pc lv st ws cells slots := by
  subst hq
  intro H locs ls hP hD hS hl
  obtain ⟨w1, w2, w3, w4, w5, w6⟩ := hw
  have hts := C.1.2.2.2.2
  have hPc : va_P (zz_D Z) (zd_C S) wc H := hP.sub isC hC2
  have hDc : va_D A wc := hD.sub isC hnC hC
  have hFc := va_free (wc := wc) hD hS C.2.2.2.1 isC hC
  refine va_callv (va_runI (As := As) (rest := rest) C.1 (hM H.size) ⟨callB_of n hts (zx_gc C.2.2.2.2.1 w4) rfl rfl rfl (hts _ w3) (hts _ w1) w6 ⟨Nat.le_trans hf.1 C.2.2.2.2.2.1.1, Nat.le_trans hf.2 C.2.2.2.2.2.1.2⟩, w5, hts _ w2⟩ (zg_pre C hPc hDc _) rfl hnn hl.1 hst (lv_room hr) d ⟨Nat.le_trans h1 C.2.2.2.2.2.2.1, Nat.le_trans h2 C.2.2.2.2.2.2.2⟩) hS (fun q _ h => hFc q h) hFc (fun u t H1 locs1 ht hvm hw hB hz1 hk1 hS1 => ?_)
  obtain ⟨hP2, hD2⟩ := zg_back hP hD isC isR hC hR hn hdis ht hFc hB hk1
  exact kk u H1 locs1 ls hP2 hD2 hS1 hl
/-- ... a nest mate's private one -/
theorem zg_initN (C : zg_ok S Z A cc nL own fr lo ce sl) {host : String} (d : decode cc pc = .ok (.invokespecial idx, 3)) (hM : ∀ sz, zx_MC S (zz_l Z) (zz_D Z) (zz_z Z) y cy ny f2 l2 (.ref b :: As) wc ws1 mc ms sz) (hw : Cond.methodLinkNest own idx y host ∈ zd_X S ∧ Cond.instanceMethod y ∈ zd_W S ∧ Cond.initialized y.cls ∈ zd_W S ∧ Cond.code y cy ny none ∈ zd_W S ∧ y.name = "<init>" ∧ (y.cls ≠ "java/lang/invoke/MethodHandle" ∧ y.cls ≠ "java/lang/invoke/VarHandle" ∧ (parseMethodDescriptor y.desc).map (fun d => d.parameters.length) = some n)) (isC isR : List Nat) (hC : isC.map (fun i => ws[i]?) = wc.map some) (hC2 : isC.filterMap (fun i => ws[i]?) = wc) (hR : isR.map (fun i => ws[i]?) = wr.map some) (hnC : va_nd isC = true) (hn : va_nd isR = true) (hdis : ∀ i ∈ isR, i ∉ isC) (hf : f2 + 1 ≤ fr ∧ 8 + (ny + 11) + l2 ≤ lo) (h1 : cells + mc ≤ ce) (h2 : slots + ms ≤ sl) (hnn : As.length = n) (hr : (rest.map fun v => v.category).sum ≤ 8) (hst : st = As.reverse ++ .ref b :: rest) (hq : pc + 3 = q) (kk : ∀ u : Nat → Nat, zG S Z A nL q lv rest (wr ++ ws1 u) (cells + mc) (slots + ms)) : zG S Z A nL pc lv st ws cells slots := by
  subst hq
  intro H locs ls hP hD hS hl
  obtain ⟨w1, w2, w3, w4, w5, w6⟩ := hw
  have hts := C.1.2.2.2.2
  have hPc : va_P (zz_D Z) (zd_C S) wc H := hP.sub isC hC2
  have hDc : va_D A wc := hD.sub isC hnC hC
  have hFc := va_free (wc := wc) hD hS C.2.2.2.1 isC hC
  refine va_callv (va_runIN (As := As) (rest := rest) C.1 (hM H.size) ⟨va_cnB n hts (zx_gc C.2.2.2.2.1 w4) rfl rfl rfl (C.2.2.1 _ w1) (hts _ w3) w6 ⟨Nat.le_trans hf.1 C.2.2.2.2.2.1.1, Nat.le_trans hf.2 C.2.2.2.2.2.1.2⟩, w5, hts _ w2⟩ (zg_pre C hPc hDc _) rfl hnn hl.1 hst (lv_room hr) d ⟨Nat.le_trans h1 C.2.2.2.2.2.2.1, Nat.le_trans h2 C.2.2.2.2.2.2.2⟩) hS (fun q _ h => hFc q h) hFc (fun u t H1 locs1 ht hvm hw hB hz1 hk1 hS1 => ?_)
  obtain ⟨hP2, hD2⟩ := zg_back hP hD isC isR hC hR hn hdis ht hFc hB hk1
  exact kk u H1 locs1 ls hP2 hD2 hS1 hl
end ZI
