/-! contracts over a side's world, and calls -/
def zx_rI (S : zx_D) (Z : zx_Z) (cc : ByteArray) (nL : Nat) (ty : FieldType) (v : Int32) (σ : zx_S) : Prop := ∀ (pc : Nat) (lv : List (Nat × Value)), decode cc pc = .ok (.ireturn, 1) → narrow ty (.int v) = .int v → zW S Z nL pc lv [.int v] σ
def zx_rV (S : zx_D) (Z : zx_Z) (cc : ByteArray) (nL : Nat) (σ : zx_S) : Prop := ∀ (pc : Nat) (lv : List (Nat × Value)), decode cc pc = .ok (.return_, 1) → zW S Z nL pc lv [] σ
def zx_rA (S : zx_D) (Z : zx_Z) (cc : ByteArray) (nL : Nat) (k : Nat) (σ : zx_S) : Prop := ∀ (pc : Nat) (lv : List (Nat × Value)), decode cc pc = .ok (.areturn, 1) → zW S Z nL pc lv [.ref (zz_d Z k)] σ
def zx_MI (S : zx_D) (l : Launch) (D : va_G) (cz : ClassId × ClassId) (ad : Nat → Nat) (y : MethodName) (cc : ByteArray) (nL : Nat) (ty : FieldType) (fr lo : Nat) (av : List Value) (s0 : zx_S) (r : Int32) (s1 : zx_S) : Prop := Met l y (Cond.code y cc nL (some ty) :: zd_W S) { frames := fr, cells := 0, slots := 0, locals := lo } (va_Pc av (zx_B S D cz ad s0)) (va_Qi (fun (r' : Int32) (s' : zx_S) => r' = r ∧ s' = s1) (fun s' t => zx_B S D cz ad s' t) (zx_A S ad)) 0 0 (zx_A S ad)
def zx_MV (S : zx_D) (l : Launch) (D : va_G) (cz : ClassId × ClassId) (ad : Nat → Nat) (y : MethodName) (cc : ByteArray) (nL : Nat) (fr lo : Nat) (av : List Value) (s0 s1 : zx_S) : Prop := Met l y (Cond.code y cc nL none :: zd_W S) { frames := fr, cells := 0, slots := 0, locals := lo } (va_Pc av (zx_B S D cz ad s0)) (va_Qv (fun (s' : zx_S) => s' = s1) (fun s' t => zx_B S D cz ad s' t) (zx_A S ad)) 0 0 (zx_A S ad)
def zx_MA (S : zx_D) (l : Launch) (D : va_G) (cz : ClassId × ClassId) (ad : Nat → Nat) (y : MethodName) (cc : ByteArray) (nL : Nat) (ty : FieldType) (fr lo : Nat) (av : List Value) (s0 : zx_S) (k : Nat) (s1 : zx_S) : Prop := Met l y (Cond.code y cc nL (some ty) :: zd_W S) { frames := fr, cells := 0, slots := 0, locals := lo } (va_Pc av (zx_B S D cz ad s0)) (va_Qr (fun (s' : zx_S) => s' = s1) (fun s' a t => a = ad k ∧ zx_B S D cz ad s' t) (zx_A S ad)) 0 0 (zx_A S ad)
theorem zx_blind {S : zx_D} (hS : zx_So S) {D : va_G} {cz : ClassId × ClassId} {ad : Nat → Nat} {av : List Value} {σ : zx_S} : FrameBlind (va_Pc av (zx_B S D cz ad σ)) := by
  intro a U g mk q
  obtain ⟨q0, qP, qK, qN⟩ := q
  exact ⟨q0, qP, va_K.moved (u := U) (U := U.calling g mk a) (Vm.Alike.refl U.vm) qK, fun w hw => va_Nw.same (hS.2 w hw).1 (u := U) rfl (qN w hw)⟩
theorem zx_start {S : zx_D} {Z : zx_Z} {cc : ByteArray} {nL : Nat} {own : String} {fr lo : Nat} (C : zx_ok S Z cc nL own fr lo) {σ : zx_S} {H : Heap} {locs : List Loc} (hX : zx_X S Z σ H locs) (av : List Value) : ∀ U : State, U.heap = H → (zz_s Z).WarmedH U.vm → va_Pc av (zx_B S (zz_D Z) (zz_z Z) (zz_d Z) σ) av.toArray U :=
  fun U hU hW => ⟨rfl, by rw [hU]; exact hX.1, va_K.moved hW.alike C.2.1, fun w hw => (C.2.2.2.2.1.2 w hw).2 _ _ hW (C.2.2.1 w hw)⟩
section ZM
variable {S : zx_D} {l : Launch} {D : va_G} {cz : ClassId × ClassId} {ad : Nat → Nat} {y : MethodName} {cc : ByteArray} {nL : Nat} {own : String} {fr lo : Nat} {av : List Value} {s0 s1 : zx_S}
theorem zx_metI {ty : FieldType} {v : Int32} (hS : zx_So S) (hi : zx_I S ad) (hy : plainName y.cls = true) (ho : y.cls = own) (ha : (lg_sl av).length ≤ nL) (wk : ∀ Z : zx_Z, zz_l Z = l → zz_D Z = D → zz_z Z = cz → zz_d Z = ad → zx_ok S Z cc nL own fr lo → zx_rI S Z cc nL ty v s1 → zW S Z nL 0 (lv_args 0 av) [] s0) : zx_MI S l D cz ad y cc nL ty fr lo av s0 v s1 := by
  refine Met.ofW (cc := cc) (maxL := nL) (ret := (some ty)) hy rfl ?_
  intro p e s m args below meth c s₁ B hml hv
  obtain ⟨rfl, hP, hK, hN⟩ := hv
  have hts := atoms_spec (ws := Cond.code y cc nL (some ty) :: zd_W S) B.pre
  have hown : s.vm.findClass own = some m.cls := by rw [← ho]; exact findClass_of_methodNamed B.named
  have hl := lv_entry av (n := nL) ha
  rw [lg_entry_eq]
  exact wk (p, l, e, _, s, m, av.toArray, below, meth, c, _, D, cz, ad, s.heap) rfl rfl rfl rfl ⟨⟨B.exec, B.bytes, hml, hown, fun w h => hts w (List.mem_cons_of_mem _ h)⟩, hK, hN, hi, hS, Nat.le_refl _, Nat.le_refl _⟩ (fun pc lv d hn H locs ls hX hl => W.zret B.exec B.bytes B.returns hn (fun t ht hW => ⟨⟨v, s1, rfl, ⟨rfl, rfl⟩, by rw [ht]; exact hX.1, va_K.moved hW.alike hK, fun w hw => (hS.2 w hw).2 _ _ hW (hN w hw)⟩, hX.2.F ht⟩) hX.2.2.2 d) s.heap [] _ ⟨hP, va_S.rf⟩ hl
theorem zx_metV  (hS : zx_So S) (hi : zx_I S ad) (hy : plainName y.cls = true) (ho : y.cls = own) (ha : (lg_sl av).length ≤ nL) (wk : ∀ Z : zx_Z, zz_l Z = l → zz_D Z = D → zz_z Z = cz → zz_d Z = ad → zx_ok S Z cc nL own fr lo → zx_rV S Z cc nL s1 → zW S Z nL 0 (lv_args 0 av) [] s0) : zx_MV S l D cz ad y cc nL fr lo av s0 s1 := by
  refine Met.ofW (cc := cc) (maxL := nL) (ret := none) hy rfl ?_
  intro p e s m args below meth c s₁ B hml hv
  obtain ⟨rfl, hP, hK, hN⟩ := hv
  have hts := atoms_spec (ws := Cond.code y cc nL none :: zd_W S) B.pre
  have hown : s.vm.findClass own = some m.cls := by rw [← ho]; exact findClass_of_methodNamed B.named
  have hl := lv_entry av (n := nL) ha
  rw [lg_entry_eq]
  exact wk (p, l, e, _, s, m, av.toArray, below, meth, c, _, D, cz, ad, s.heap) rfl rfl rfl rfl ⟨⟨B.exec, B.bytes, hml, hown, fun w h => hts w (List.mem_cons_of_mem _ h)⟩, hK, hN, hi, hS, Nat.le_refl _, Nat.le_refl _⟩ (fun pc lv d H locs ls hX hl => W.vret B.exec B.bytes B.returns (fun t ht hW => ⟨⟨s1, rfl, rfl, by rw [ht]; exact hX.1, va_K.moved hW.alike hK, fun w hw => (hS.2 w hw).2 _ _ hW (hN w hw)⟩, hX.2.F ht⟩) hX.2.2.2 d) s.heap [] _ ⟨hP, va_S.rf⟩ hl
theorem zx_metA {ty : FieldType} {k : Nat} (hS : zx_So S) (hi : zx_I S ad) (hy : plainName y.cls = true) (ho : y.cls = own) (ha : (lg_sl av).length ≤ nL) (hty : (∃ n, ty = .object n) ∨ ∃ t, ty = .array t) (wk : ∀ Z : zx_Z, zz_l Z = l → zz_D Z = D → zz_z Z = cz → zz_d Z = ad → zx_ok S Z cc nL own fr lo → zx_rA S Z cc nL k s1 → zW S Z nL 0 (lv_args 0 av) [] s0) : zx_MA S l D cz ad y cc nL ty fr lo av s0 k s1 := by
  refine Met.ofW (cc := cc) (maxL := nL) (ret := (some ty)) hy rfl ?_
  intro p e s m args below meth c s₁ B hml hv
  obtain ⟨rfl, hP, hK, hN⟩ := hv
  have hts := atoms_spec (ws := Cond.code y cc nL (some ty) :: zd_W S) B.pre
  have hown : s.vm.findClass own = some m.cls := by rw [← ho]; exact findClass_of_methodNamed B.named
  have hl := lv_entry av (n := nL) ha
  rw [lg_entry_eq]
  exact wk (p, l, e, _, s, m, av.toArray, below, meth, c, _, D, cz, ad, s.heap) rfl rfl rfl rfl ⟨⟨B.exec, B.bytes, hml, hown, fun w h => hts w (List.mem_cons_of_mem _ h)⟩, hK, hN, hi, hS, Nat.le_refl _, Nat.le_refl _⟩ (fun pc lv d H locs ls hX hl => W.aret B.exec B.bytes B.returns hty (Or.inr ⟨_, rfl⟩) (fun t ht hW => ⟨⟨s1, ad k, rfl, rfl, rfl, by rw [ht]; exact hX.1, va_K.moved hW.alike hK, fun w hw => (hS.2 w hw).2 _ _ hW (hN w hw)⟩, hX.2.F ht⟩) hX.2.2.2 d) s.heap [] _ ⟨hP, va_S.rf⟩ hl
end ZM
def zx_vw (S : zx_D) (own : String) (idx : Nat) (y : MethodName) (cy : ByteArray) (ny : Nat) (ret : Option FieldType) (n : Nat) : Prop := Cond.methodLink own idx y ∈ zd_W S ∧ Cond.instanceMethod y ∈ zd_W S ∧ Cond.selects y.cls y y ∈ zd_W S ∧ Cond.initialized y.cls ∈ zd_W S ∧ Cond.code y cy ny ret ∈ zd_W S ∧ (y.cls ≠ "java/lang/invoke/MethodHandle" ∧ y.cls ≠ "java/lang/invoke/VarHandle" ∧ (parseMethodDescriptor y.desc).map (fun d => d.parameters.length) = some n)
def zx_sw (S : zx_D) (own : String) (idx : Nat) (y : MethodName) (cy : ByteArray) (ny : Nat) (ret : Option FieldType) (n : Nat) : Prop := Cond.methodLink own idx y ∈ zd_W S ∧ Cond.static y ∈ zd_W S ∧ Cond.initialized y.cls ∈ zd_W S ∧ Cond.code y cy ny ret ∈ zd_W S ∧ (y.cls ≠ "java/lang/invoke/MethodHandle" ∧ y.cls ≠ "java/lang/invoke/VarHandle" ∧ (parseMethodDescriptor y.desc).map (fun d => d.parameters.length) = some n)
def zx_aw (S : zx_D) (own : String) (idx : Nat) (K owner : String) (x y : MethodName) (cy : ByteArray) (ny : Nat) (ret : Option FieldType) (n : Nat) : Prop := Cond.methodLink own idx x ∈ zd_W S ∧ Cond.sameMethod x.cls owner x.name x.desc ∈ zd_W S ∧ Cond.selects K x y ∈ zd_W S ∧ Cond.instanceMethod y ∈ zd_W S ∧ Cond.initialized y.cls ∈ zd_W S ∧ Cond.code y cy ny ret ∈ zd_W S ∧ Cond.declares ⟨owner, x.name, x.desc⟩ ∈ zd_X S ∧ (owner ≠ "java/lang/invoke/MethodHandle" ∧ owner ≠ "java/lang/invoke/VarHandle" ∧ (parseMethodDescriptor x.desc).map (fun d => d.parameters.length) = some n)
section ZC
variable {S : zx_D} {Z : zx_Z} {cc : ByteArray} {nL pc q : Nat} {own : String} {fr lo : Nat} {lv : List (Nat × Value)} {rest st : List Value} {σ σ1 : zx_S} {y : MethodName} {cy : ByteArray} {ny f2 l2 idx n : Nat}
abbrev zx_rm (fr lo : Nat) : Room := { frames := fr, cells := 0, slots := 0, locals := lo }
theorem zx_gc (hS : zx_So S) {c : Cond} (h : c ∈ zd_W S) : GoodIn (zd_W S) (c :: zd_W S) := zx_good hS (fun w hw => (List.mem_cons.mp hw).elim (fun e => by rw [e]; exact h) id)
theorem zx_recv (C : zx_ok S Z cc nL own fr lo) {k : Nat} {K : String} (hk : zx_oc S k K) {H : Heap} {locs : List Loc} (hX : zx_X S Z σ H locs) : ∃ cell : Cell, H[zz_d Z k]? = some cell ∧ cell.vm.isStatics = false ∧ (zz_s Z).vm.findClass K = some cell.cls := by
  obtain ⟨h1, ci, T, N, h2, h3⟩ := hk
  obtain ⟨fs, h4⟩ := h3 (zz_z Z) (zz_d Z) (σ k)
  exact va_recv C.2.1 hX.1 h2 (by rw [zx_w_at h1, h4])
theorem zx_cvw (C : zx_ok S Z cc nL own fr lo) {ret : Option FieldType} (hw : zx_vw S own idx y cy ny ret n) (hf : f2 + 1 ≤ fr ∧ 8 + (ny + 11) + l2 ≤ lo) : CallW (zz_R Z) (zz_s Z) (zz_a Z) own y.cls idx y cy ny ret (Cond.code y cy ny ret :: zd_W S) (zx_rm f2 l2) 0 0 n := by
  obtain ⟨h1, h2, h3, h4, h5, h6⟩ := hw
  have hts := C.1.2.2.2.2
  exact ⟨callB_of n hts (zx_gc C.2.2.2.2.1 h5) rfl rfl rfl (hts _ h4) (hts _ h1) h6 ⟨Nat.le_trans hf.1 C.2.2.2.2.2.1, Nat.le_trans hf.2 C.2.2.2.2.2.2⟩, hts _ h2, hts _ h3⟩
theorem zx_csw (C : zx_ok S Z cc nL own fr lo) {ret : Option FieldType} (hw : zx_sw S own idx y cy ny ret n) (hf : f2 + 1 ≤ fr ∧ 8 + (ny + 11) + l2 ≤ lo) : CallB (zz_R Z) (zz_s Z) (zz_a Z) own idx y cy ny ret (Cond.code y cy ny ret :: zd_W S) (zx_rm f2 l2) 0 0 n ∧ (Cond.static y).before (zz_a Z) (zz_s Z) = true := by
  obtain ⟨h1, h2, h4, h5, h6⟩ := hw
  have hts := C.1.2.2.2.2
  exact ⟨callB_of n hts (zx_gc C.2.2.2.2.1 h5) rfl rfl rfl (hts _ h4) (hts _ h1) h6 ⟨Nat.le_trans hf.1 C.2.2.2.2.2.1, Nat.le_trans hf.2 C.2.2.2.2.2.2⟩, hts _ h2⟩
theorem zx_caw (C : zx_ok S Z cc nL own fr lo) {K owner : String} {x : MethodName} {ret : Option FieldType} (hw : zx_aw S own idx K owner x y cy ny ret n) (hf : f2 + 1 ≤ fr ∧ 8 + (ny + 11) + l2 ≤ lo) : va_CU (zz_R Z) (zz_s Z) (zz_a Z) own K owner idx x y cy ny ret (Cond.code y cy ny ret :: zd_W S) (zx_rm f2 l2) 0 0 n := by
  obtain ⟨h1, h2, h3, h4, h5, h6, h7, h8⟩ := hw
  refine va_cwA n C.1.2.2.2.2 (zx_good C.2.2.2.2.1 (fun w hw => ?_)) rfl rfl rfl (C.2.2.1 _ h7) h8 ⟨Nat.le_trans hf.1 C.2.2.2.2.2.1, Nat.le_trans hf.2 C.2.2.2.2.2.2⟩
  rcases List.mem_append.mp hw with h | h
  · simp only [List.mem_cons, List.not_mem_nil, or_false] at h
    rcases h with rfl | rfl | rfl | rfl | rfl
    all_goals first | exact h1 | exact h2 | exact h3 | exact h4 | exact h5
  · rcases List.mem_cons.mp h with rfl | h
    · exact h6
    · exact h
theorem zr_cvI (C : zx_ok S Z cc nL own fr lo) {As : List Value} {k : Nat} {ty : FieldType} {v : Int32} (d : decode cc pc = .ok (.invokevirtual idx, 3)) (hM : zx_MI S (zz_l Z) (zz_D Z) (zz_z Z) (zz_d Z) y cy ny ty f2 l2 (.ref (zz_d Z k) :: As) σ v σ1) (hw : zx_vw S own idx y cy ny (some ty) n) (hk : zx_oc S k y.cls) (hf : f2 + 1 ≤ fr ∧ 8 + (ny + 11) + l2 ≤ lo) (hn : As.length = n) (hr : (rest.map fun v => v.category).sum ≤ 8) (hst : st = As.reverse ++ .ref (zz_d Z k) :: rest) (hq : pc + 3 = q) (kk : zW S Z nL q lv (.int v :: rest) σ1) : zW S Z nL pc lv st σ := by
  subst hq
  intro H locs ls hX hl
  refine va_calli (va_runV (As := As) (rest := rest) C.1 hM (zx_cvw C hw hf) ⟨zx_blind C.2.2.2.2.1, zx_recv C hk hX, zx_start C hX _⟩ rfl hn hl.1 hst (lv_room hr) d ⟨Nat.zero_le _, Nat.zero_le _⟩) hX.2 (fun _ _ h => h) (fun _ h => h) (fun r u t H1 locs1 ht hvm hw hB hz hk hS => ?_)
  obtain ⟨rfl, rfl⟩ := hw
  exact kk H1 locs1 ls ⟨by rw [← ht]; exact hB.1, hS⟩ hl
theorem zr_csI (C : zx_ok S Z cc nL own fr lo) {As : List Value} {ty : FieldType} {v : Int32} (d : decode cc pc = .ok (.invokestatic idx, 3)) (hM : zx_MI S (zz_l Z) (zz_D Z) (zz_z Z) (zz_d Z) y cy ny ty f2 l2 As σ v σ1) (hw : zx_sw S own idx y cy ny (some ty) n) (hf : f2 + 1 ≤ fr ∧ 8 + (ny + 11) + l2 ≤ lo) (hn : As.length = n) (hr : (rest.map fun v => v.category).sum ≤ 8) (hst : st = As.reverse ++ rest) (hq : pc + 3 = q) (kk : zW S Z nL q lv (.int v :: rest) σ1) : zW S Z nL pc lv st σ := by
  subst hq
  intro H locs ls hX hl
  refine va_calli (va_runS (As := As) (rest := rest) C.1 hM (zx_csw C hw hf) ⟨zx_blind C.2.2.2.2.1, zx_start C hX _⟩ rfl hn hl.1 hst (lv_room hr) d ⟨Nat.zero_le _, Nat.zero_le _⟩) hX.2 (fun _ _ h => h) (fun _ h => h) (fun r u t H1 locs1 ht hvm hw hB hz hk hS => ?_)
  obtain ⟨rfl, rfl⟩ := hw
  exact kk H1 locs1 ls ⟨by rw [← ht]; exact hB.1, hS⟩ hl
theorem zr_caI (C : zx_ok S Z cc nL own fr lo) {As : List Value} {k : Nat} {K owner : String} {x : MethodName} {ty : FieldType} {v : Int32} (d : decode cc pc = .ok (.invokevirtual idx, 3)) (hM : zx_MI S (zz_l Z) (zz_D Z) (zz_z Z) (zz_d Z) y cy ny ty f2 l2 (.ref (zz_d Z k) :: As) σ v σ1) (hw : zx_aw S own idx K owner x y cy ny (some ty) n) (hk : zx_oc S k K) (hf : f2 + 1 ≤ fr ∧ 8 + (ny + 11) + l2 ≤ lo) (hn : As.length = n) (hr : (rest.map fun v => v.category).sum ≤ 8) (hst : st = As.reverse ++ .ref (zz_d Z k) :: rest) (hq : pc + 3 = q) (kk : zW S Z nL q lv (.int v :: rest) σ1) : zW S Z nL pc lv st σ := by
  subst hq
  intro H locs ls hX hl
  refine va_calli (va_runU (As := As) (rest := rest) C.1 hM (zx_caw C hw hf) ⟨zx_blind C.2.2.2.2.1, zx_recv C hk hX, zx_start C hX _⟩ rfl hn hl.1 hst (lv_room hr) d ⟨Nat.zero_le _, Nat.zero_le _⟩) hX.2 (fun _ _ h => h) (fun _ h => h) (fun r u t H1 locs1 ht hvm hw hB hz hk hS => ?_)
  obtain ⟨rfl, rfl⟩ := hw
  exact kk H1 locs1 ls ⟨by rw [← ht]; exact hB.1, hS⟩ hl
theorem zr_cvV (C : zx_ok S Z cc nL own fr lo) {As : List Value} {k : Nat}  (d : decode cc pc = .ok (.invokevirtual idx, 3)) (hM : zx_MV S (zz_l Z) (zz_D Z) (zz_z Z) (zz_d Z) y cy ny f2 l2 (.ref (zz_d Z k) :: As) σ σ1) (hw : zx_vw S own idx y cy ny (none) n) (hk : zx_oc S k y.cls) (hf : f2 + 1 ≤ fr ∧ 8 + (ny + 11) + l2 ≤ lo) (hn : As.length = n) (hr : (rest.map fun v => v.category).sum ≤ 8) (hst : st = As.reverse ++ .ref (zz_d Z k) :: rest) (hq : pc + 3 = q) (kk : zW S Z nL q lv rest σ1) : zW S Z nL pc lv st σ := by
  subst hq
  intro H locs ls hX hl
  refine va_callv (va_runV (As := As) (rest := rest) C.1 hM (zx_cvw C hw hf) ⟨zx_blind C.2.2.2.2.1, zx_recv C hk hX, zx_start C hX _⟩ rfl hn hl.1 hst (lv_room hr) d ⟨Nat.zero_le _, Nat.zero_le _⟩) hX.2 (fun _ _ h => h) (fun _ h => h) (fun u t H1 locs1 ht hvm hw hB hz hk hS => ?_)
  subst hw
  exact kk H1 locs1 ls ⟨by rw [← ht]; exact hB.1, hS⟩ hl
theorem zr_csV (C : zx_ok S Z cc nL own fr lo) {As : List Value}  (d : decode cc pc = .ok (.invokestatic idx, 3)) (hM : zx_MV S (zz_l Z) (zz_D Z) (zz_z Z) (zz_d Z) y cy ny f2 l2 As σ σ1) (hw : zx_sw S own idx y cy ny (none) n) (hf : f2 + 1 ≤ fr ∧ 8 + (ny + 11) + l2 ≤ lo) (hn : As.length = n) (hr : (rest.map fun v => v.category).sum ≤ 8) (hst : st = As.reverse ++ rest) (hq : pc + 3 = q) (kk : zW S Z nL q lv rest σ1) : zW S Z nL pc lv st σ := by
  subst hq
  intro H locs ls hX hl
  refine va_callv (va_runS (As := As) (rest := rest) C.1 hM (zx_csw C hw hf) ⟨zx_blind C.2.2.2.2.1, zx_start C hX _⟩ rfl hn hl.1 hst (lv_room hr) d ⟨Nat.zero_le _, Nat.zero_le _⟩) hX.2 (fun _ _ h => h) (fun _ h => h) (fun u t H1 locs1 ht hvm hw hB hz hk hS => ?_)
  subst hw
  exact kk H1 locs1 ls ⟨by rw [← ht]; exact hB.1, hS⟩ hl
theorem zr_caV (C : zx_ok S Z cc nL own fr lo) {As : List Value} {k : Nat} {K owner : String} {x : MethodName}  (d : decode cc pc = .ok (.invokevirtual idx, 3)) (hM : zx_MV S (zz_l Z) (zz_D Z) (zz_z Z) (zz_d Z) y cy ny f2 l2 (.ref (zz_d Z k) :: As) σ σ1) (hw : zx_aw S own idx K owner x y cy ny (none) n) (hk : zx_oc S k K) (hf : f2 + 1 ≤ fr ∧ 8 + (ny + 11) + l2 ≤ lo) (hn : As.length = n) (hr : (rest.map fun v => v.category).sum ≤ 8) (hst : st = As.reverse ++ .ref (zz_d Z k) :: rest) (hq : pc + 3 = q) (kk : zW S Z nL q lv rest σ1) : zW S Z nL pc lv st σ := by
  subst hq
  intro H locs ls hX hl
  refine va_callv (va_runU (As := As) (rest := rest) C.1 hM (zx_caw C hw hf) ⟨zx_blind C.2.2.2.2.1, zx_recv C hk hX, zx_start C hX _⟩ rfl hn hl.1 hst (lv_room hr) d ⟨Nat.zero_le _, Nat.zero_le _⟩) hX.2 (fun _ _ h => h) (fun _ h => h) (fun u t H1 locs1 ht hvm hw hB hz hk hS => ?_)
  subst hw
  exact kk H1 locs1 ls ⟨by rw [← ht]; exact hB.1, hS⟩ hl
theorem zr_cvA (C : zx_ok S Z cc nL own fr lo) {As : List Value} {k : Nat} {ty : FieldType} {v : Nat} (d : decode cc pc = .ok (.invokevirtual idx, 3)) (hM : zx_MA S (zz_l Z) (zz_D Z) (zz_z Z) (zz_d Z) y cy ny ty f2 l2 (.ref (zz_d Z k) :: As) σ v σ1) (hw : zx_vw S own idx y cy ny (some ty) n) (hk : zx_oc S k y.cls) (hf : f2 + 1 ≤ fr ∧ 8 + (ny + 11) + l2 ≤ lo) (hn : As.length = n) (hr : (rest.map fun v => v.category).sum ≤ 8) (hst : st = As.reverse ++ .ref (zz_d Z k) :: rest) (hq : pc + 3 = q) (kk : zW S Z nL q lv (.ref (zz_d Z v) :: rest) σ1) : zW S Z nL pc lv st σ := by
  subst hq
  intro H locs ls hX hl
  refine va_callr (va_runV (As := As) (rest := rest) C.1 hM (zx_cvw C hw hf) ⟨zx_blind C.2.2.2.2.1, zx_recv C hk hX, zx_start C hX _⟩ rfl hn hl.1 hst (lv_room hr) d ⟨Nat.zero_le _, Nat.zero_le _⟩) hX.2 (fun _ _ h => h) (fun _ h => h) (fun u ra t H1 locs1 ht hvm hw hB hz hk hS => ?_)
  subst hw
  obtain ⟨rfl, hB⟩ := hB
  exact kk H1 locs1 ls ⟨by rw [← ht]; exact hB.1, hS⟩ hl
theorem zr_csA (C : zx_ok S Z cc nL own fr lo) {As : List Value} {ty : FieldType} {v : Nat} (d : decode cc pc = .ok (.invokestatic idx, 3)) (hM : zx_MA S (zz_l Z) (zz_D Z) (zz_z Z) (zz_d Z) y cy ny ty f2 l2 As σ v σ1) (hw : zx_sw S own idx y cy ny (some ty) n) (hf : f2 + 1 ≤ fr ∧ 8 + (ny + 11) + l2 ≤ lo) (hn : As.length = n) (hr : (rest.map fun v => v.category).sum ≤ 8) (hst : st = As.reverse ++ rest) (hq : pc + 3 = q) (kk : zW S Z nL q lv (.ref (zz_d Z v) :: rest) σ1) : zW S Z nL pc lv st σ := by
  subst hq
  intro H locs ls hX hl
  refine va_callr (va_runS (As := As) (rest := rest) C.1 hM (zx_csw C hw hf) ⟨zx_blind C.2.2.2.2.1, zx_start C hX _⟩ rfl hn hl.1 hst (lv_room hr) d ⟨Nat.zero_le _, Nat.zero_le _⟩) hX.2 (fun _ _ h => h) (fun _ h => h) (fun u ra t H1 locs1 ht hvm hw hB hz hk hS => ?_)
  subst hw
  obtain ⟨rfl, hB⟩ := hB
  exact kk H1 locs1 ls ⟨by rw [← ht]; exact hB.1, hS⟩ hl
theorem zr_retI {r : Int32 × zx_S} {e : Int32} (d : decode cc pc = .ok (.ireturn, 1)) (h : some (e, σ) = some r) (hr : zx_rI S Z cc nL .int r.1 r.2) : zW S Z nL pc lv [.int e] σ := by
  cases h
  exact hr pc lv d rfl
theorem zr_retR {r e : Int32} (d : decode cc pc = .ok (.ireturn, 1)) (h : some e = some r) (hr : zx_rI S Z cc nL .int r σ) : zW S Z nL pc lv [.int e] σ := by
  cases h
  exact hr pc lv d rfl
theorem zr_retZI {r : Int32 × zx_S} {e : Int32} (d : decode cc pc = .ok (.ireturn, 1)) (hb : e = 0 ∨ e = 1) (h : some (e, σ) = some r) (hr : zx_rI S Z cc nL .boolean r.1 r.2) : zW S Z nL pc lv [.int e] σ := by
  cases h
  exact hr pc lv d (zx_nb hb)
theorem zr_retZR {r e : Int32} (d : decode cc pc = .ok (.ireturn, 1)) (hb : e = 0 ∨ e = 1) (h : some e = some r) (hr : zx_rI S Z cc nL .boolean r σ) : zW S Z nL pc lv [.int e] σ := by
  cases h
  exact hr pc lv d (zx_nb hb)
theorem zr_retV {r : zx_S} (d : decode cc pc = .ok (.return_, 1)) (h : some σ = some r) (hr : zx_rV S Z cc nL r) : zW S Z nL pc lv [] σ := by
  cases h
  exact hr pc lv d
end ZC

