/-! PURE: the class's Leaders -/
section XL
variable {P : zx_S} {nb : Nat} {sz : Nat → Nat} {t : zc_Tb}
theorem zq_st_16 (hnb : nb ≤ 16) : zq_st P nb sz 16 = zq_st P nb sz nb := by
  have e : ∀ d, zq_st P nb sz (nb + d) = zq_st P nb sz nb := by
    intro d
    induction d with
    | zero => rfl
    | succ d ih => rw [← Nat.add_assoc, zq_bz_no (fun q => by have := q.1; omega), ih]
  have := e (16 - nb)
  rwa [show nb + (16 - nb) = 16 by omega] at this
theorem zq_Tab.Ht (hW : zq_WF P nb sz) (hn : 0 < nb) (h : zq_Tab P nb sz t) : zX_Ht t := by
  refine ⟨h.H hW hn, h.fo530 hW, fun i hi hk => ?_⟩
  rw [h.1] at hi
  rcases zq_cases hi with q | ⟨b, v, q⟩ | ⟨b, k, q⟩
  · subst q; rw [h.2.1.1] at hk; exact absurd hk (by decide)
  · exact (h.2.2.1 i b v q).2.1
  · have := h.2.2.2 i b k q
    obtain ⟨⟨kd, kd1, kd2⟩, -, -⟩ := hW.ins q.1.1 q.2.1
    rw [this.2.1, if_pos]
    rw [this.1] at hk
    exact (zq_kd3 kd1 kd2).2.1.mpr ((zq_kd3 kd1 kd2).2.2.mp hk)
theorem zX_Va.tb (hW : zq_WF P nb sz) (hn : 0 < nb) (h : zq_Tab P nb sz t) {s : zx_S} (hV : zX_Va P nb sz t s) : zX_Tb t s := by
  have hnb := hW.2.1
  have e16 := zq_st_16 (P := P) (sz := sz) hnb
  have hN := hV.1.2.2.1
  rw [e16, ← h.1] at hN
  refine ⟨hN.1, fun i hi => ?_, hN.2.2, hV.2.2⟩
  have hi' := hi
  rw [h.1] at hi'
  rcases zq_cases hi' with q | ⟨b, v, q⟩ | ⟨b, k, q⟩
  · subst q
    have := hN.2.1.1 hi
    rw [this.1, this.2.1, this.2.2.2, h.2.1.1, h.2.1.2.1, h.2.1.2.2.1]; exact ⟨rfl, rfl, rfl⟩
  · have a := hN.2.1.2.1 i b v hi q
    have c := h.2.2.1 i b v q
    rw [a.1, a.2.1, a.2.2.2, c.1, c.2.1, c.2.2.1]; exact ⟨rfl, rfl, rfl⟩
  · have a := hN.2.1.2.2 i b k hi q
    have c := h.2.2.2 i b k q
    rw [a.1, a.2.1, a.2.2.2, c.1, c.2.1, c.2.2.1]; exact ⟨rfl, rfl, rfl⟩
/-- what Leaders wants of the class's world -/
def zX_Lw (P : zx_S) (nb : Nat) (sz : Nat → Nat) (t : zc_Tb) (s : zx_S) : Prop := zX_Va P nb sz t s ∧ zX_Tb t s ∧ ∀ v, v < zt_T t → s 34 v = nI (zc_K t v)
theorem zX_Bk.keep {s s' : zx_S} {b : Nat} (h : zX_Bk P nb sz t b s) (hk : ∀ c i, 25 ≤ c → c ≤ 32 → s' c i = s c i) : zX_Bk P nb sz t b s' :=
  ⟨fun v hv => by rw [hk 32 _ (by decide) (by decide)]; exact h.1 v hv, fun k hk' h14 => by rw [hk 26 _ (by decide) (by decide)]; exact h.2.1 k hk' h14, fun i k hN j hj => by rw [hk 25 _ (by decide) (by decide)]; exact h.2.2.1 i k hN j hj, by rw [hk 27 _ (by decide) (by decide)]; exact h.2.2.2⟩
theorem zX_Va.keep {s s' : zx_S} (h : zX_Va P nb sz t s) (hk : ∀ c i, 1 ≤ c → c ≤ 32 → s' c i = s c i) : zX_Va P nb sz t s' :=
  ⟨⟨h.1.1.keep (fun c i h1 h2 => hk c i h1 (by omega)), h.1.2.1.keep (fun c i h1 h2 => hk c i (by omega) (by omega)), h.1.2.2.keep (fun c i h1 => hk c i (by omega) (by omega))⟩, fun c hc => (h.2.1 c hc).keep (fun c i h1 h2 => hk c i (by omega) h2), fun i hi j hj => by rw [hk 25 _ (by decide) (by decide)]; exact h.2.2 i hi j hj⟩
theorem zX_Lw.keep {s s' : zx_S} (h : zX_Lw P nb sz t s) (hk : ∀ c i, 1 ≤ c → c ≤ 35 → s' c i = s c i) : zX_Lw P nb sz t s' :=
  ⟨h.1.keep (fun c i h1 h2 => hk c i h1 (by omega)), h.2.1.keep (fun c i h1 h2 => hk c i (by omega) (by omega)), fun v hv => by rw [hk 34 v (by decide) (by decide)]; exact h.2.2 v hv⟩
theorem zX_isLed_eq (hW : zq_WF P nb sz) (hn : 0 < nb) (h : zq_Tab P nb sz t) {s : zx_S} (hs : zX_Lw P nb sz t s) {v : Nat} (hv : v < zt_T t) : zX_Leaders_isLed (nI v) s = some (zi (zp (zq_rd P nb t v))) := by
  have hnb := hW.2.1
  have hH := h.Ht hW hn
  have hT := hH.1.2.2.2.2
  obtain ⟨kv1, kv2⟩ := h.bk hW hn hv
  have kv3 := kv2.1
  have kle : ∀ i, zc_K t i ≤ i := fun i => zc_rp_le _ _
  have kv := kle v
  unfold zX_Leaders_isLed
  rw [zc_ck (show v < 261 by omega) (by decide), zc_cl (by omega), zc_lt, zc_ck (show v < 261 by omega) (by decide), zc_lt, hs.2.2 v hv, (hs.2.1.2.1 v hv).2.1, kv1]
  have := zf_first (L := fun n i => zX_Leaders_isLed_L20 (nI v) (nI (zc_K t v)) (nI (zq_bk t v)) s (some 1) n i) (K := fun _ => some (1 : Int32)) (E := some (0 : Int32)) (zt_T t) (zc_K t v) (fun u => zc_K t u = zc_K t v ∧ zq_af P nb t u v) (fun n => by
    show zX_Leaders_isLed_L20 (nI v) (nI (zc_K t v)) (nI (zq_bk t v)) s (some 1) (n + 1) (nI (zt_T t)) = some 0
    rw [zX_Leaders_isLed_L20, hs.2.1.1, if_pos (Int32.le_refl _)]) (fun n u _ hu hp => by
    show zX_Leaders_isLed_L20 (nI v) (nI (zc_K t v)) (nI (zq_bk t v)) s (some 1) (n + 1) (nI u) = some 1
    obtain ⟨ku1, ku2⟩ := h.bk hW hn hu
    have ku3 := ku2.1
    have g14 := hs.1.1.2.1.2.2.1 (zq_bk t u) (by omega)
    rw [zX_Leaders_isLed_L20, hs.2.1.1, if_neg (by rw [nI_leI (by omega) (by omega)]; omega)]
    simp only [zc_ck (show u < 261 by omega) (by decide), zc_cl (show u < 2 ^ 31 by omega), hs.2.2 u hu, (hs.2.1.2.1 u hu).2.1, ku1, zc_ck (show zq_bk t u < 16 by omega) (by decide), zc_cl (show zq_bk t u < 2 ^ 31 by omega), zX_isIn_eq _ (show zq_bk t v < 32 by omega), zc_b1, zi_isin, zi_0]
    rw [if_pos (by rw [hp.1])]
    rcases hp.2 with ⟨a1, a2⟩ | ⟨a1, a2⟩
    · rw [if_pos (by rw [a1]), if_neg (by rw [nI_leI (by omega) (by omega)]; omega)]
    · rw [if_neg (fun z => a1 (nI_inj (by omega) (by omega) z)), if_neg (by rw [(g14.2 _).mpr a2]; decide)]) (fun n u _ hu hp => by
    show zX_Leaders_isLed_L20 (nI v) (nI (zc_K t v)) (nI (zq_bk t v)) s (some 1) (n + 1) (nI u) = zX_Leaders_isLed_L20 (nI v) (nI (zc_K t v)) (nI (zq_bk t v)) s (some 1) n (nI (u + 1))
    obtain ⟨ku1, ku2⟩ := h.bk hW hn hu
    have ku3 := ku2.1
    have ku := kle u
    have g14 := hs.1.1.2.1.2.2.1 (zq_bk t u) (by omega)
    rw [zX_Leaders_isLed_L20, hs.2.1.1, if_neg (by rw [nI_leI (by omega) (by omega)]; omega)]
    simp only [zc_ck (show u < 261 by omega) (by decide), zc_cl (show u < 2 ^ 31 by omega), hs.2.2 u hu, (hs.2.1.2.1 u hu).2.1, ku1, zc_ck (show zq_bk t u < 16 by omega) (by decide), zc_cl (show zq_bk t u < 2 ^ 31 by omega), zX_isIn_eq _ (show zq_bk t v < 32 by omega), zc_b1, zi_isin, zi_0, zc_lt, nI_1]
    by_cases c1 : nI (zc_K t u) = nI (zc_K t v)
    · have e1 : zc_K t u = zc_K t v := nI_inj (by omega) (by omega) c1
      rw [if_pos c1]
      by_cases c2 : nI (zq_bk t u) = nI (zq_bk t v)
      · have e2 : zq_bk t u = zq_bk t v := nI_inj (by omega) (by omega) c2
        rw [if_pos c2, if_pos (by
          rw [nI_leI (by omega) (by omega)]
          apply Classical.byContradiction
          intro z
          exact hp ⟨e1, Or.inl ⟨e2, by omega⟩⟩)]
      · rw [if_neg c2, if_pos (zb_t.mpr (fun z => hp ⟨e1, Or.inr ⟨fun e => c2 (by rw [e]), (g14.2 _).mp z⟩⟩))]
    · rw [if_neg c1]) (by omega) (n := 10000) (by omega)
  rcases this with ⟨i, i1, i2, i3, -, e⟩ | ⟨hno, e⟩
  · rw [e, zp_t.mpr ⟨i, i2, fun z => by
      rcases i3.2 with ⟨a1, a2⟩ | ⟨a1, a2⟩
      · omega
      · exact a1 (by rw [z]), i3.1, i3.2⟩]; rfl
  · rw [e, zp_f.mpr (fun ⟨u, u1, u2, u3, u4⟩ => hno u (by have := kle u; omega) u1 ⟨u3, u4⟩)]; rfl
/-- the row of REDUNDANT ones -/
def zX_R37 (P : zx_S) (nb : Nat) (t : zc_Tb) (s : zx_S) : Prop := ∀ v, v < zt_T t → s 37 v = zi (zp (zq_rd P nb t v))
theorem zX_leader_eq (hW : zq_WF P nb sz) (hn : 0 < nb) (h : zq_Tab P nb sz t) {s : zx_S} (hs : zX_Lw P nb sz t s) (hr : zX_R37 P nb t s) {v b : Nat} (hv : v < zt_T t) (hD : zq_D P nb (zq_bk t v) b) : zX_Leaders_leader (nI v) (nI b) s = some (nI (zq_Ld P nb t v b)) := by
  have hnb := hW.2.1
  have hH := h.Ht hW hn
  have hT := hH.1.2.2.2.2
  have hb := hD.1
  have kle : ∀ i, zc_K t i ≤ i := fun i => zc_rp_le _ _
  have kv := kle v
  have lr := zq_D.Ld hW hn h hv hD
  unfold zX_Leaders_leader
  rw [zc_ck (show v < 261 by omega) (by decide), zc_cl (by omega), zc_lt, hs.2.2 v hv]
  have := zf_first (L := fun n i => zX_Leaders_leader_L13 (nI v) (nI b) (nI (zc_K t v)) s (fun v7_6 => some v7_6) n i) (K := fun i => some (nI i)) (E := some (nI v)) (zt_T t) (zc_K t v) (fun u => zq_lr P nb t v b u) (fun n => by
    show zX_Leaders_leader_L13 (nI v) (nI b) (nI (zc_K t v)) s (fun v7_6 => some v7_6) (n + 1) (nI (zt_T t)) = some (nI v)
    rw [zX_Leaders_leader_L13, hs.2.1.1, if_pos (Int32.le_refl _)]) (fun n u _ hu hp => by
    show zX_Leaders_leader_L13 (nI v) (nI b) (nI (zc_K t v)) s (fun v7_6 => some v7_6) (n + 1) (nI u) = some (nI u)
    obtain ⟨ku1, ku2⟩ := h.bk hW hn hu
    have ku3 := ku2.1
    have g14 := hs.1.1.2.1.2.2.1 (zq_bk t u) (by omega)
    rw [zX_Leaders_leader_L13, hs.2.1.1, if_neg (by rw [nI_leI (by omega) (by omega)]; omega)]
    simp only [zc_ck (show u < 261 by omega) (by decide), zc_cl (show u < 2 ^ 31 by omega), hs.2.2 u hu, hr u hu, (hs.2.1.2.1 u hu).2.1, ku1, zc_ck (show zq_bk t u < 16 by omega) (by decide), zc_cl (show zq_bk t u < 2 ^ 31 by omega), zX_isIn_eq _ (show b < 32 by omega), zc_b1, zi_isin, zi_0]
    rw [if_pos (by rw [hp.2.1]), if_pos (zp_f.mpr hp.2.2.1), if_neg (by rw [(g14.2 _).mpr hp.2.2.2]; decide)]) (fun n u _ hu hp => by
    show zX_Leaders_leader_L13 (nI v) (nI b) (nI (zc_K t v)) s (fun v7_6 => some v7_6) (n + 1) (nI u) = zX_Leaders_leader_L13 (nI v) (nI b) (nI (zc_K t v)) s (fun v7_6 => some v7_6) n (nI (u + 1))
    obtain ⟨ku1, ku2⟩ := h.bk hW hn hu
    have ku3 := ku2.1
    have ku := kle u
    have g14 := hs.1.1.2.1.2.2.1 (zq_bk t u) (by omega)
    rw [zX_Leaders_leader_L13, hs.2.1.1, if_neg (by rw [nI_leI (by omega) (by omega)]; omega)]
    simp only [zc_ck (show u < 261 by omega) (by decide), zc_cl (show u < 2 ^ 31 by omega), hs.2.2 u hu, hr u hu, (hs.2.1.2.1 u hu).2.1, ku1, zc_ck (show zq_bk t u < 16 by omega) (by decide), zc_cl (show zq_bk t u < 2 ^ 31 by omega), zX_isIn_eq _ (show b < 32 by omega), zc_b1, zi_isin, zi_0, zc_lt, nI_1]
    by_cases c1 : nI (zc_K t u) = nI (zc_K t v)
    · have e1 : zc_K t u = zc_K t v := nI_inj (by omega) (by omega) c1
      rw [if_pos c1]
      by_cases c2 : zp (zq_rd P nb t u) = false
      · rw [if_pos c2, if_pos (zb_t.mpr (fun z => hp ⟨hu, e1, zp_f.mp c2, (g14.2 _).mp z⟩))]
      · rw [if_neg c2]
    · rw [if_neg c1]) (by omega) (n := 10000) (by omega)
  rcases this with ⟨i, i1, i2, i3, -, e⟩ | ⟨hno, e⟩
  · rw [e, zq_Ld_eq i3]
  · exact absurd lr (hno _ (by have := kle (zq_Ld P nb t v b); rw [lr.2.1] at this; exact this) lr.1)
theorem zX_nthOf_eq (hnb : nb ≤ 16) {x : Int32} {b : Nat} (hx : ∀ p, zb x p = true ↔ zq_pr P nb b p) {j : Nat} (hj : j < 2 ^ 31) (s : zx_S) : zX_Graph_nthOf x (nI j) s = some (if zq_nt P nb b j < nb then nI (zq_nt P nb b j) else -1) := by
  unfold zX_Graph_nthOf
  have := zf_loop (A := Nat × Nat) (L := fun n a => zX_Graph_nthOf_L4 x (nI j) s (fun v3_5 => some v3_5) n (nI a.1) (nI a.2)) (Out := fun o => o = some (if zq_nt P nb b j < nb then nI (zq_nt P nb b j) else -1)) (Inv := fun m a => a.2 ≤ 16 ∧ m = 16 - a.2 ∧ a.1 = zq_np P nb b a.2 ∧ a.1 ≤ j) (fun n m a ha => by
    obtain ⟨c, p⟩ := a
    obtain ⟨h1, h2, h3, h4⟩ := ha
    dsimp only at h1 h2 h3 h4
    subst h3
    show (zX_Graph_nthOf_L4 x (nI j) s (fun v3_5 => some v3_5) (n + 1) (nI (zq_np P nb b p)) (nI p) = _) ∨ ∃ m' a', _ ∧ _ ∧ zX_Graph_nthOf_L4 x (nI j) s (fun v3_5 => some v3_5) (n + 1) (nI (zq_np P nb b p)) (nI p) = _
    rw [zX_Graph_nthOf_L4]
    by_cases e : p = 16
    · left
      subst e
      rw [if_pos (by decide), if_neg]
      intro z
      have := zq_nt_lt z
      have hlt : zq_np P nb b (zq_nt P nb b j) < zq_np P nb b 16 := zn_in (f := fun p => zp (zq_pr P nb b p)) (by omega) (zp_t.mpr this.1)
      omega
    · rw [if_neg (by rw [show (16 : Int32) = nI 16 by decide, nI_leI (by omega) (by omega)]; omega), zX_isIn_eq _ (show p < 32 by omega), zc_b1, zi_isin]
      simp only [zi_0, zc_lt, nI_1]
      have stp : zq_np P nb b (p + 1) = zq_np P nb b p + (if zp (zq_pr P nb b p) then 1 else 0) := rfl
      by_cases c1 : zb x p = false
      · rw [if_pos c1]
        right
        have hno : ¬ zq_pr P nb b p := fun z => by rw [(hx p).mpr z] at c1; cases c1
        exact ⟨16 - (p + 1), (zq_np P nb b p, p + 1), by omega, ⟨by show p + 1 ≤ 16; omega, rfl, by show zq_np P nb b p = zq_np P nb b (p + 1); rw [stp, zp_f.mpr hno]; rfl, h4⟩, rfl⟩
      · rw [if_neg c1]
        have hpr : zq_pr P nb b p := (hx p).mp (by simpa using c1)
        by_cases c2 : nI (zq_np P nb b p) = nI j
        · left
          have ej : zq_np P nb b p = j := nI_inj (by omega) hj c2
          rw [if_pos c2, ← ej, zq_nt_eq hpr, if_pos hpr.1.1]
        · right
          rw [if_neg c2]
          have hne : zq_np P nb b p ≠ j := fun z => c2 (by rw [z])
          exact ⟨16 - (p + 1), (zq_np P nb b p + 1, p + 1), by omega, ⟨by show p + 1 ≤ 16; omega, rfl, by show zq_np P nb b p + 1 = zq_np P nb b (p + 1); rw [stp, zp_t.mpr hpr]; rfl, by show zq_np P nb b p + 1 ≤ j; omega⟩, rfl⟩) 10000 16 (0, 0) ⟨by decide, rfl, rfl, Nat.zero_le _⟩ (by decide)
  dsimp only at this
  rw [nI_0] at this
  exact this
end XL
