/-! PURE: RUN: VALUED and LED: what is ahead agrees -/
section RW
variable {P : zx_S} {nb : Nat} {sz : Nat → Nat} {t : zc_Tb} {R : Nat → Prop} {cc : Nat} {op : Nat → Nat → Nat}
def zV_v (P : zx_S) (nb : Nat) (sz : Nat → Nat) (R : Nat → Prop) (cc : Nat) (b k : Nat) (σ τ : zx_S) : Prop := ∀ w, zq_Ah P nb sz w b k → ¬ R w → σ cc w = τ 33 w
noncomputable def zq_kp (P : zx_S) (nb : Nat) (sz : Nat → Nat) (R : Nat → Prop) (b k : Nat) : Bool := if P 1 (100 * b + k) = 2 then false else if P 1 (100 * b + k) = 14 then true else zp (¬ R (zq_ii P nb sz b k))
theorem zq_Ah.back {w b k : Nat} (h : zq_Ah P nb sz w b (k + 1)) : zq_Ah P nb sz w b k ∨ zq_isN P nb sz w b k := by
  rcases h with q | q | ⟨b', k', q1, q2, q3⟩
  · exact Or.inl (Or.inl q)
  · exact Or.inl (Or.inr (Or.inl q))
  · by_cases e : b' = b
    · have := q3 e
      by_cases e2 : k' = k
      · subst e; subst e2; exact Or.inr q1
      · exact Or.inl (Or.inr (Or.inr ⟨b', k', q1, q2, fun _ => by omega⟩))
    · exact Or.inl (Or.inr (Or.inr ⟨b', k', q1, q2, fun z => absurd z e⟩))
theorem zV_v.skip {b k : Nat} {σ τ : zx_S} (hV : zV_v P nb sz R cc b k σ τ) (h : ∀ w, zq_isN P nb sz w b k → R w) : zV_v P nb sz R cc b (k + 1) σ τ := fun w h1 h2 => by
  rcases h1.back with q | q
  · exact hV w q h2
  · exact absurd (h w q) h2
theorem zV_v.set {b k v : Nat} {σ τ : zx_S} (hV : zV_v P nb sz R cc b k σ τ) (hv : zq_isN P nb sz v b k) (y : Int32) : zV_v P nb sz R cc b (k + 1) (zx_su σ cc v y) (zx_su τ 33 v y) := fun w h1 h2 => by
  by_cases e : w = v
  · rw [e, zs_eq, zs_eq]
  · rw [zs_ne (Or.inr e), zs_ne (Or.inr e)]
    rcases h1.back with q | q
    · exact hV w q h2
    · exact absurd (q.2.2.2.trans hv.2.2.2.symm) e
theorem zV_v.keep {b k : Nat} {σ τ σ' τ' : zx_S} (hV : zV_v P nb sz R cc b k σ τ) (h1 : ∀ i, σ' cc i = σ cc i) (h2 : ∀ i, τ' 33 i = τ 33 i) : zV_v P nb sz R cc b k σ' τ' := fun w a1 a2 => by rw [h1, h2]; exact hV w a1 a2
theorem zq_hd.Ah (hW : zq_WF P nb sz) (h : zq_Tab P nb sz t) {pl : Nat → Int32} (hp : zq_Pl P nb sz pl) {u b k : Nat} (hb : zq_rc P nb b) (hk : k ≤ 100) (hu : u < zt_T t) (hh : zq_hd P nb t pl u b (nI k)) : zq_Ah P nb sz u b k := by
  rw [h.1] at hu
  rcases zq_cases hu with q | ⟨b', x, q⟩ | ⟨b', k', q⟩
  · exact Or.inl q
  · have e := h.bkC hW q
    rcases hh with ⟨a1, -⟩ | ⟨-, a2⟩
    · rw [e] at a1; exact Or.inr (Or.inl ⟨b', x, q, by rw [a1]; exact zq_D.refl hb⟩)
    · rw [e] at a2; exact Or.inr (Or.inl ⟨b', x, q, a2⟩)
  · have e := h.bkN hW q
    have k1 := q.2.1
    have k2 := (hW.2.2.1 b' q.1.1).2
    rcases hh with ⟨a1, a2⟩ | ⟨a1, a2⟩
    · rw [e] at a1
      rw [hp.2.2 u b' k' q, nI_ltI (by omega) (by omega)] at a2
      exact Or.inr (Or.inr ⟨b', k', q, by rw [a1]; exact zq_D.refl hb, fun _ => a2⟩)
    · rw [e] at a1 a2; exact Or.inr (Or.inr ⟨b', k', q, a2, fun z => absurd z a1⟩)
theorem zq_Ah.Ld (hW : zq_WF P nb sz) (hn : 0 < nb) (h : zq_Tab P nb sz t) {w b k : Nat} (hb : zq_rc P nb b) (hk : k ≤ 100) (ha : zq_Ah P nb sz w b k) : zq_Ah P nb sz (zq_Ld P nb t w b) b k ∧ ¬ zq_rd P nb t (zq_Ld P nb t w b) := by
  have hT : w < zt_T t := by rw [h.1]; exact ha.lt hn
  have hp := zq_pln_ok (P := P) (nb := nb) (sz := sz)
  obtain ⟨l1, l2⟩ := zq_hd.Ld hW hn h hp hT (ha.hd hW hn h hp hb hk)
  exact ⟨l2.Ah hW h hp hb hk l1.1, l1.2.2.1⟩
/-- the two forms: which VALUES go, which OPERANDS stand, what a reader sees -/
def zR_0 (_ : Nat) : Prop := False
def zG_fm (P : zx_S) (nb : Nat) (t : zc_Tb) (fm : Int32) (R : Nat → Prop) (op ld : Nat → Nat → Nat) : Prop := (fm = 1 ∧ R = zR_0 ∧ op = zt_o t ∧ ld = fun w _ => w) ∨ (fm = 2 ∧ R = zq_rd P nb t ∧ op = zq_lo P nb t ∧ ld = zq_Ld P nb t)
def zO (P : zx_S) (nb : Nat) (sz : Nat → Nat) (t : zc_Tb) (R : Nat → Prop) (op ld : Nat → Nat → Nat) : Prop :=
  (∀ v b k j, zq_isN P nb sz v b k → j < zt_c t v → zq_Ah P nb sz (op v j) b k ∧ ¬ R (op v j)) ∧
  (∀ v b x p, zq_isC P nb sz v b x → zq_pr P nb b p → zq_Ah P nb sz (op v (zq_np P nb b p)) p (sz p) ∧ ¬ R (op v (zq_np P nb b p))) ∧
  (∀ v x, zq_isC P nb sz v 0 x → op v (zq_np P nb 0 nb) = 0) ∧
  (∀ w b k, zq_rc P nb b → k ≤ 100 → zq_Ah P nb sz w b k → zq_Ah P nb sz (ld w b) b k ∧ ¬ R (ld w b))
theorem zG_fm.O (hW : zq_WF P nb sz) (hn : 0 < nb) (h : zq_Tab P nb sz t) {fm : Int32} {ld : Nat → Nat → Nat} (hF : zG_fm P nb t fm R op ld) : zO P nb sz t R op ld := by
  rcases hF with ⟨rfl, rfl, rfl, rfl⟩ | ⟨rfl, rfl, rfl, rfl⟩
  · refine ⟨fun v b k j q hj => ⟨q.ops hW hn h hj, fun z => z⟩, fun v b x p q hp => ⟨?_, fun z => z⟩, fun v x q => (h.2.2.1 v 0 x q).2.2.2.2.2 rfl, fun w b k _ _ ha => ⟨ha, fun z => z⟩⟩
    rw [(h.2.2.1 v b x q).2.2.2.2.1 p hp]
    exact zq_Ah.en hW hp.1 q.2.1
  · refine ⟨fun v b k j q hj => ?_, fun v b x p q hp => ?_, fun v x q => ?_, fun w b k hb hk ha => ha.Ld hW hn h hb hk⟩
    · have hs := (hW.2.2.1 b q.1.1).2
      have hk := q.2.1
      unfold zq_lo zq_wh
      rw [if_neg (zq_k15 hW h q), h.bkN hW q]
      exact (q.ops hW hn h hj).Ld hW hn h q.1 (by omega)
    · have a := h.2.2.1 v b x q
      unfold zq_lo zq_wh
      rw [if_pos a.1, h.bkC hW q, zq_nt_eq hp, if_pos hp.1.1, a.2.2.2.2.1 p hp]
      exact (zq_Ah.en hW hp.1 q.2.1).Ld hW hn h hp.1 (hW.2.2.1 p hp.1.1).2
    · have a := h.2.2.1 v 0 x q
      unfold zq_lo zq_wh
      rw [if_pos a.1, h.bkC hW q, zq_nt_no (fun p hp e => by have := zn_in (f := fun p => zp (zq_pr P nb 0 p)) hp.1.1 (zp_t.mpr hp); unfold zq_np at e; omega), if_neg (by omega), a.2.2.2.2.2 rfl, zq_Ld0 hn h]
/-- over the EDGE -/
theorem zV_v.enter {ld : Nat → Nat → Nat} (hO : zO P nb sz t R op ld) {b : Nat} {fr : Int32} {σ τ : zx_S} (hE : (fr = -1 ∧ b = 0) ∨ ∃ p, fr = nI p ∧ zq_pr P nb b p ∧ zV_v P nb sz R cc p (sz p) σ τ) (h0 : σ cc 0 = 0) {m : Nat} (hm1 : fr = -1 → b = 0 → m = zq_np P nb b nb) (hm2 : ∀ p, fr = nI p → zq_pr P nb b p → m = zq_np P nb b p) {σ' τ' τ0 : zx_S} (e1 : ∀ w, w ≠ 0 → τ0 33 w = τ 33 w) (e0 : τ0 33 0 = 0) (hx : ∀ v x, zq_isC P nb sz v b x → ¬ R v → σ' cc v = σ cc (op v m)) (hx2 : ∀ w, (∀ x, ¬ zq_isC P nb sz w b x) → σ' cc w = σ cc w) (hy : ∀ v x, zq_isC P nb sz v b x → ¬ R v → τ' 33 v = τ0 33 (op v m)) (hy2 : ∀ w, (∀ x, ¬ zq_isC P nb sz w b x) → τ' 33 w = τ0 33 w) : zV_v P nb sz R cc b 0 σ' τ' := by
  intro w ha hr
  rcases hE with ⟨q1, q2⟩ | ⟨p, q1, q2, q3⟩
  · subst q2
    have hm := hm1 q1 rfl
    by_cases hc : ∃ x, zq_isC P nb sz w 0 x
    · obtain ⟨x, hc⟩ := hc
      rw [hx w x hc hr, hy w x hc hr, hm, hO.2.2.1 w x hc, h0, e0]
    · have hc' : ∀ x, ¬ zq_isC P nb sz w 0 x := fun x z => hc ⟨x, z⟩
      rw [hx2 w hc', hy2 w hc']
      rcases ha with z | ⟨b', x, z1, z2⟩ | ⟨b', k', z1, z2, z3⟩
      · rw [z, h0, e0]
      · have := zq_D.anti z2 (zq_D.zero z2.rcl)
        subst this
        exact absurd z1 (hc' x)
      · have := z3 (zq_D.anti z2 (zq_D.zero z2.rcl))
        omega
  · have hm := hm2 p q1 q2
    have ag : ∀ w, zq_Ah P nb sz w p (sz p) → ¬ R w → σ cc w = τ0 33 w := fun w a1 a2 => by
      by_cases e : w = 0
      · rw [e, h0, e0]
      · rw [e1 w e]; exact q3 w a1 a2
    by_cases hc : ∃ x, zq_isC P nb sz w b x
    · obtain ⟨x, hc⟩ := hc
      have := hO.2.1 w b x p hc q2
      rw [hx w x hc hr, hy w x hc hr, hm]
      exact ag _ this.1 this.2
    · have hc' : ∀ x, ¬ zq_isC P nb sz w b x := fun x z => hc ⟨x, z⟩
      rw [hx2 w hc', hy2 w hc']
      refine ag w ?_ hr
      rcases ha with z | ⟨b', x, z1, z2⟩ | ⟨b', k', z1, z2, z3⟩
      · exact Or.inl z
      · have hne : b' ≠ b := (fun e => hc' x (e ▸ z1))
        exact Or.inr (Or.inl ⟨b', x, z1, z2.pred hne q2.1 q2.2⟩)
      · have hne : b' ≠ b := (fun e => by have := z3 e; omega)
        exact Or.inr (Or.inr ⟨b', k', z1, z2.pred hne q2.1 q2.2, fun e => by rw [← e]; exact z1.2.1⟩)
theorem zV_v.act {b k : Nat} {σ τ : zx_S} (hV : zV_v P nb sz R cc b k σ τ) (h : zq_iv P b k = false) : zV_v P nb sz R cc b (k + 1) σ τ := hV.skip (fun w q => by rw [q.2.2.1] at h; cases h)
theorem zV_v.kp {b k : Nat} {σ τ : zx_S} (hV : zV_v P nb sz R cc b k σ τ) (h : zq_kp P nb sz R b k = false) : zV_v P nb sz R cc b (k + 1) σ τ := hV.skip (fun w q => by
  have iv := (zm_iv P b k).mp q.2.2.1
  unfold zq_kp at h
  rw [if_neg iv.1, if_neg iv.2] at h
  have := zp_f.mp h
  rw [q.2.2.2]
  exact Classical.byContradiction this)
end RW
