/-! PURE: LEADERS -/
section LD
variable {P : zx_S} {nb : Nat} {sz : Nat → Nat} {t : zc_Tb} {pl : Nat → Int32}
/-- u is of v's CLASS, not REDUNDANT, and its BLOCK dominates b -/
def zq_lr (P : zx_S) (nb : Nat) (t : zc_Tb) (v b u : Nat) : Prop := u < zt_T t ∧ zc_K t u = zc_K t v ∧ ¬ zq_rd P nb t u ∧ zq_D P nb (zq_bk t u) b
noncomputable def zq_Ld (P : zx_S) (nb : Nat) (t : zc_Tb) (v b : Nat) : Nat := zle (zq_lr P nb t v b) (zt_T t)
theorem zq_af_or {u w b : Nat} (hu : zq_D P nb (zq_bk t u) b) (hw : zq_D P nb (zq_bk t w) b) (hne : u ≠ w) : zq_af P nb t u w ∨ zq_af P nb t w u := by
  by_cases e : zq_bk t u = zq_bk t w
  · rcases Nat.lt_or_ge u w with q | q
    · exact Or.inl (Or.inl ⟨e, q⟩)
    · exact Or.inr (Or.inl ⟨e.symm, by omega⟩)
  · rcases hu.chain hw with q | q
    · exact Or.inl (Or.inr ⟨e, q⟩)
    · exact Or.inr (Or.inr ⟨fun z => e z.symm, q⟩)
theorem zq_lr.uniq {v b u w : Nat} (hu : zq_lr P nb t v b u) (hw : zq_lr P nb t v b w) : u = w := by
  apply Classical.byContradiction
  intro hne
  rcases zq_af_or hu.2.2.2 hw.2.2.2 hne with q | q
  · exact hw.2.2.1 ⟨u, hu.1, hne, hu.2.1.trans hw.2.1.symm, q⟩
  · exact hu.2.2.1 ⟨w, hw.1, fun e => hne e.symm, hw.2.1.trans hu.2.1.symm, q⟩
theorem zq_Ld_eq {v b u : Nat} (h : zq_lr P nb t v b u) : zq_Ld P nb t v b = u := (zle_has (p := zq_lr P nb t v b) (n := zt_T t) ⟨u, Nat.le_of_lt h.1, h⟩).uniq h
/-- in one BLOCK the places go with the numbers -/
theorem zq_pl_le (hW : zq_WF P nb sz) (h : zq_Tab P nb sz t) (hp : zq_Pl P nb sz pl) {u v : Nat} (hu : u < zt_T t) (hv : v < zt_T t) (hb : zq_bk t u = zq_bk t v) (hlt : u < v) : pl u ≤ pl v := by
  rcases (zq_ord hW h hp hu hv (by omega) hb).mpr hlt with q | q
  · rw [h.1] at hu hv
    obtain ⟨p1, p2, p3⟩ := hp
    rcases zq_cases hu with r | ⟨b, x, r⟩ | ⟨b, k, r⟩
    · have := q.1; rw [r, h.2.1.1] at this; exact absurd this (by decide)
    · rcases zq_cases hv with r' | ⟨b', x', r'⟩ | ⟨b', k', r'⟩
      · omega
      · rw [p2 u b x r, p2 v b' x' r']; exact Int32.le_refl _
      · have := q.2.1
        obtain ⟨⟨kd, kd1, kd2⟩, -, -⟩ := hW.ins r'.1.1 r'.2.1
        rw [(h.2.2.2 v b' k' r').1, kd2] at this
        have := nI_inj (b := 15) (by omega) (by omega) (this.trans (show (15 : Int32) = nI 15 by decide))
        omega
    · have := q.1
      obtain ⟨⟨kd, kd1, kd2⟩, -, -⟩ := hW.ins r.1.1 r.2.1
      rw [(h.2.2.2 u b k r).1, kd2] at this
      have := nI_inj (b := 15) (by omega) (by omega) (this.trans (show (15 : Int32) = nI 15 by decide))
      omega
  · rw [Int32.le_iff_toInt_le]; rw [Int32.lt_iff_toInt_lt] at q; omega
theorem zq_hd.af (hW : zq_WF P nb sz) (h : zq_Tab P nb sz t) (hp : zq_Pl P nb sz pl) {u m b : Nat} {p : Int32} (hu : u < zt_T t) (hm : m < zt_T t) (ha : zq_af P nb t u m) (hh : zq_hd P nb t pl m b p) : zq_hd P nb t pl u b p := by
  rcases ha with ⟨a1, a2⟩ | ⟨a1, a2⟩
  · rcases hh with ⟨b1, b2⟩ | ⟨b1, b2⟩
    · refine Or.inl ⟨a1.trans b1, ?_⟩
      have := zq_pl_le hW h hp hu hm a1 a2
      rw [Int32.lt_iff_toInt_lt] at b2 ⊢
      rw [Int32.le_iff_toInt_le] at this
      omega
    · exact Or.inr ⟨by rw [a1]; exact b1, by rw [a1]; exact b2⟩
  · rcases hh with ⟨b1, b2⟩ | ⟨b1, b2⟩
    · exact Or.inr ⟨by rw [← b1]; exact a1, by rw [← b1]; exact a2⟩
    · exact Or.inr ⟨fun e => b1 (zq_D.anti b2 (e ▸ a2)), a2.trans b2⟩
theorem zq_hd.D (hW : zq_WF P nb sz) (hn : 0 < nb) (h : zq_Tab P nb sz t) {u b : Nat} {p : Int32} (hu : u < zt_T t) (hh : zq_hd P nb t pl u b p) : zq_D P nb (zq_bk t u) b := by
  rcases hh with ⟨b1, -⟩ | ⟨-, b2⟩
  · have := (h.bk hW hn hu).2
    rw [← b1]; exact zq_D.refl this
  · exact b2
/-- one that is ahead of a place has a LEADER there -/
theorem zq_lr.ex (hW : zq_WF P nb sz) (hn : 0 < nb) (h : zq_Tab P nb sz t) (hp : zq_Pl P nb sz pl) {v b : Nat} {p : Int32} (hv : v < zt_T t) (hh : zq_hd P nb t pl v b p) : ∃ u, zq_lr P nb t v b u ∧ zq_hd P nb t pl u b p := by
  have hT := (h.H hW hn).2.2.2.2
  have hnb := hW.2.1
  obtain ⟨m, m1, ⟨m2, m3⟩, m4⟩ := zq_max (fun u => zc_K t u = zc_K t v ∧ zq_hd P nb t pl u b p) (fun u => 100000 - (1000 * zq_dep P nb (zq_bk t u) + u)) (zt_T t) ⟨v, hv, rfl, hh⟩
  refine ⟨m, ⟨m1, m2, fun hr => ?_, m3.D hW hn h m1⟩, m3⟩
  obtain ⟨u, u1, u2, u3, u4⟩ := hr
  have hx := m4 u u1 ⟨u3.trans m2, zq_hd.af hW h hp u1 m1 u4 m3⟩
  have d1 : zq_dep P nb (zq_bk t u) ≤ nb := zn_le _ _
  have d2 : zq_dep P nb (zq_bk t m) ≤ nb := zn_le _ _
  rcases u4 with ⟨a1, a2⟩ | ⟨a1, a2⟩
  · rw [a1] at hx; omega
  · have := zq_dep_lt a2 a1; omega
theorem zq_hd.Ld (hW : zq_WF P nb sz) (hn : 0 < nb) (h : zq_Tab P nb sz t) (hp : zq_Pl P nb sz pl) {v b : Nat} {p : Int32} (hv : v < zt_T t) (hh : zq_hd P nb t pl v b p) : zq_lr P nb t v b (zq_Ld P nb t v b) ∧ zq_hd P nb t pl (zq_Ld P nb t v b) b p := by
  obtain ⟨u, u1, u2⟩ := zq_lr.ex hW hn h hp hv hh
  rw [zq_Ld_eq u1]; exact ⟨u1, u2⟩
/-- places: ZERO, CHOICES, INSTRUCTIONS -/
noncomputable def zq_pln (P : zx_S) (nb : Nat) (sz : Nat → Nat) (i : Nat) : Int32 := if i = 0 then -2 else if zp (∃ b v, zq_isC P nb sz i b v) then -1 else @dite _ (∃ b k, zq_isN P nb sz i b k) (Classical.propDecidable _) (fun q => nI (Classical.choose (Classical.choose_spec q))) (fun _ => 0)
theorem zq_pln_ok : zq_Pl P nb sz (zq_pln P nb sz) := by
  refine ⟨if_pos rfl, fun i b v hC => ?_, fun i b k hN => ?_⟩
  · unfold zq_pln
    rw [if_neg (fun e => zq_notC0 (e ▸ hC)), if_pos (zp_t.mpr ⟨b, v, hC⟩)]
  · unfold zq_pln
    have hx : ∃ b k, zq_isN P nb sz i b k := ⟨b, k, hN⟩
    rw [if_neg (fun e => zq_notN0 (e ▸ hN)), if_neg (fun z => by obtain ⟨b', v', hC⟩ := zp_t.mp z; exact zq_isCN hC hN), dif_pos hx]
    have := (Classical.choose_spec (Classical.choose_spec hx)).uniq hN
    rw [this.2]
/-- the class asks for no place -/
theorem zq_D.Ld (hW : zq_WF P nb sz) (hn : 0 < nb) (h : zq_Tab P nb sz t) {v b : Nat} (hv : v < zt_T t) (hD : zq_D P nb (zq_bk t v) b) : zq_lr P nb t v b (zq_Ld P nb t v b) := by
  have hp := zq_pln_ok (P := P) (nb := nb) (sz := sz)
  refine (zq_hd.Ld hW hn h hp (p := 1000) hv ?_).1
  by_cases e : zq_bk t v = b
  · refine Or.inl ⟨e, ?_⟩
    rw [h.1] at hv
    rcases zq_cases hv with q | ⟨b, x, q⟩ | ⟨b, k, q⟩
    · rw [q, hp.1]; decide
    · rw [hp.2.1 v b x q]; decide
    · rw [hp.2.2 v b k q, show (1000 : Int32) = nI 1000 by decide, nI_ltI (by have := (hW.2.2.1 b q.1.1).2; have := q.2.1; omega) (by omega)]
      have := (hW.2.2.1 b q.1.1).2; have := q.2.1; omega
  · exact Or.inr ⟨e, hD⟩
/-- what is defined ahead is ahead -/
theorem zq_Ah.hd (hW : zq_WF P nb sz) (hn : 0 < nb) (h : zq_Tab P nb sz t) (hp : zq_Pl P nb sz pl) {w b k : Nat} (hb : zq_rc P nb b) (hk : k ≤ 100) (ha : zq_Ah P nb sz w b k) : zq_hd P nb t pl w b (nI k) := by
  have neg : ∀ k, k ≤ 100 → (-2 : Int32) < nI k ∧ (-1 : Int32) < nI k := by decide
  rcases ha with q | ⟨b', v, q1, q2⟩ | ⟨b', k', q1, q2, q3⟩
  · subst q
    by_cases e : b = 0
    · exact Or.inl ⟨by rw [h.bk0, e], by rw [hp.1]; exact (neg k hk).1⟩
    · exact Or.inr ⟨by rw [h.bk0]; exact fun z => e z.symm, by rw [h.bk0]; exact zq_D.zero hb⟩
  · by_cases e : b' = b
    · exact Or.inl ⟨by rw [h.bkC hW q1]; exact e, by rw [hp.2.1 w b' v q1]; exact (neg k hk).2⟩
    · exact Or.inr ⟨by rw [h.bkC hW q1]; exact e, by rw [h.bkC hW q1]; exact q2⟩
  · by_cases e : b' = b
    · have := q3 e
      exact Or.inl ⟨by rw [h.bkN hW q1]; exact e, by rw [hp.2.2 w b' k' q1, nI_ltI (by omega) (by omega)]; exact this⟩
    · exact Or.inr ⟨by rw [h.bkN hW q1]; exact e, by rw [h.bkN hW q1]; exact q2⟩
theorem zq_Ah.D (hW : zq_WF P nb sz) (h : zq_Tab P nb sz t) {w b k : Nat} (hb : zq_rc P nb b) (ha : zq_Ah P nb sz w b k) : zq_D P nb (zq_bk t w) b := by
  rcases ha with q | ⟨b', v, q1, q2⟩ | ⟨b', k', q1, q2, q3⟩
  · subst q; rw [h.bk0]; exact zq_D.zero hb
  · rw [h.bkC hW q1]; exact q2
  · rw [h.bkN hW q1]; exact q2
/-- ZERO leads itself in the ENTRY -/
theorem zq_Ld0 (hn : 0 < nb) (h : zq_Tab P nb sz t) : zq_Ld P nb t 0 0 = 0 := by
  refine zq_Ld_eq ⟨by rw [h.1]; exact zq_st_pos nb, rfl, fun hr => ?_, by rw [h.bk0]; exact zq_D.refl (zq_rc.zero hn)⟩
  obtain ⟨u, u1, u2, u3, u4⟩ := hr
  rcases u4 with ⟨a1, a2⟩ | ⟨a1, a2⟩
  · omega
  · rw [h.bk0] at a1 a2
    exact a1 (zq_D.anti a2 (zq_D.zero a2.rcl))
/-- the PREDECESSOR that comes j-th, or nb -/
noncomputable def zq_nt (P : zx_S) (nb b j : Nat) : Nat := zle (fun p => zq_pr P nb b p ∧ zq_np P nb b p = j) nb
theorem zq_nt_eq {b p : Nat} (h : zq_pr P nb b p) : zq_nt P nb b (zq_np P nb b p) = p := by
  have := zle_has (p := fun q => zq_pr P nb b q ∧ zq_np P nb b q = zq_np P nb b p) (n := nb) ⟨p, Nat.le_of_lt h.1.1, h, rfl⟩
  exact zn_inj (f := fun p => zp (zq_pr P nb b p)) (zp_t.mpr this.1) (zp_t.mpr h) this.2
theorem zq_nt_lt {b j : Nat} (h : zq_nt P nb b j < nb) : zq_pr P nb b (zq_nt P nb b j) ∧ zq_np P nb b (zq_nt P nb b j) = j := by
  have hx : ∃ i, i ≤ nb ∧ (zq_pr P nb b i ∧ zq_np P nb b i = j) := by
    apply Classical.byContradiction
    intro q
    have : zq_nt P nb b j = nb := by
      unfold zq_nt
      have e : ∀ n, n ≤ nb → zle (fun p => zq_pr P nb b p ∧ zq_np P nb b p = j) n = n := by
        intro n hn
        cases n with
        | zero => rfl
        | succ n =>
          unfold zle
          rw [if_neg]
          intro z
          obtain ⟨i, i1, i2⟩ := zp_t.mp z
          exact q ⟨i, by omega, i2⟩
      exact e nb (Nat.le_refl _)
    omega
  exact zle_has (p := fun p => zq_pr P nb b p ∧ zq_np P nb b p = j) hx
theorem zq_nt_no {b j : Nat} (h : ∀ p, zq_pr P nb b p → zq_np P nb b p ≠ j) : zq_nt P nb b j = nb := by
  have h1 : zq_nt P nb b j ≤ nb := zle_le _ _
  apply Classical.byContradiction
  intro q
  have := zq_nt_lt (P := P) (nb := nb) (b := b) (j := j) (by omega)
  exact h _ this.1 this.2
/-- where OPERAND j of VALUE i is read -/
noncomputable def zq_wh (P : zx_S) (nb : Nat) (t : zc_Tb) (i j : Nat) : Nat := if zt_k t i = 15 then (if zq_nt P nb (zq_bk t i) j < nb then zq_nt P nb (zq_bk t i) j else 0) else zq_bk t i
/-- OPERAND j of VALUE i in LED -/
noncomputable def zq_lo (P : zx_S) (nb : Nat) (t : zc_Tb) (i j : Nat) : Nat := zq_Ld P nb t (zt_o t i j) (zq_wh P nb t i j)
end LD
