/-! PURE: the start; all calls -/
theorem zt_none : ∀ n, zt (fun _ => 0) n = 0 := by
  intro n
  induction n with
  | zero => rfl
  | succ n ih => rw [zt_step, ih]
theorem zI_start : zI zX_0 zM_0 := by
  refine zI_new (nb := 0) (sz := fun _ => 0) ⟨rfl, by decide, fun b hb => by omega, fun b hb => by omega, fun b k hb => by omega, by rw [zt_none]; decide⟩ ⟨⟨rfl, fun b hb => by omega, fun b _ _ => ⟨rfl, rfl⟩⟩, fun _ _ => rfl, fun b _ => ?_, fun b k hb => by omega⟩ rfl rfl rfl ?_ ⟨rfl, ⟨1000, by decide, by decide, by decide⟩, rfl, rfl, rfl, rfl, fun i _ _ => rfl, rfl, rfl⟩
  · rw [zt_none]; rfl
  · rw [zt_none]; rfl
/-- there is a relation between the two worlds that holds at the start and that every call keeps, with one answer -/
theorem zp_exists : ∃ I : zx_S → zx_S → Prop, I zX_0 zM_0 ∧ zp_All I := ⟨zI, zI_start, zI_block, zI_put, zI_ends, zI_clear, zI_about, zI_pred, zI_dom, zI_meets, zI_value, zI_operand, zI_led, zI_classOf, zI_read, zI_emits, zI_run, zI_fuel, zI_ran, zI_emitted, zI_count⟩
