/-! THE TWO MEMORIES AT THE BEGINNING: what the two makers leave -/
def zM (z : Nat) : Mem := ([], z, 0, fun _ _ => 0, fun _ _ => 0, fun _ _ => 0)
def C00 : Mem := newM (zM 0) 9 11
def C0 : Mem := (f_D_init 9 C00).getD (zM 0)
def M00 : Mem := newM (zM 95) 10 63
def M0 : Mem := (f_M_init 12451850 M00).getD (zM 0)
theorem isSome_getD {α : Type} {o : Option α} {d : α} (h : o.isSome = true) : o = some (o.getD d) := by
  cases o with
  | none => cases h
  | some x => rfl
theorem C0_is : f_D_init 9 C00 = some C0 := isSome_getD (by decide +kernel)
theorem M0_is : f_M_init 12451850 M00 = some M0 := isSome_getD (by decide +kernel)
theorem C0_z : mZ C0 = 95 := by decide +kernel
theorem M0_z : mZ M0 = 136 := by decide +kernel
theorem C0_w : mW C0 ≤ 2000 := by decide +kernel
theorem M0_w : mW M0 ≤ 4000 := by decide +kernel
