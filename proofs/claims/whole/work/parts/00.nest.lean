def isNW : Cond → Bool
  | .fieldLinkNest .. => true
  | .methodLinkNest .. => true
  | .arrayOver (.object _) => true
  | _ => false
theorem nw_warm {s U : State} (hW : s.WarmedH U.vm) {w : Cond} (h : isNW w = true) (hz : va_Nw w s) : va_Nw w U := by
  cases w <;> first
    | exact va_Nw.warmF hW hz
    | exact va_Nw.warmM hW hz
    | (rename_i ty; cases ty <;> first | exact va_AO.moved hW.alike hz | (simp [isNW] at h; done))
    | (simp [isNW] at h; done)
theorem nw_same {s U : State} (hv : s.vm = U.vm) {w : Cond} (h : isNW w = true) (hz : va_Nw w s) : va_Nw w U := by
  cases w <;> first
    | exact va_Nw.same rfl hv hz
    | (rename_i ty; cases ty <;> first | exact va_AO.moved (by rw [hv]; exact Vm.Alike.refl _) hz | (simp [isNW] at h; done))
    | (simp [isNW] at h; done)
