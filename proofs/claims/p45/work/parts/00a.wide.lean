/-! what the far part of the library gives on arrays of arrays (this part stands first: the round is then read over the whole library at once) -/
theorem vr_outer0 (c : ClassId) (N h0 : Nat) : ∀ i, ∃ X, Jvm.Free.Multi.outerC c N h0 i = { cls := c, slots := X, vm := .none } := by
  intro i
  induction i with
  | zero => exact ⟨_, rfl⟩
  | succ i ih =>
    obtain ⟨X, e⟩ := ih
    exact ⟨_, by show (Jvm.Free.Multi.outerC c N h0 i).setSlot i (.ref (h0 + 1 + i)) = _; rw [e]; rfl⟩
theorem vr_outer (c : ClassId) (N h0 : Nat) : Jvm.Free.Multi.outerC c N h0 N = arrV c N (fun j => va_rf (if j < N then some (h0 + 1 + j) else none)) := by
  obtain ⟨a, b, d⟩ := Jvm.Free.Multi.outerC_facts c N h0 N
  have sl := fun (j : Nat) (hj : j < N) => Jvm.Free.Multi.outerC_slot c N h0 N j hj
  have hs : (Jvm.Free.Multi.outerC c N h0 N).slots = (arrV c N (fun j => va_rf (if j < N then some (h0 + 1 + j) else none))).slots := by
    apply Array.ext_getElem?
    intro i
    by_cases hi : i < N
    · rw [arrV_read _ _ hi, if_pos hi]
      have := sl i hi
      rw [if_pos hi] at this
      exact this
    · rw [Array.getElem?_eq_none (by rw [d]; omega), Array.getElem?_eq_none (by rw [arrV_size]; omega)]
  obtain ⟨X, e⟩ := vr_outer0 c N h0 N
  rw [e] at hs ⊢
  have hs : X = _ := hs
  rw [hs]
  rfl
