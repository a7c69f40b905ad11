/-! bases -/
theorem pick {n q : Nat} {c : Nat → Nat} (h : cwf n c q) : ∃ f : Nat → Nat, ∀ j, j < q → f j < n ∧ c (f j) = j := by
  have key : ∀ y, ∃ i, y < q → (i < n ∧ c i = y) := fun y => by
    by_cases hy : y < q
    · obtain ⟨i, hi⟩ := h.2 y hy; exact ⟨i, fun _ => hi⟩
    · exact ⟨0, fun z => absurd z hy⟩
  exact Classical.axiomOfChoice key
theorem pa_cwf {n q v : Nat} {c : Nat → Nat} (h : cwf n c q) (hv : v < n) : cwf n (pa c n v) (paq c n v q) := by
  unfold pa paq
  by_cases z : 1 < cz c n (c v)
  · rw [if_pos z, if_pos z]; exact ap_cwf h hv z
  · rw [if_neg z, if_neg z]; exact h
def bss (G : Gr) (set : Nat) (v : Nat) : (Nat → Nat) × Nat := it (fun v (x : (Nat → Nat) × Nat) => if set.testBit v = true then (pa x.1 (gn G) v, paq x.1 (gn G) v x.2) else x) v ((st G).1, (st G).2.1)
def bsq (G : Gr) (set : Nat) : Nat := (rfn G (bss G set (gn G)).1 (bss G set (gn G)).2).2.1
theorem bss_cwf {G : Gr} (hG : gWF G) (set : Nat) : ∀ v, v ≤ gn G → cwf (gn G) (bss G set v).1 (bss G set v).2 := by
  intro v
  induction v with
  | zero => intro _; exact st_cwf hG
  | succ v ih =>
    intro hv
    have h := ih (by omega)
    show cwf (gn G) (if _ then _ else _ : (Nat → Nat) × Nat).1 (if _ then _ else _ : (Nat → Nat) × Nat).2
    by_cases z : set.testBit v = true
    · rw [if_pos z]; exact pa_cwf h (by omega)
    · rw [if_neg z]; exact h
theorem bss_y {G : Gr} {set v : Nat} (h : set.testBit v = true) : bss G set (v + 1) = (pa (bss G set v).1 (gn G) v, paq (bss G set v).1 (gn G) v (bss G set v).2) := by
  show (if _ then _ else _) = _; rw [if_pos h]; rfl
theorem bss_n {G : Gr} {set v : Nat} (h : ¬ set.testBit v = true) : bss G set (v + 1) = bss G set v := by
  show (if _ then _ else _) = _; rw [if_neg h]; rfl
