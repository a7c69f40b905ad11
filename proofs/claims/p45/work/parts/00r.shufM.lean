/-! a shuffled graph is alike -/
theorem gX_iso {G : Gr} {a b : Nat} (ha : a < gn G) (hb : b < gn G) : iso G (gX G a b) (tr a b) :=
  ⟨rfl, ⟨fun i hi => tr_lt ha hb hi, fun i j _ _ e => tr_inj e⟩, fun v _ => by show gc G (tr a b (tr a b v)) = _; rw [tr_tr], fun x y _ _ => by show gk G (tr a b (tr a b x)) (tr a b (tr a b y)) = _; rw [tr_tr, tr_tr]⟩
theorem mxs_iso : ∀ (i x : Nat) (G : Gr) (c : Nat), i < gn G → ∃ f, iso G (mxs i x G c).1 f := by
  intro i
  induction i with
  | zero => intro x G c _; exact ⟨_, iso_id G⟩
  | succ i ih =>
    intro x G c hi
    show ∃ f, iso G (if dw x % (i + 2) = i + 1 then mxs i (dw x) G c else mxs i (dw x) (gX G (i + 1) (dw x % (i + 2))) (c + 1)).1 f
    by_cases h : dw x % (i + 2) = i + 1
    · rw [if_pos h]; exact ih (dw x) G c (by omega)
    · rw [if_neg h]
      have hm : dw x % (i + 2) < i + 2 := Nat.mod_lt _ (by omega)
      obtain ⟨f, hf⟩ := ih (dw x) (gX G (i + 1) (dw x % (i + 2))) (c + 1) (by show i < gn G; omega)
      exact ⟨_, iso_comp (gX_iso hi (by omega)) hf⟩
theorem mxs_c : ∀ (i x : Nat) (G : Gr) (c : Nat), (mxs i x G c).2 ≤ c + i := by
  intro i
  induction i with
  | zero => intro x G c; exact Nat.le_refl _
  | succ i ih =>
    intro x G c
    show (if dw x % (i + 2) = i + 1 then mxs i (dw x) G c else mxs i (dw x) (gX G (i + 1) (dw x % (i + 2))) (c + 1)).2 ≤ _
    split
    · have := ih (dw x) G c; omega
    · have := ih (dw x) (gX G (i + 1) (dw x % (i + 2))) (c + 1); omega
