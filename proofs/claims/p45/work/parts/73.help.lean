/-! helpers that the reading wants -/
theorem has_n {m : zm} {o n : Nat} {l : Int32} (h : l < 0 ∨ (¬ l < 0 ∧ nI n ≤ l)) (hp : m.1 o 0 = nI n) : ¬ tX1_has m o l := by
  rintro ⟨a, b⟩
  rw [hp] at b
  rcases h with h | h
  · exact a h
  · exact b h.2
section ZQ_
variable {g : zG} {gr : Bool} {e : Nat} {Q : Option Value → zH → Prop} {m : zm} {b : Nat → Nat} {n : Nat}
theorem s_dT_le {σ : Sr} (h : tkW b n σ.1) (h1 : s_k σ = 1) : s_d b σ ≤ 9 := by
  have := h.2.2.2.2.1 h1
  unfold s_d; show b σ.1.2.1 - 48 ≤ 9; omega
end ZQ_
theorem rLines_1 {b : Nat → Nat} {n f : Nat} {σ : Sr} (h : ¬ s_k σ = 3) (h2 : ¬ s_k σ = 0) : rLines b n (f + 1) σ = .inl (1, s_a σ) := by
  conv => lhs; unfold rLines
  rw [if_neg h, if_neg h2]
theorem rLines_W {b : Nat → Nat} {n : Nat} : ∀ (f : Nat) (σ : Sr), srW b n σ → ∀ τ, rLines b n f σ = .inr τ → srW b n τ := by
  intro f
  induction f with
  | zero => intro σ h τ e; cases e; exact h
  | succ f ih =>
    intro σ h τ e
    by_cases h1 : s_k σ = 3
    · cases hl : rLine b n (s_n b n σ) with
      | inl y => rw [rLines_e h1 hl] at e; cases e
      | inr υ => rw [rLines_i h1 hl] at e; exact ih υ (rLine_W (s_n_W h).1 υ hl).1 τ e
    · by_cases h2 : s_k σ = 0
      · rw [rLines_0 h2] at e; cases e; exact h
      · rw [rLines_1 h1 h2] at e; cases e
theorem rAll_1 {b : Nat → Nat} {n : Nat} (h : ¬ isWd b (sr0 b n (gE 1)) w_size) : rAll b n = .inl (1, s_a (sr0 b n (gE 1))) := by unfold rAll; rw [if_pos h]
theorem rAll_2 {b : Nat → Nat} {n : Nat} (h : isWd b (sr0 b n (gE 1)) w_size) (h2 : ¬ s_k (s_n b n (sr0 b n (gE 1))) = 1) : rAll b n = .inl (1, s_a (s_n b n (sr0 b n (gE 1)))) := by unfold rAll; rw [if_neg (fun z => z h), if_pos h2]
theorem rAll_3 {b : Nat → Nat} {n : Nat} (h : isWd b (sr0 b n (gE 1)) w_size) (h2 : s_k (s_n b n (sr0 b n (gE 1))) = 1) (h3 : s_d b (s_n b n (sr0 b n (gE 1))) < 1 ∨ 7 < s_d b (s_n b n (sr0 b n (gE 1)))) : rAll b n = .inl (2, s_a (s_n b n (sr0 b n (gE 1)))) := by unfold rAll; rw [if_neg (fun z => z h), if_neg (fun z => z h2), if_pos h3]
theorem rAll_0 {b : Nat → Nat} {n : Nat} (h : isWd b (sr0 b n (gE 1)) w_size) (h2 : s_k (s_n b n (sr0 b n (gE 1))) = 1) (h3 : ¬ (s_d b (s_n b n (sr0 b n (gE 1))) < 1 ∨ 7 < s_d b (s_n b n (sr0 b n (gE 1))))) : rAll b n = rLines b n 401 (s_n b n ((s_n b n (sr0 b n (gE 1))).1, gE (s_d b (s_n b n (sr0 b n (gE 1)))), 0)) := by unfold rAll; rw [if_neg (fun z => z h), if_neg (fun z => z h2), if_neg h3]
theorem sr0_T (b : Nat → Nat) (n : Nat) (G : Gr) : tkW b n (sr0 b n G).1 := (tk_W b (Nat.zero_le n)).1
theorem s_n_T {b : Nat → Nat} {n : Nat} {σ : Sr} (h : tkW b n σ.1) : tkW b n (s_n b n σ).1 ∧ s_x σ ≤ s_a (s_n b n σ) := tk_W b h.2.1
theorem srL_W {b : Nat → Nat} {n : Nat} (h3 : ¬ (s_d b (s_n b n (sr0 b n (gE 1))) < 1 ∨ 7 < s_d b (s_n b n (sr0 b n (gE 1))))) : srW b n (s_n b n ((s_n b n (sr0 b n (gE 1))).1, gE (s_d b (s_n b n (sr0 b n (gE 1)))), 0)) := by
  refine ⟨(s_n_T (σ := ((s_n b n (sr0 b n (gE 1))).1, gE (s_d b (s_n b n (sr0 b n (gE 1)))), 0)) (s_n_T (sr0_T b n (gE 1))).1).1, gE_WF (n := s_d b (s_n b n (sr0 b n (gE 1)))) ⟨by omega, by omega⟩, by show (0 : Nat) < 128; decide⟩
theorem rAll_W {b : Nat → Nat} {n : Nat} : ∀ τ, rAll b n = .inr τ → srW b n τ := by
  classical
  intro τ e
  unfold rAll at e
  split at e
  · cases e
  · split at e
    · cases e
    · split at e
      · cases e
      · rename_i h1 h2 h3
        exact rLines_W _ _ (srL_W h3) τ e
