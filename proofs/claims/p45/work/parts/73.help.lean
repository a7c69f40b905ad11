/-! helpers that the reading wants -/
theorem has_n {m : zm} {o n : Nat} {l : Int32} (h : l < 0 ∨ (¬ l < 0 ∧ nI n ≤ l)) (hp : m.1 o 0 = nI n) : ¬ tX1_has m o l := by
  rintro ⟨a, b⟩
  rw [hp] at b
  rcases h with h | h
  · exact a h
  · exact b h.2
section ZQ_
variable {g : zG} {gr : Bool} {e : Nat} {Q : Option Value → zH → Prop} {m : zm} {b : Nat → Nat} {n : Nat}
theorem s_dT_le {σ : Sr} (h : tkW b n σ.1) (h1 : s_k σ = 1) : s_d b σ ≤ 9 := by
  have := h.2.2.2.2.1 h1
  unfold s_d; show b σ.1.2.1 - 48 ≤ 9; omega
end ZQ_
theorem rAll_1 {b : Nat → Nat} {n : Nat} (h : ¬ isWd b (sr0 b n (gE 1)) w_size) : rAll b n = .inl (1, s_a (sr0 b n (gE 1))) := by unfold rAll; rw [if_pos h]
theorem rAll_2 {b : Nat → Nat} {n : Nat} (h : isWd b (sr0 b n (gE 1)) w_size) (h2 : ¬ s_k (s_n b n (sr0 b n (gE 1))) = 1) : rAll b n = .inl (1, s_a (s_n b n (sr0 b n (gE 1)))) := by unfold rAll; rw [if_neg (fun z => z h), if_pos h2]
theorem rAll_3 {b : Nat → Nat} {n : Nat} (h : isWd b (sr0 b n (gE 1)) w_size) (h2 : s_k (s_n b n (sr0 b n (gE 1))) = 1) (h3 : s_d b (s_n b n (sr0 b n (gE 1))) < 1 ∨ 7 < s_d b (s_n b n (sr0 b n (gE 1)))) : rAll b n = .inl (2, s_a (s_n b n (sr0 b n (gE 1)))) := by unfold rAll; rw [if_neg (fun z => z h), if_neg (fun z => z h2), if_pos h3]
theorem rAll_0 {b : Nat → Nat} {n : Nat} (h : isWd b (sr0 b n (gE 1)) w_size) (h2 : s_k (s_n b n (sr0 b n (gE 1))) = 1) (h3 : ¬ (s_d b (s_n b n (sr0 b n (gE 1))) < 1 ∨ 7 < s_d b (s_n b n (sr0 b n (gE 1))))) : rAll b n = rLines b n 401 (s_n b n ((s_n b n (sr0 b n (gE 1))).1, gE (s_d b (s_n b n (sr0 b n (gE 1)))), 0)) := by unfold rAll; rw [if_neg (fun z => z h), if_neg (fun z => z h2), if_neg h3]
