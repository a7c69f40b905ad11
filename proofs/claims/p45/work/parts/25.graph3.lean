/-! the class Graph's methods, three: turned, empty, a vertex more, one less -/
def tri (a b x y : Nat) : Prop := (x < a ∧ y < a) ∨ (x = a ∧ y < b) ∨ (y = a ∧ x < b)
noncomputable def tF (G : Gr) (f : Nat → Nat) (a b x y : Nat) : Nat := @ite Nat (x ≠ y ∧ tri a b x y) (Classical.propDecidable _) (f (gk G x y)) (gk G x y)
theorem tF_y {G : Gr} {f : Nat → Nat} {a b x y : Nat} (h : x ≠ y ∧ tri a b x y) : tF G f a b x y = f (gk G x y) := if_pos h
theorem tF_n {G : Gr} {f : Nat → Nat} {a b x y : Nat} (h : ¬ (x ≠ y ∧ tri a b x y)) : tF G f a b x y = gk G x y := if_neg h
theorem tF_0 {G : Gr} {f : Nat → Nat} (x y : Nat) : tF G f 0 0 x y = gk G x y := tF_n fun h => by have := h.2; unfold tri at this; omega
theorem tF_row {G : Gr} {f : Nat → Nat} (a x y : Nat) : tF G f a a x y = tF G f (a + 1) 0 x y := by
  by_cases h : x ≠ y ∧ tri a a x y
  · rw [tF_y h, tF_y ⟨h.1, by have := h.2; have := h.1; unfold tri at *; omega⟩]
  · rw [tF_n h, tF_n (fun z => h ⟨z.1, by have := z.2; have := z.1; unfold tri at *; omega⟩)]
theorem tF_step {G : Gr} (hG : gOK G) {f : Nat → Nat} {a b : Nat} (hb : b < a) (x y : Nat) : tF G f a (b + 1) x y = if pr2 a b x y = true then f (gk G a b) else tF G f a b x y := by
  by_cases p : pr2 a b x y = true
  · rw [if_pos p]
    rcases pr2_iff.mp p with ⟨rfl, rfl⟩ | ⟨rfl, rfl⟩
    · exact tF_y ⟨by omega, by unfold tri; omega⟩
    · rw [tF_y ⟨by omega, by unfold tri; omega⟩, hG.2.2.1]
  · rw [if_neg p]
    have q := mt pr2_iff.mpr p
    by_cases h : x ≠ y ∧ tri a b x y
    · rw [tF_y h, tF_y ⟨h.1, by have := h.2; unfold tri at *; omega⟩]
    · rw [tF_n h, tF_n (fun z => h ⟨z.1, by have := z.2; unfold tri at *; omega⟩)]
def lo_ (v i x : Nat) : Nat := if x < v then x else if x < i then x + 1 else if x = i then v else x
theorem lo_v (v x : Nat) : lo_ v v x = x := by
  unfold lo_
  by_cases h1 : x < v
  · rw [if_pos h1]
  · rw [if_neg h1, if_neg h1]
    by_cases h2 : x = v
    · rw [if_pos h2]; exact h2.symm
    · rw [if_neg h2]
section ZGr
variable {g : zG} {gr : Bool} {e : Nat} {m : zm} {Q : Option Value → zH → Prop}
theorem k_empty {o n : Nat} {G : Gr} (ho : sX1 o) (he : 1 ≤ e) (hG : gOK G) (hp : pG m o G) (H : ∀ m', pG m' o (gE n) → fz o (o + 15) m m' → Q none (mk m')) : Ok g gr e mX1_empty 0 0 [.ref o, .int (nI n)] (mk m) Q := by
  obtain ⟨d, rfl⟩ := dn he
  refine b_X1_empty_0 ho (up_to (n := 7) (P := fun a => ∀ m', pG m' o (gn G, (fun v => if v < a then 0 else gc G v), tF G (fun _ => 0) a 0) → fz o (o + 15) m m' → WP g gr (d + 1) mX1_empty 0 0 2 [.ref o, .int (nI n), .int (nI a), .retAddr 0] [] (mk m') Q) ?_ ?_ 0 (Nat.zero_le _) m (pG_cong hp rfl (fun _ _ => rfl) (fun x y _ _ => (tF_0 (G := G) (f := fun _ => 0) x y).symm)) (fz_refl _ _ _))
  · intro m' h1 h2
    refine b_X1_empty_2 ho (pk_le 7 7 (fun _ => H _ ⟨?_, fun v hv => ?_, fun x y hx hy => ?_, fun k x hk hx => ?_⟩ (fz_trans h2 fz_wI)) (fun z => absurd z (Nat.lt_irrefl _)))
    · exact rI_s
    · rw [rI_n (by omega), h1.2.1 v hv]
      show nI (if v < 7 then 0 else gc G v) = nI 0
      rw [if_pos hv]
    · rw [rI_n (by omega), h1.2.2.1 x y hx hy]
      show nI (tF G (fun _ => 0) 7 0 x y) = nI 0
      by_cases z : x = y
      · rw [tF_n (fun w => w.1 z), z, hG.2.2.2]
      · rw [tF_y ⟨z, by unfold tri; omega⟩]
    · rw [rI_n (by omega), h1.2.2.2 k x hk hx]
      congr 1
      refine bm_cong fun y hy => ?_
      show lk k (tF G (fun _ => 0) 7 0 x y) = lk k 0
      congr 1
      by_cases z : x = y
      · rw [tF_n (fun w => w.1 z), z, hG.2.2.2]
      · rw [tF_y ⟨z, by unfold tri; omega⟩]
  · intro a ha ih m' h1 h2
    refine b_X1_empty_2 ho (pk_le 7 a (fun z => by omega) (fun _ => ⟨pk_in a 7 ha, ?_⟩))
    rw [nI_clamp (show a < 2 ^ 31 by omega)]
    refine up_to (n := a) (P := fun b => ∀ m', pG m' o (gn G, (fun v => if v < a + 1 then 0 else gc G v), tF G (fun _ => 0) a b) → fz o (o + 15) m m' → WP g gr (d + 1) mX1_empty 0 0 17 [.ref o, .int (nI n), .int (nI a), .int (nI b)] [] (mk m') Q) ?_ ?_ 0 (Nat.zero_le _) _ ⟨?_, fun v hv => ?_, fun x y hx hy => ?_, fun k x hk hx => ?_⟩ (fz_trans h2 fz_wI)
    · intro m2 p2 f2
      refine b_X1_empty_17 ho (pk_le a a (fun _ => ?_) (fun z => absurd z (Nat.lt_irrefl _)))
      rw [nI_1]
      exact ih m2 (pG_cong p2 rfl (fun _ _ => rfl) (fun x y _ _ => tF_row (G := G) (f := fun _ => 0) a x y)) f2
    · intro b hb ih2 m2 p2 f2
      refine b_X1_empty_17 ho (pk_le a b (fun z => by omega) (fun _ => ?_))
      refine k_join (k := 0) ho p2 (by omega) (by omega) (by omega) (by decide) (fun m3 p3 f3 => ?_)
      refine b_X1_empty_29 ho ?_
      rw [nI_1]
      exact ih2 m3 (pG_cong p3 rfl (fun _ _ => rfl) (fun x y _ _ => (tF_step (f := fun _ => 0) hG hb x y).symm)) (fz_trans f2 f3)
    · rw [rI_n (by omega)]; exact h1.1
    · show _ = nI (if v < a + 1 then 0 else gc G v)
      by_cases z : v = a
      · subst z; rw [rI_s, if_pos (Nat.lt_succ_self _)]; rfl
      · rw [rI_n (fun w => z w.2), h1.2.1 v hv]
        show nI (if v < a then 0 else gc G v) = _
        by_cases z2 : v < a
        · rw [if_pos z2, if_pos (by omega)]
        · rw [if_neg z2, if_neg (by omega)]
    · rw [rI_n (by omega)]; exact h1.2.2.1 x y hx hy
    · rw [rI_n (by omega)]; exact h1.2.2.2 k x hk hx
end ZGr
