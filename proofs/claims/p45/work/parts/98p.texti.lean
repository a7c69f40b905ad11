/-! text(): what holds while a text grows -/
section ZTextI
variable {g : zG} {gr : Bool} {d : Nat} {M M2 : zM} {C S pc : Nat} {ls st st0 : List Value} {h h' : zH} {Q : Option Value → zH → Prop} {m : zm} {a0 t : Nat} {L : List Nat}
theorem wI_wI {a k : Nat} {v w : Int32} : wI (wI m a k v) a k w = wI m a k w := by
  refine Prod.ext (funext fun b => funext fun j => ?_) rfl
  rw [wI_1, wI_1, wI_1]
  split <;> rfl
theorem zag_hkp {x y y' c : Nat} (ag : zag h m) (k : hkp h h' x y y' c) (hx : 811 ≤ x) (hy : 811 ≤ y) : zag h' m := by
  refine ⟨Nat.le_trans ag.1 k.1, fun a ha => ?_⟩
  have hz : a < z_z h := Nat.lt_of_lt_of_le ha ag.1
  obtain ⟨e1, e2⟩ := k.2.2.2 a hz
  obtain ⟨f1, f2⟩ := ag.2 a ha
  refine ⟨e1.trans f1, fun j => ?_⟩
  obtain ⟨p1, p2, p3⟩ := e2 (by omega) (by omega) j
  obtain ⟨q1, q2, q3⟩ := f2 j
  exact ⟨p1.trans q1, p2.trans q2, p3.trans q3⟩
theorem zag_keep {c : Nat} (ag : zag h m) (k : hkeep h h' c) : zag h' m := by
  refine ⟨Nat.le_trans ag.1 k.1, fun a ha => ?_⟩
  have hz : a < z_z h := Nat.lt_of_lt_of_le ha ag.1
  obtain ⟨e1, e2⟩ := k.2.2 a hz
  obtain ⟨f1, f2⟩ := ag.2 a ha
  refine ⟨e1.trans f1, fun j => ?_⟩
  obtain ⟨p1, p2, p3⟩ := e2 j
  obtain ⟨q1, q2, q3⟩ := f2 j
  exact ⟨p1.trans q1, p2.trans q2, p3.trans q3⟩
theorem zag_new {u n : Nat} (ag : zag h m) : zag (hnew h u n) m := by
  refine ⟨Nat.le_succ_of_le ag.1, fun a ha => ?_⟩
  have hz : ¬ a = z_z h := by have := ag.1; omega
  obtain ⟨f1, f2⟩ := ag.2 a ha
  refine ⟨by rw [hnew_T, if_neg hz]; exact f1, fun j => ?_⟩
  obtain ⟨q1, q2, q3⟩ := f2 j
  exact ⟨by rw [hnew_R, if_neg hz]; exact q1, by rw [hnew_L, if_neg hz]; exact q2, by rw [hnew_I, if_neg hz]; exact q3⟩
/-- a builder stays where others are written -/
theorem sBx_hkp {x y n u v w c : Nat} {l : List Nat} (s : sBx h x y l n) (k : hkp h h' u v w c) (h1 : x ≠ u) (h2 : x ≠ v) (h3 : y ≠ u) (h4 : y ≠ v) : sBx h' x y l n := by
  obtain ⟨s1, s2, s3, s4, s5, s6, s7, s8, s9, s10⟩ := s
  have kx := (k.2.2.2 x s4.2.1).2 h1 h2
  have ky := (k.2.2.2 y s8.2.1).2 h3 h4
  exact ⟨s1, s2, s3, hkp_isA k s4, ((kx 0).1).trans s5, ((kx 1).2.2).trans s6, ((kx 3).2.2).trans s7, hkp_isA k s8, fun j hj => by rw [(ky j).2.2]; exact s9 j hj, fun j hj => ((ky j).2.2).trans (s10 j hj)⟩
theorem sBx_keep {x y n c : Nat} {l : List Nat} (s : sBx h x y l n) (k : hkeep h h' c) : sBx h' x y l n :=
  sBx_hkp (u := 0) (v := 0) (w := 0) (c := c) s ⟨k.1, k.2.1, Or.inl rfl, fun a ha => ⟨(k.2.2 a ha).1, fun _ _ => (k.2.2 a ha).2⟩⟩ (by have := s.2.2.1; omega) (by have := s.2.2.1; omega) (by have := s.2.2.1; omega) (by have := s.2.2.1; omega)
theorem sBx_put {x y n : Nat} {l : List Nat} {m' : zm} (s : sBx h x y l n) : sBx (hput h m') x y l n := by
  obtain ⟨s1, s2, s3, s4, s5, s6, s7, s8, s9, s10⟩ := s
  have ex : ∀ k, z_I (hput h m') x k = z_I h x k := fun k => hput_I s3.1
  have ey : ∀ k, z_I (hput h m') y k = z_I h y k := fun k => hput_I s3.2.1
  exact ⟨s1, s2, s3, s4, s5, (ex 1).trans s6, (ex 3).trans s7, s8, fun j hj => by rw [ey]; exact s9 j hj, fun j hj => (ey j).trans (s10 j hj)⟩
theorem zag_isA {t n a : Nat} (ag : zag h m) (ha : sA a t n) : z_isA h a t n := ⟨ha.1, Nat.lt_of_lt_of_le ha.2.1 ag.1, ((ag.2 a ha.2.1).1).trans ha.2.2⟩
/-- while text() grows: the builder at 811 holds L, Draws stands at a; t counts what was done -/
def tI (m : zm) (a0 t : Nat) (h : zH) (L : List Nat) : Prop := ∃ y n a, sBx h 811 y L n ∧ zag h (wI m 810 1 (nI a)) ∧ a ≤ a0 + t ∧ z_z h ≤ 812 + 3 * t
theorem tI_le {t2 : Nat} (i : tI m a0 t h L) (ht : t ≤ t2) : tI m a0 t2 h L := by
  obtain ⟨y, n, a, s, ag, h1, h2⟩ := i
  exact ⟨y, n, a, s, ag, by omega, by omega⟩
abbrev B1 (t : Nat) : Nat := 3 * (600 - t)
abbrev B2 (t : Nat) : Nat := 704 * (600 - t)
abbrev WT (g : zG) (d t pc : Nat) (ls st : List Value) (h : zH) (Q : Option Value → zH → Prop) : Prop := WP g true (d + 12) mL_text (B1 t) (B2 t) pc ls st h Q
theorem WT_le {t2 : Nat} (ht : t ≤ t2) (k : WT g d t2 pc ls st h Q) : WT g d t pc ls st h Q := WP_mono (by unfold B1; omega) (by unfold B2; omega) k
theorem r_810_1 {a : Nat} : (wI m 810 1 (nI a)).1 810 1 = nI a := by rw [wI_1, if_pos ⟨rfl, rfl⟩]
theorem t_draw {lo hi : Nat} (i : tI m a0 t h L) (hN : g_N g < 2 ^ 31) (ha : a0 + t + 1 < 2 ^ 31) (hlh : lo ≤ hi) (hhi : hi + 1 < 2 ^ 31) (hd : decode cL_text pc = .ok (.invokevirtual 27, 3)) (hcat : (st.map fun v => v.category).sum ≤ 8) (K : ∀ h' v, tI m a0 (t + 1) h' L → lo ≤ v → v ≤ hi → WT g d (t + 1) (pc + 3) ls (.int (nI v) :: st) h' Q) : WT g d t pc ls (.int (nI hi) :: .int (nI lo) :: .ref 810 :: st) h Q := by
  obtain ⟨y, n, a, s, ag, h1, h2⟩ := i
  refine r_callV (d := d + 11) (C1 := 0) (S1 := 0) (C2 := B1 t) (S2 := B2 t) [.int (nI lo), .int (nI hi)] st 2 hd lk_L_27 md_X10_next (ci := 9) rfl rfl (by decide) (zag_isA ag a_810) rfl rfl hcat (by omega) (by omega) ?_
  refine fr_ok (P := fun r m' => ∃ v, lo ≤ v ∧ v ≤ hi ∧ r = some (.int (nI v)) ∧ m' = wI m 810 1 (nI (a + 1))) ag (fun v hv => ?_) (fun r m' hp => ?_) (fun H0 => k_next (g := zfr g H0) (a := a) hN (by omega) hlh hhi r_810_1 (fun x h3 h4 => ⟨_, rfl, x, h3, h4, rfl, wI_wI⟩))
  · simp only [List.mem_cons, List.not_mem_nil, or_false] at hv
    rcases hv with rfl | rfl | rfl
    · exact Or.inl (by decide)
    · exact trivial
    · exact trivial
  · obtain ⟨v, h3, h4, rfl, rfl⟩ := hp
    refine ⟨fun v hv => by cases hv; exact trivial, ?_⟩
    exact WT_le (Nat.le_succ t) (K _ v ⟨y, n, a + 1, sBx_put s, zag_put ag, by omega, by show z_z h ≤ _; omega⟩ h3 h4)
theorem t_appC {c : Nat} (i : tI m a0 t h L) (ht : t < 600) (hL : L.length + 1 ≤ 300) (hc : c < 128) (hd : decode cL_text pc = .ok (.invokevirtual 48, 3)) (hcat : (st.map fun v => v.category).sum ≤ 8) (K : ∀ h', tI m a0 (t + 1) h' (L ++ [c]) → WT g d (t + 1) (pc + 3) ls (.ref 811 :: st) h' Q) : WT g d t pc ls (.int (nI c) :: .ref 811 :: st) h Q := by
  obtain ⟨y, n, a, s, ag, h1, h2⟩ := i
  have hzt : z_top = 1000000 := rfl
  refine r_callV (d := d + 11) (C1 := 1) (S1 := 600) (C2 := B1 t - 1) (S2 := B2 t - 600) [.int (nI c)] st 1 hd lk_L_48 md_J4_append_cf468 (ci := 11) rfl rfl (by decide) s.2.2.2.1 rfl rfl hcat (by unfold B1; omega) (by unfold B2; omega) (u_appC (by omega) s hc hL ag.1 (by omega) (fun h2 y2 n2 f1 f2 => ?_))
  exact WP_mono (by unfold B1; omega) (by unfold B2; omega) (K _ ⟨y2, n2, a, f1, zag_hkp ag f2 (Nat.le_refl _) s.2.2.1.2.1, by omega, by have := f2.2.1; omega⟩)
theorem t_appI {v : Nat} (i : tI m a0 t h L) (ht : t < 600) (hL : L.length + 1 ≤ 300) (hv : v < 10) (hd : decode cL_text pc = .ok (.invokevirtual 39, 3)) (hcat : (st.map fun v => v.category).sum ≤ 8) (K : ∀ h', tI m a0 (t + 1) h' (L ++ [48 + v]) → WT g d (t + 1) (pc + 3) ls (.ref 811 :: st) h' Q) : WT g d t pc ls (.int (nI v) :: .ref 811 :: st) h Q := by
  obtain ⟨y, n, a, s, ag, h1, h2⟩ := i
  have hzt : z_top = 1000000 := rfl
  refine r_callV (d := d + 11) (C1 := 1) (S1 := 600) (C2 := B1 t - 1) (S2 := B2 t - 600) [.int (nI v)] st 1 hd lk_L_39 md_J4_append_bf812 (ci := 11) rfl rfl (by decide) s.2.2.2.1 rfl rfl hcat (by unfold B1; omega) (by unfold B2; omega) (u_appI (by omega) s hv hL ag.1 (by omega) (fun h2 y2 n2 f1 f2 => ?_))
  exact WP_mono (by unfold B1; omega) (by unfold B2; omega) (K _ ⟨y2, n2, a, f1, zag_hkp ag f2 (Nat.le_refl _) s.2.2.1.2.1, by omega, by have := f2.2.1; omega⟩)
/-- a constant, loaded and appended -/
theorem t_appK {k : Nat} (i : tI m a0 t h L) (ht : t < 600) (hk : k < 11) (hL : L.length + (tC k).length ≤ 300) (hd : decode cL_text pc = .ok (.invokevirtual 45, 3)) (hcat : (st.map fun v => v.category).sum ≤ 8) (K : ∀ h', tI m a0 (t + 1) h' (L ++ tC k) → WT g d (t + 1) (pc + 3) ls (.ref 811 :: st) h' Q) : WT g d t pc ls (.ref (z_top + k) :: .ref 811 :: st) h Q := by
  obtain ⟨y, n, a, s, ag, h1, h2⟩ := i
  have hzt : z_top = 1000000 := rfl
  have hyl := s.2.2.2.2.2.2.2.1.2.1
  refine r_callV (d := d + 11) (C1 := 1) (S1 := 600) (C2 := B1 t - 1) (S2 := B2 t - 600) [.ref (z_top + k)] st 1 hd lk_L_45 md_J4_append_15ec4 (ci := 11) rfl rfl (by decide) s.2.2.2.1 rfl rfl hcat (by unfold B1; omega) (by unfold B2; omega) (u_appS (by omega) s (tS_con hk) (by omega) hL ag.1 (by omega) (fun h2 y2 n2 f1 f2 => ?_))
  exact WP_mono (by unfold B1; omega) (by unfold B2; omega) (K _ ⟨y2, n2, a, f1, zag_hkp ag f2 (Nat.le_refl _) s.2.2.1.2.1, by omega, by have := f2.2.1; omega⟩)
end ZTextI
