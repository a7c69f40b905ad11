/-! THE FRAME RULE: a call proved over the object alone, within a heap that has cells behind it -/
section ZFrame
variable {g : zG} {h : zH} {m m' : zm} {H H' : Heap} {d : Nat} {M : zM} {C S : Nat}
def zfr (g : zG) (H : Heap) : zG := (g_l g, g_B g, (g_b g, g_N g, g_xs g), g_D g, (fun q => if q + 1 < g_B g then g_w g q else H[q]?), g_s g, H.size)
/-- the first cells of h are those of m -/
def zag (h : zH) (m : zm) : Prop := 811 ≤ z_z h ∧ ∀ a, a < 811 → z_T h a = T0 a ∧ ∀ k, z_R h a k = R0 a k ∧ z_L h a k = m.2 a k ∧ z_I h a k = m.1 a k
def hput (h : zH) (m : zm) : zH := (z_z h, z_T h, z_R h, fun a k => if a < 811 then m.2 a k else z_L h a k, fun a k => if a < 811 then m.1 a k else z_I h a k)
theorem zag_put (ag : zag h m) : zag (hput h m') m' := ⟨ag.1, fun a ha => ⟨(ag.2 a ha).1, fun k => ⟨((ag.2 a ha).2 k).1, if_pos ha, if_pos ha⟩⟩⟩
theorem zag_mk : zag (mk m) m := ⟨Nat.le_refl _, fun a ha => ⟨rfl, fun k => ⟨rfl, rfl, rfl⟩⟩⟩
theorem hput_I {a k : Nat} (ha : 811 ≤ a) : z_I (hput h m) a k = z_I h a k := if_neg (by omega)
theorem hput_L {a k : Nat} (ha : 811 ≤ a) : z_L (hput h m) a k = z_L h a k := if_neg (by omega)
theorem hput_z : z_z (hput h m) = z_z h := rfl
theorem hput_T : z_T (hput h m) = z_T h := rfl
theorem hput_R : z_R (hput h m) = z_R h := rfl
theorem r0_lt {a k b : Nat} (h : R0 a k = some b) : b < 811 := by
  have key : ∀ l ∈ r0l, ∀ o ∈ l, o.all (fun b => decide (b < 811)) = true := by decide +kernel
  unfold R0 at h
  rcases Nat.lt_or_ge a r0l.length with h1 | h1
  · rw [List.getD_eq_getElem?_getD, List.getD_eq_getElem?_getD, List.getElem?_eq_getElem h1] at h
    simp only [Option.getD_some] at h
    have hm := List.getElem_mem h1
    generalize r0l[a] = l at h hm
    rcases Nat.lt_or_ge k l.length with h2 | h2
    · rw [List.getElem?_eq_getElem h2] at h
      simp only [Option.getD_some] at h
      have h3 := key l hm _ (List.getElem_mem h2)
      rw [h] at h3
      simpa using h3
    · rw [List.getElem?_eq_none h2] at h
      cases h
  · rw [List.getD_eq_getElem?_getD, List.getD_eq_getElem?_getD, List.getElem?_eq_none h1] at h
    cases h
theorem z_rho_fr {a : Nat} (ha : a < 811 ∨ z_top ≤ a) : z_rho (zfr g H) a = z_rho g a := by
  unfold z_rho
  by_cases h0 : a = 0
  · rw [if_pos h0, if_pos h0]; rfl
  rw [if_neg h0, if_neg h0]
  by_cases h1 : a < 810
  · rw [if_pos h1, if_pos h1]; rfl
  rw [if_neg h1, if_neg h1]
  by_cases h2 : a = 810
  · rw [if_pos h2, if_pos h2]; rfl
  rw [if_neg h2, if_neg h2]
  have h3 : ¬ a < z_top := by unfold z_top at ha ⊢; omega
  rw [if_neg h3, if_neg h3]; rfl
theorem fr_vl (ag : zag h m) {a : Nat} (ha : a < 811) (k : Nat) : z_vl (zfr g H) (mk m) a k = z_vl g h a k := by
  obtain ⟨e1, e2⟩ := ag.2 a ha
  obtain ⟨e3, e4, e5⟩ := e2 k
  unfold z_vl
  rw [e1, e3, e4, e5]
  show (if z_sk (T0 a).1 k = 2 then Value.long (m.2 a k) else if z_sk (T0 a).1 k = 3 then va_rf ((R0 a k).map (z_rho (zfr g H))) else .int (m.1 a k)) = _
  have : (R0 a k).map (z_rho (zfr g H)) = (R0 a k).map (z_rho g) := by
    cases hr : R0 a k with
    | none => rw [Option.map_none, Option.map_none]
    | some b => show some _ = some _; rw [z_rho_fr (Or.inl (r0_lt hr))]
  rw [this]
theorem fr_cell (ag : zag h m) {a : Nat} (ha : a < 811) (H2 : Heap) : z_cell (zfr g H) (mk m) a H2 ↔ z_cell g h a H2 := by
  have e1 : z_T (mk m) a = z_T h a := ((ag.2 a ha).1).symm
  have e2 : z_vl (zfr g H) (mk m) a = z_vl g h a := funext fun k => fr_vl ag ha k
  have e3 := z_rho_fr (g := g) (H := H) (a := a) (Or.inl ha)
  unfold z_cell
  rw [e1, e2, e3]
  exact Iff.rfl
theorem fr_to (rel : z_Rel g true h H) (ag : zag h m) : z_Rel (zfr g H) true (mk m) H := by
  obtain ⟨r1, r2, ⟨r3, r4, r5, r6⟩, r7⟩ := rel
  have hz := ag.1
  have r6 := r6 (by omega)
  have e2 : H.size = z_nx g (z_z h) := by simpa using r2
  unfold z_nx at e2
  rw [if_neg (by omega)] at e2
  refine ⟨fun q hq => ?_, ?_, ⟨by show 1 ≤ 811; omega, by show 811 < 1000000; omega, r5, fun _ => by show g_B g + 809 ≤ H.size; omega⟩, fun a a0 a1 => (fr_cell ag a1 H).mpr (r7 a a0 (Nat.lt_of_lt_of_le a1 hz))⟩
  · show H[q]? = if q + 1 < g_B g then g_w g q else H[q]?
    split
    · rename_i h1
      exact r1 q (by unfold z_kn; rw [if_neg (by omega)]; exact Or.inl h1)
    · rfl
  · show (if true = true then H.size = H.size + (811 - 811) else _)
    rw [if_pos rfl]; omega
theorem fr_of (rel : z_Rel g true h H) (ag : zag h m) (rel2 : z_Rel (zfr g H) true (mk m') H') : z_Rel g true (hput h m') H' := by
  obtain ⟨r1, r2, ⟨r3, r4, r5, r6⟩, r7⟩ := rel
  obtain ⟨s1, s2, -, s7⟩ := rel2
  have hz := ag.1
  have r6 := r6 (by omega)
  have e2 : H.size = z_nx g (z_z h) := by simpa using r2
  have e2' := e2
  unfold z_nx at e2'
  rw [if_neg (by omega)] at e2'
  have e3 : H'.size = H.size := by
    have : H'.size = z_nx (zfr g H) 811 := by simpa using s2
    exact this
  have s1' : ∀ q, (q + 1 < g_B g → H'[q]? = g_w g q) ∧ (g_B g + 809 ≤ q → q < H.size → H'[q]? = H[q]?) := fun q => by
    refine ⟨fun h1 => ?_, fun h1 h2 => ?_⟩
    · refine (s1 q (by unfold z_kn; rw [if_neg (show ¬ (811 : Nat) ≤ 810 by decide)]; exact Or.inl h1)).trans (if_pos h1)
    · exact (s1 q (by unfold z_kn; rw [if_neg (show ¬ (811 : Nat) ≤ 810 by decide)]; exact Or.inr ⟨h1, h2⟩)).trans (if_neg (by omega))
  refine ⟨fun q hq => ?_, ?_, ⟨r3, r4, r5, fun _ => r6⟩, fun a a0 a1 => ?_⟩
  · have hq : z_kn g (z_z h) q := hq
    have hq2 := hq
    unfold z_kn at hq2
    rw [if_neg (by omega)] at hq2
    rcases hq2 with h1 | ⟨h1, h2⟩
    · exact (s1' q).1 h1
    · exact ((s1' q).2 h1 (by omega)).trans (r1 q hq)
  · show (if true = true then H'.size = z_nx g (z_z h) else _)
    rw [if_pos rfl]; omega
  · have a1 : a < z_z h := a1
    by_cases ha : a < 811
    · exact (fr_cell (zag_put ag) ha H').mp (s7 a a0 ha)
    · have er := z_rho_3 (g := g) (a := a) (by omega) (by omega)
      refine z_cell_kept (r7 a a0 a1) rfl (fun k => ?_) ((s1' _).2 (by omega) (by omega))
      unfold z_vl
      rw [hput_I (by omega), hput_L (by omega)]; rfl
theorem fr_KK {U : State} (kk : z_KK g U) : z_KK (zfr g H) U := by
  obtain ⟨h1, h2, h3, h4, scr, e1, e2, e3, e4, e5, e6, H0, t1, t2, t3, t4, t5, t6⟩ := kk
  refine ⟨h1, h2, h3, h4, scr, ?_, e2, e3, e4, e5, e6, H0, t1, fun q hq => ?_, t3, t4, t5, t6⟩
  · show (if g_b g + 1 < g_B g then g_w g (g_b g) else _) = _
    rw [if_pos e6]; exact e1
  · refine (t2 q hq).trans ?_
    have hq : q + 1 < g_B g := hq
    show g_w g q = if q + 1 < g_B g then g_w g q else _
    rw [if_pos hq]
/-- values that the frame doesn't move -/
def frv : Value → Prop
  | .ref a => a < 811 ∨ z_top ≤ a
  | _ => True
theorem fr_tr {v : Value} (hv : frv v) : z_tr (zfr g H) v = z_tr g v := by
  cases v with
  | ref a => exact congrArg Value.ref (z_rho_fr hv)
  | _ => rfl
theorem fr_trs {l : List Value} (hl : ∀ v ∈ l, frv v) : l.map (z_tr (zfr g H)) = l.map (z_tr g) := List.map_congr_left fun v hv => fr_tr (hl v hv)
theorem fr_ok {av : List Value} {Q : Option Value → zH → Prop} {P : Option Value → zm → Prop} (ag : zag h m) (hav : ∀ v ∈ av, frv v) (hP : ∀ r m', P r m' → (∀ v, r = some v → frv v) ∧ Q r (hput h m')) (ok : ∀ H0, Ok (zfr g H0) true d M C S av (mk m) (fun r h2 => ∃ m', h2 = mk m' ∧ P r m')) : Ok g true d M C S av h Q := by
  intro p e ha hc hk s mid args below hf happ hP1 _
  obtain ⟨rfl, kk, rel⟩ := hP1
  have h1 := ok s.heap p e ha hc hk s mid _ below hf happ ⟨by rw [fr_trs hav], fr_KK kk, fr_to rel ag⟩ trivial
  obtain ⟨n, o, a1, a2, a3, ⟨r, h2, rfl, ⟨m', rfl, hp⟩, rel2⟩, a4⟩ := h1
  obtain ⟨hv, hq⟩ := hP r m' hp
  refine ⟨n, _, a1, a2, a3, ⟨r, hput h m', ?_, hq, fr_of rel ag rel2⟩, a4⟩
  cases r with
  | none => rw [Option.map_none, Option.map_none]
  | some v => show Outcome.returned (some _) = Outcome.returned (some _); rw [fr_tr (hv v rfl)]
end ZFrame
