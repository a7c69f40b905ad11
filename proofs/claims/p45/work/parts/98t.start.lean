/-! the start -/
theorem nw_L_28 : z_NW RL 28 9 2 := ⟨"GraphNamesLaw$Draws", TX10, rfl, inGX10, tyX10_ok, lw_good_at (i := 840) (by decide +kernel) rfl, lw_good_at (i := 841) (by decide +kernel) rfl, lw_good_at (i := 31) (by decide +kernel) rfl, by decide, by decide⟩
theorem nw_L_18 : z_NW RL 18 8 14 := ⟨"GraphNames", TX9, rfl, inGX9, tyX9_ok, lw_good_at (i := 58) (by decide +kernel) rfl, lw_good_at (i := 59) (by decide +kernel) rfl, lw_good_at (i := 32) (by decide +kernel) rfl, by decide, by decide⟩
/-- the first numbers -/
def zm0 : zm := (fun _ _ => 0, fun _ _ => 0)
def zmS : zm := mA zm0 1 810
theorem zmS_1 {a k : Nat} (h : 1 ≤ a ∧ a < 810) : zmS.1 a k = i0 a k := by
  show (if 1 ≤ a ∧ a < 810 then i0 a k else 0) = i0 a k
  rw [if_pos h]

theorem zmS_G {o : Nat} (h : sX1 o) (ho : 5 < o ∧ o + 15 ≤ 810) : pG zmS o (gE 1) := by
  refine ⟨?_, fun v hv => ?_, fun a b ha hb => ?_, fun k x hk hx => ?_⟩
  · rw [zmS_1 (by omega), i0_1 (sX1_a h)]; rfl
  · rw [zmS_1 (by omega), i0_0 (sX1_s1 h) (by decide) (by omega) (by omega) (by omega)]; rfl
  · rw [zmS_1 (by omega), i0_0 (sX1_e2 h a ha).2 (by decide) (by omega) (by omega) (by omega)]; rfl
  · have e : bm ((fun k x y => lk k (gk (gE 1) x y)) k x) 7 = 0 := bm_0 fun i hi => by
      show lk k 0 = false
      unfold lk
      by_cases q : k = 0
      · rw [if_pos q]; rfl
      · rw [if_neg q]; exact beq_eq_false_iff_ne.mpr (Ne.symm q)
    rw [e, zmS_1 (by omega), i0_0 (sX1_e3 h k hk).2 (by decide) (by omega) (by omega) (by omega)]; rfl
def sg0 : Sg := (fun _ => gE 1, [], fun _ _ => gE 1, fun _ => false, [], 0, -1, 0)
theorem sg0_OK : sOK sg0 := ⟨fun _ _ => gE_WF ⟨by decide, by decide⟩, Nat.zero_le _, fun p hp => absurd hp List.not_mem_nil, fun i hi q => absurd (show false = true from q) Bool.false_ne_true, Nat.zero_le _, fun b hb => absurd hb List.not_mem_nil⟩
theorem zmS_at {a k : Nat} {v : Int32} (h : 1 ≤ a ∧ a < 810) (e : i0 a k = v) : zmS.1 a k = v := (zmS_1 h).trans e
theorem zmS_146 (i : Nat) (hi : i < 2) : zmS.1 146 i = 0 := by
  rcases (show i = 0 ∨ i = 1 by omega) with rfl | rfl <;> exact zmS_at (by decide) (by decide +kernel)

theorem sg0_CC : CC sg0 zmS := by
  refine ⟨fun w hw => zmS_G (e_2 w hw).2 (by omega), ⟨zmS_at (by decide) (by decide +kernel), 0, by decide, zmS_at (by decide) (by decide +kernel), fun i p hp => ?_⟩, fun i hi => ⟨(zmS_146 i hi).trans rfl, fun q => absurd (show false = true from q) Bool.false_ne_true⟩, ⟨zmS_at (by decide) (by decide +kernel), fun i hi => absurd hi (Nat.not_lt_zero _), gE 1, gE_OK 1, zmS_G (l_X1_ok 6 (by decide)) (by decide)⟩, zmS_at (by decide) (by decide +kernel), fun q => absurd q (by decide), fun _ => rfl, zmS_at (by decide) (by decide +kernel)⟩
  have hp : ([] : List (Nat × Gr))[i]? = some p := hp
  rw [List.getElem?_nil] at hp
  cases hp
theorem sg0_CS : CS zmS := by
  refine ⟨fun w hw => Or.inl ?_, fun w hw => Or.inl ?_, Or.inl (zmS_at (by decide) (by decide +kernel))⟩
  · rcases (show w = 0 ∨ w = 1 ∨ w = 2 by omega) with rfl | rfl | rfl <;> exact zmS_at (by decide) (by decide +kernel)
  · rcases (show w = 0 ∨ w = 1 ∨ w = 2 by omega) with rfl | rfl | rfl <;> exact zmS_at (by decide) (by decide +kernel)

theorem sg0_CR : CR sg0 zmS := ⟨sg0_CC, sg0_CS⟩
/-- the object is there, and Draws ahead of it -/
theorem st_up {g : zG} {m : zm} {H : Heap} (rel : z_Rel g true (mkc 810 (RA (fun _ _ => none) 1 810) m) H) (hg : g_t g = g_B g + 809) (hd : ∀ H2 : Heap, H2[g_B g - 1]? = g_w g (g_B g - 1) → t_OB (g_B g - 1) ((g_D g).1 9) 2 ((g_D g).2 9) H2 (z_vl g (mk m) 810)) : z_Rel g true (mk m) H := by
  obtain ⟨r1, r2, ⟨r3, r4, r5, r6⟩, r7⟩ := rel
  have r1 : ∀ q : Nat, z_kn g 810 q → H[q]? = g_w g q := r1
  have e2 : H.size = z_nx g 810 := by simpa using r2
  unfold z_nx at e2
  rw [if_pos (Nat.le_refl 810)] at e2
  refine ⟨fun q hq => ?_, ?_, ⟨by show 1 ≤ 811; omega, by show 811 < 1000000; omega, r5, fun _ => by omega⟩, fun a a0 a1 => ?_⟩
  · have hq : z_kn g 811 q := hq
    unfold z_kn at hq
    rw [if_neg (show ¬ (811 : Nat) ≤ 810 by decide)] at hq
    refine r1 q ?_
    unfold z_kn
    rw [if_pos (Nat.le_refl 810)]
    omega
  · show (if true = true then H.size = z_nx g 811 else _)
    rw [if_pos rfl]
    unfold z_nx
    rw [if_neg (show ¬ (811 : Nat) ≤ 810 by decide)]
    omega
  · have a1 : a < 811 := a1
    by_cases h : a = 810
    · subst h
      have hk : H[g_B g - 1]? = g_w g (g_B g - 1) := r1 _ (by unfold z_kn; rw [if_pos (Nat.le_refl 810)]; omega)
      unfold z_cell
      have eT : T0 810 = (9, 2) := a_810.2.2
      rw [show z_T (mk m) = T0 from rfl, eT, if_pos (by decide)]
      refine ⟨(RX10, TX10, 2), rfl, ?_⟩
      rw [z_rho_2]
      exact hd H hk
    · refine z_cell_kept (r7 a a0 (show a < 810 by omega)) rfl (fun k => ?_) rfl
      have e1 : RA (fun _ _ => none) 1 810 a k = R0 a k := RA_in ⟨a0, by omega⟩
      show z_vl g (mk m) a k = z_vl g (mkc 810 (RA (fun _ _ => none) 1 810) m) a k
      unfold z_vl
      show (if z_sk (T0 a).1 k = 2 then Value.long (m.2 a k) else if z_sk (T0 a).1 k = 3 then va_rf ((R0 a k).map (z_rho g)) else .int (m.1 a k)) = (if z_sk (T0 a).1 k = 2 then Value.long (m.2 a k) else if z_sk (T0 a).1 k = 3 then va_rf ((RA (fun _ _ => none) 1 810 a k).map (z_rho g)) else .int (m.1 a k))
      rw [e1]

/-- array classes out of the tables' words -/
theorem st_arrN {s : State} {c : ClassId} {k : Class} {comp : ClassId} {ty : FieldType} (h2 : s.vm.classes[c]? = some k) (h3 : k.kind = .array comp ty) : ArrOfT s c ty := fun n z => ⟨fun k q => (nomatch q), k, h2, comp, h3⟩
theorem st_int {s : State} {args : Array Value} (h : (Cond.arrayClass .int).before args s = true) : ∃ c, ArrOfT s c .int ∧ va_RA s c .int := by
  obtain ⟨c, k, comp, h1, h2, h3⟩ := Cond.arrayClass_spec h
  exact ⟨c, st_arrN h2 h3, h1⟩
theorem st_long {s : State} {args : Array Value} (h : (Cond.arrayClass .long).before args s = true) : ∃ c, ArrOfT s c .long ∧ va_RA s c .long := by
  obtain ⟨c, k, comp, h1, h2, h3⟩ := Cond.arrayClass_spec h
  exact ⟨c, st_arrN h2 h3, h1⟩
theorem st_bool {s : State} {args : Array Value} (h : (Cond.arrayClass .boolean).before args s = true) : ∃ c, ArrOfT s c .boolean ∧ va_RA s c .boolean := by
  obtain ⟨c, k, comp, h1, h2, h3⟩ := Cond.arrayClass_spec h
  exact ⟨c, st_arrN h2 h3, h1⟩
theorem st_byte {s : State} {args : Array Value} (h : (Cond.arrayClass .byte).before args s = true) : ∃ c, ArrOfT s c .byte ∧ va_RA s c .byte := by
  obtain ⟨c, k, comp, h1, h2, h3⟩ := Cond.arrayClass_spec h
  exact ⟨c, st_arrN h2 h3, h1⟩
theorem st_arr {s : State} {args : Array Value} {t : FieldType} (h : (Cond.arrayOver (.array t)).before args s = true) : ∃ c, ArrOfT s c (.array t) ∧ va_RA s c (.array t) := by
  obtain ⟨comp, c, k, h1, h2, h3, h4, h5⟩ := arrayOver_specB h
  exact ⟨c, st_arrN h3 h4, h5⟩
theorem st_obj {s : State} {args : Array Value} {C : String} (h : (Cond.arrayOver (.object C)).before args s = true) : ∃ c, ArrOfT s c (.object C) ∧ va_RA s c (.object C) := by
  obtain ⟨comp, c, k, h1, h2, h3, h4, h5⟩ := Cond.arrayOver_spec h
  exact ⟨c, st_arrN h3 h4, k, comp, h3, h4, h1, h5⟩

section ZStart
variable {s : State} {b : Nat}
abbrev st_n1 : Cond := Jvm.Cond.and given_1 narrow_1
/-- the numbers of the classes -/
theorem st_D (hts : ∀ w ∈ lw_tbl, w.before #[Value.ref b] s = true) : ∃ D : va_G, va_K D vwCl [] s ∧ ∀ t : Nat, 20 ≤ t → t ≤ 29 → ArrOfT s (D.1 t) (z_et t) ∧ va_RA s (D.1 t) (z_et t) := by
  have at_ : ∀ {i : Nat} {w : Cond}, lw_tbl[i]? = some w → w.before #[Value.ref b] s = true := fun h => hts _ (List.mem_of_getElem? h)
  obtain ⟨c0, i0, k0⟩ := u_known (C := RX0) (T := TX0) (N := 7) (n := 7) hts inX0 (at_ (i := 173) (by decide +kernel))
  obtain ⟨c1, i1, k1⟩ := u_known (C := RX1) (T := TX1) (N := 4) (n := 4) hts inX1 (at_ (i := 79) (by decide +kernel))
  obtain ⟨c2, i2, k2⟩ := u_known (C := RX2) (T := TX2) (N := 5) (n := 5) hts inX2 (at_ (i := 256) (by decide +kernel))
  obtain ⟨c3, i3, k3⟩ := u_known (C := RX3) (T := TX3) (N := 8) (n := 8) hts inX3 (at_ (i := 207) (by decide +kernel))
  obtain ⟨c4, i4, k4⟩ := u_known (C := RX4) (T := TX4) (N := 4) (n := 4) hts inX4 (at_ (i := 152) (by decide +kernel))
  obtain ⟨c5, i5, k5⟩ := u_known (C := RX5) (T := TX5) (N := 10) (n := 10) hts inX5 (at_ (i := 73) (by decide +kernel))
  obtain ⟨c6, i6, k6⟩ := u_known (C := RX6) (T := TX6) (N := 13) (n := 13) hts inX6 (at_ (i := 243) (by decide +kernel))
  obtain ⟨c7, i7, k7⟩ := u_known (C := RX7) (T := TX7) (N := 11) (n := 11) hts inX7 (at_ (i := 359) (by decide +kernel))
  obtain ⟨c8, i8, k8⟩ := u_known (C := RX9) (T := TX9) (N := 14) (n := 14) hts inX9 (at_ (i := 59) (by decide +kernel))
  obtain ⟨c9, i9, k9⟩ := u_known (C := RX10) (T := TX10) (N := 2) (n := 2) hts inX10 (at_ (i := 841) (by decide +kernel))
  obtain ⟨c10, i10, k10⟩ := u_known (C := RJ0) (T := TJ0) (N := 4) (n := 4) hts inJ0 (at_ (i := 1172) (by decide +kernel))
  obtain ⟨c11, i11, k11⟩ := u_known (C := RJ4) (T := TJ4) (N := 4) (n := 4) hts inJ4 (at_ (i := 995) (by decide +kernel))
  obtain ⟨a0, r0⟩ := st_int (at_ (i := 116) (by decide +kernel))
  obtain ⟨a1, r1⟩ := st_long (at_ (i := 205) (by decide +kernel))
  obtain ⟨a2, r2⟩ := st_bool (at_ (i := 204) (by decide +kernel))
  obtain ⟨a3, r3⟩ := st_arr (t := .int) (at_ (i := 85) (by decide +kernel))
  obtain ⟨a4, r4⟩ := st_obj (C := "GraphNames$Graph") (at_ (i := 67) (by decide +kernel))
  obtain ⟨a5, r5⟩ := st_obj (C := "GraphNames$Tree") (at_ (i := 69) (by decide +kernel))
  obtain ⟨a6, r6⟩ := st_obj (C := "GraphNames$Search") (at_ (i := 71) (by decide +kernel))
  obtain ⟨a7, r7⟩ := st_obj (C := "GraphNames$Leaf") (at_ (i := 358) (by decide +kernel))
  obtain ⟨a8, r8⟩ := st_obj (C := "GraphNames$Cells") (at_ (i := 254) (by decide +kernel))
  obtain ⟨a9, r9⟩ := st_byte (at_ (i := 990) (by decide +kernel))
  refine ⟨(fun t => match t with
    | 0 => c0 | 1 => c1 | 2 => c2 | 3 => c3 | 4 => c4 | 5 => c5 | 6 => c6 | 7 => c7 | 8 => c8 | 9 => c9 | 10 => c10 | 11 => c11
    | 20 => a0 | 21 => a1 | 22 => a2 | 23 => a3 | 24 => a4 | 25 => a5 | 26 => a6 | 27 => a7 | 29 => a9 | _ => a8, fun t => match t with
    | 0 => i0 | 1 => i1 | 2 => i2 | 3 => i3 | 4 => i4 | 5 => i5 | 6 => i6 | 7 => i7 | 8 => i8 | 9 => i9 | 10 => i10 | _ => i11), ⟨fun k q hq => ?_, fun k q h => by simp at h⟩, fun t h1 h2 => ?_⟩
  · have hk : k < 12 := (List.getElem?_eq_some_iff.mp hq).1
    rcases (show k = 0 ∨ k = 1 ∨ k = 2 ∨ k = 3 ∨ k = 4 ∨ k = 5 ∨ k = 6 ∨ k = 7 ∨ k = 8 ∨ k = 9 ∨ k = 10 ∨ k = 11 by omega) with rfl | rfl | rfl | rfl | rfl | rfl | rfl | rfl | rfl | rfl | rfl | rfl
    · cases hq; exact k0
    · cases hq; exact k1
    · cases hq; exact k2
    · cases hq; exact k3
    · cases hq; exact k4
    · cases hq; exact k5
    · cases hq; exact k6
    · cases hq; exact k7
    · cases hq; exact k8
    · cases hq; exact k9
    · cases hq; exact k10
    · cases hq; exact k11
  · rcases (show t = 20 ∨ t = 21 ∨ t = 22 ∨ t = 23 ∨ t = 24 ∨ t = 25 ∨ t = 26 ∨ t = 27 ∨ t = 28 ∨ t = 29 by omega) with rfl | rfl | rfl | rfl | rfl | rfl | rfl | rfl | rfl | rfl
    · exact r0
    · exact r1
    · exact r2
    · exact r3
    · exact r4
    · exact r5
    · exact r6
    · exact r7
    · exact r8
    · exact r9

abbrev st_tm (i : Nat) : Term := .string (z_to i) (z_ti i)
abbrev st_do : Term := .static "java/lang/Integer" "DigitOnes" "[B"
def eb (i : Nat) : Nat := [282, 290, 300, 310, 321, 333, 347, 364, 380, 398, 411].getD i 0
def ep (j : Nat) : Nat := [0, 299, 308, 318, 329, 342, 358, 373, 390, 402, 416].getD j 0
theorem st_k1 : ∀ i, i < 11 → (flatC st_n1)[eb i]? = some (Cond.exactly (st_tm i) "java/lang/String") := by decide +kernel
theorem st_k2 : ∀ i, i < 11 → (flatC st_n1)[eb i + 1]? = some (Cond.eq (.field (st_tm i) "java/lang/String" "coder" "B") (.int 0)) := by decide +kernel
theorem st_k3 : ∀ i, i < 11 → (flatC st_n1)[eb i + 2]? = some (Cond.arrayOf (.field (st_tm i) "java/lang/String" "value" "[B") .byte) := by decide +kernel
theorem st_k4 : ∀ i, i < 11 → (flatC st_n1)[eb i + 3]? = some (Cond.eq (.length (.field (st_tm i) "java/lang/String" "value" "[B")) (.int (Int32.ofNat (z_len.getD i 0)))) := by decide +kernel
theorem st_k5 : ∀ i, i < 11 → ∀ j, j < z_len.getD i 0 → (flatC st_n1)[eb i + (4 + j)]? = some (Cond.eq (.elem (.field (st_tm i) "java/lang/String" "value" "[B") (.int (Int32.ofNat j))) (.int ((z_byt.getD i []).getD j 0))) := by decide +kernel
theorem st_k6 : ∀ j, j < 11 → ∀ i, i < j → (flatC st_n1)[ep j + i]? = some (Cond.not (Cond.eq (st_tm i) (st_tm j))) := by decide +kernel
theorem st_m1 : ∀ i, i < 11 → Cond.exactly (st_tm i) "java/lang/String" ∈ flatC st_n1 := fun i hi => List.mem_of_getElem? (st_k1 i hi)
theorem st_m2 : ∀ i, i < 11 → Cond.eq (.field (st_tm i) "java/lang/String" "coder" "B") (.int 0) ∈ flatC st_n1 := fun i hi => List.mem_of_getElem? (st_k2 i hi)
theorem st_m3 : ∀ i, i < 11 → Cond.arrayOf (.field (st_tm i) "java/lang/String" "value" "[B") .byte ∈ flatC st_n1 := fun i hi => List.mem_of_getElem? (st_k3 i hi)
theorem st_m4 : ∀ i, i < 11 → Cond.eq (.length (.field (st_tm i) "java/lang/String" "value" "[B")) (.int (Int32.ofNat (z_len.getD i 0))) ∈ flatC st_n1 := fun i hi => List.mem_of_getElem? (st_k4 i hi)
theorem st_m5 : ∀ i, i < 11 → ∀ j, j < z_len.getD i 0 → Cond.eq (.elem (.field (st_tm i) "java/lang/String" "value" "[B") (.int (Int32.ofNat j))) (.int ((z_byt.getD i []).getD j 0)) ∈ flatC st_n1 := fun i hi j hj => List.mem_of_getElem? (st_k5 i hi j hj)
theorem st_m6 : ∀ i, i < 11 → ∀ j, j < 11 → i ≠ j → Cond.not (Cond.eq (st_tm i) (st_tm j)) ∈ flatC st_n1 ∨ Cond.not (Cond.eq (st_tm j) (st_tm i)) ∈ flatC st_n1 := fun i hi j hj hij => by
  rcases Nat.lt_or_ge i j with h | h
  · exact Or.inl (List.mem_of_getElem? (st_k6 j hj i h))
  · exact Or.inr (List.mem_of_getElem? (st_k6 i hi j (by omega)))
theorem st_m7 : Cond.eq (.static "java/lang/String" "COMPACT_STRINGS" "Z") (.int 1) ∈ flatC st_n1 := by decide +kernel
theorem st_m8 : Cond.isRef (.static "jdk/internal/util/Preconditions" "SIOOBE_FORMATTER" "Ljava/util/function/BiFunction;") ∈ flatC st_n1 := by decide +kernel
theorem st_m9 : Cond.arrayOf st_do .byte ∈ flatC st_n1 := by decide +kernel
theorem st_m10 : Cond.eq (.length st_do) (.int (Int32.ofNat 100)) ∈ flatC st_n1 := by decide +kernel
theorem st_k11 : ∀ j, j < 100 → (flatC st_n1)[14 + j]? = some (Cond.eq (.elem st_do (.int (Int32.ofNat j))) (.int (Int32.ofNat (48 + j % 10)))) := by decide +kernel
theorem st_m11 : ∀ j, j < 100 → Cond.eq (.elem st_do (.int (Int32.ofNat j))) (.int (Int32.ofNat (48 + j % 10))) ∈ flatC st_n1 := fun j hj => List.mem_of_getElem? (st_k11 j hj)
theorem st_w : ∀ i, i < 11 → lw_tbl[[936, 963, 974, 984, 989, 996, 1151, 1166, 1224, 1225, 1232].getD i 0]? = some (Cond.stringRef (z_to i) (z_ti i) (z_tt i)) := by decide +kernel
theorem st_ref {args : Array Value} {C n d : String} (h : (Cond.isRef (.static C n d)).before args s = true) : ∃ v : Value, (v = .null ∨ ∃ a, v = .ref a) ∧ (Term.static C n d).eval args s none [] s = some v := by
  cases hv : (Term.static C n d).eval args s none [] s with
  | none => simp [Cond.before, Cond.holds, Cond.value, hv] at h
  | some w =>
    cases w with
    | null => exact ⟨_, Or.inl rfl, rfl⟩
    | ref a => exact ⟨_, Or.inr ⟨a, rfl⟩, rfl⟩
    | _ => simp [Cond.before, Cond.holds, Cond.value, hv] at h
/-- the texts -/
theorem st_T (l : Launch) {x : Nat × Nat × (Nat → Int32)} {D : va_G} {w : Nat → Option Cell} {tt : Nat} (hw : ∀ q, q < s.heap.size → s.heap[q]? = w q) (hts : ∀ w ∈ lw_tbl, w.before #[Value.ref b] s = true) (hgv : st_n1.before #[Value.ref b] s = true) : ∃ gs : Nat → Nat, z_TX (l, s.heap.size + 1, x, D, w, gs, tt) s := by
  have at_ : ∀ {i : Nat} {w : Cond}, lw_tbl[i]? = some w → w.before #[Value.ref b] s = true := fun h => hts _ (List.mem_of_getElem? h)
  have hs := flat_of_before _ hgv
  have hA : ∀ a : Nat, a < s.heap.size → ¬ (fun q : Nat => s.heap.size + 1 ≤ q + 1) a := fun a ha q => by
    have q : s.heap.size + 1 ≤ a + 1 := q
    omega
  obtain ⟨adK, adV, hS, hE⟩ := vk_Sof (N := 11) (tm := st_tm) (len := z_len) (byt := z_byt) (A := fun q => s.heap.size + 1 ≤ q + 1) (args := #[Value.ref b]) (by decide) (fun i hi => hs _ (st_m1 i hi)) (fun i hi => hs _ (st_m2 i hi)) (fun i hi => hs _ (st_m3 i hi)) (fun i hi => hs _ (st_m4 i hi)) (fun i hi j hj => hs _ (st_m5 i hi j hj)) (fun i j hi hj hij => (st_m6 i hi j hj hij).imp (hs _) (hs _)) hA
  obtain ⟨v, hv, hev⟩ := st_ref (hs _ st_m8)
  obtain ⟨f, hf⟩ : ∃ f : Nat, v = .null ∨ v = .ref f := by
    rcases hv with h | ⟨a, h⟩
    · exact ⟨0, Or.inl h⟩
    · exact ⟨a, Or.inr h⟩
  obtain ⟨dg, hdg, hdT⟩ := va_Tof (N := 100) (f := fun j => Value.int (Int32.ofNat (48 + j % 10))) (A := fun q => s.heap.size + 1 ≤ q + 1) (by decide) (hs _ st_m9) (va_eqt (hs _ st_m10)) (fun j hj => va_eqt (hs _ (st_m11 j hj))) hA
  have e1 : ∀ i, i < 11 → (fun i => if i < 11 then adK i else if i < 22 then adV (i - 11) else if i = 22 then f else dg) i = adK i := fun i hi => if_pos hi
  have e2 : ∀ i, i < 11 → (fun i => if i < 11 then adK i else if i < 22 then adV (i - 11) else if i = 22 then f else dg) (11 + i) = adV i := fun i hi => by
    show (if 11 + i < 11 then adK (11 + i) else if 11 + i < 22 then adV (11 + i - 11) else if 11 + i = 22 then f else dg) = adV i
    rw [if_neg (by omega), if_pos (by omega)]
    congr 1
    omega
  have e3 : (fun i => if i < 11 then adK i else if i < 22 then adV (i - 11) else if i = 22 then f else dg) 22 = f := rfl
  have e4 : (fun i => if i < 11 then adK i else if i < 22 then adV (i - 11) else if i = 22 then f else dg) 23 = dg := rfl
  generalize (fun i => if i < 11 then adK i else if i < 22 then adV (i - 11) else if i = 22 then f else dg) = gs at e1 e2 e3 e4
  refine ⟨gs, s.heap, rfl, fun q hq => hw q (by have hq : q + 1 < s.heap.size + 1 := hq; omega), ⟨fun i hi => ?_, fun i j hi hj q => ?_⟩, fun i hi => ?_, va_Zof (at_ (i := 870) (by decide +kernel)) (at_ (i := 48) (by decide +kernel)) (va_eqi (hs _ st_m7)) hA, ⟨v, ?_, va_Zof (at_ (i := 886) (by decide +kernel)) (at_ (i := 52) (by decide +kernel)) hev hA⟩, ?_, ?_⟩
  · have h := hS.1 i hi
    rw [← e1 i hi, ← e2 i hi] at h
    exact h
  · have q : gs i = gs j := q
    rw [e1 i hi, e1 j hj] at q
    exact hS.2 i j hi hj q
  · have h := hE i hi
    rw [← e1 i hi] at h
    exact vk_R.of (at_ (st_w i hi)) h
  · show v = .null ∨ v = .ref (gs 22)
    rw [e3]
    exact hf
  · show va_Z "java/lang/Integer" "DigitOnes" "[B" (.ref (gs 23)) _ s s.heap
    rw [e4]
    exact va_Zref (at_ (i := 1140) (by decide +kernel)) (at_ (i := 43) (by decide +kernel)) hdg hA
  · show va_T .byte (gs 23) 100 _ _ s s.heap
    rw [e4]
    exact hdT
end ZStart
theorem sg0_sy : (mps (gE 1) (gE 1) 0).length = 1 := by decide +kernel
theorem sg0_nm : l_c (S_t (srch (gE 1))) 0 = 0 := by decide +kernel

