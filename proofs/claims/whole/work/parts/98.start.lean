/-! the start -/
theorem nw_L_8 : z_NW RL 8 8 14 := ⟨"GraphNames", TX9, rfl, inGX9, tyX9_ok, lw_good_at (i := 135) (by decide +kernel) rfl, lw_good_at (i := 136) (by decide +kernel) rfl, lw_good_at (i := 113) (by decide +kernel) rfl, by decide, by decide⟩
theorem nw_L_16 : z_NW RL 16 9 63 := ⟨"GraphNamesModel", TX10, rfl, inGX10, tyX10_ok, lw_good_at (i := 1178) (by decide +kernel) rfl, lw_good_at (i := 1179) (by decide +kernel) rfl, lw_good_at (i := 123) (by decide +kernel) rfl, by decide, by decide⟩
/-- the first numbers -/
def zm0 : zm := (fun _ _ => 0, fun _ _ => 0)
def zmS : zm := mA (mA zm0 1 810) 810 841
theorem zmS_1 {a k : Nat} (h : 1 ≤ a ∧ a < 841) : zmS.1 a k = i0 a k := by
  show (if 810 ≤ a ∧ a < 841 then i0 a k else if 1 ≤ a ∧ a < 810 then i0 a k else 0) = i0 a k
  by_cases q : 810 ≤ a ∧ a < 841
  · rw [if_pos q]
  · rw [if_neg q, if_pos (by omega)]
theorem zmS_G {o : Nat} (h : sX1 o) (ho : 5 < o ∧ o + 15 ≤ 810) : pG zmS o (gE 1) := by
  refine ⟨?_, fun v hv => ?_, fun a b ha hb => ?_, fun k x hk hx => ?_⟩
  · rw [zmS_1 (by omega), i0_1 (sX1_a h)]; rfl
  · rw [zmS_1 (by omega), i0_0 (sX1_s1 h) (by decide) (by omega) (by omega) (by omega)]; rfl
  · rw [zmS_1 (by omega), i0_0 (sX1_e2 h a ha).2 (by decide) (by omega) (by omega) (by omega)]; rfl
  · have e : bm ((fun k x y => lk k (gk (gE 1) x y)) k x) 7 = 0 := bm_0 fun i hi => by
      show lk k 0 = false
      unfold lk
      by_cases q : k = 0
      · rw [if_pos q]; rfl
      · rw [if_neg q]; exact beq_eq_false_iff_ne.mpr (Ne.symm q)
    rw [e, zmS_1 (by omega), i0_0 (sX1_e3 h k hk).2 (by decide) (by omega) (by omega) (by omega)]; rfl
def sg0 : Sg := (fun _ => gE 1, [], fun _ _ => gE 1, fun _ => false, [], 0, -1, 0)
theorem sg0_OK : sOK sg0 := ⟨fun _ _ => gE_WF ⟨by decide, by decide⟩, Nat.zero_le _, fun p hp => absurd hp List.not_mem_nil, fun i hi q => absurd (show false = true from q) Bool.false_ne_true, Nat.zero_le _, fun b hb => absurd hb List.not_mem_nil⟩
theorem zmS_at {a k : Nat} {v : Int32} (h : 1 ≤ a ∧ a < 841) (e : i0 a k = v) : zmS.1 a k = v := (zmS_1 h).trans e
theorem zmS_146 (i : Nat) (hi : i < 2) : zmS.1 146 i = 0 := by
  rcases (show i = 0 ∨ i = 1 by omega) with rfl | rfl <;> exact zmS_at (by decide) (by decide +kernel)
theorem zmS_814 (i : Nat) (hi : i < 2) : zmS.1 814 i = 0 := by
  rcases (show i = 0 ∨ i = 1 by omega) with rfl | rfl <;> exact zmS_at (by decide) (by decide +kernel)
theorem sg0_CC : CC sg0 zmS := by
  refine ⟨fun w hw => zmS_G (e_2 w hw).2 (by omega), ⟨zmS_at (by decide) (by decide +kernel), 0, by decide, zmS_at (by decide) (by decide +kernel), fun i p hp => ?_⟩, fun i hi => ⟨(zmS_146 i hi).trans rfl, fun q => absurd (show false = true from q) Bool.false_ne_true⟩, ⟨zmS_at (by decide) (by decide +kernel), fun i hi => absurd hi (Nat.not_lt_zero _), gE 1, gE_OK 1, zmS_G (l_X1_ok 6 (by decide)) (by decide)⟩, zmS_at (by decide) (by decide +kernel), fun q => absurd q (by decide), fun _ => rfl, zmS_at (by decide) (by decide +kernel)⟩
  have hp : ([] : List (Nat × Gr))[i]? = some p := hp
  rw [List.getElem?_nil] at hp
  cases hp
theorem sg0_CS : CS zmS := by
  refine ⟨fun w hw => Or.inl ?_, fun w hw => Or.inl ?_, Or.inl (zmS_at (by decide) (by decide +kernel))⟩
  · rcases (show w = 0 ∨ w = 1 ∨ w = 2 by omega) with rfl | rfl | rfl <;> exact zmS_at (by decide) (by decide +kernel)
  · rcases (show w = 0 ∨ w = 1 ∨ w = 2 by omega) with rfl | rfl | rfl <;> exact zmS_at (by decide) (by decide +kernel)
theorem sg0_MR : MR sg0 zmS := by
  refine ⟨fun w hw => ⟨?_, fun v hv => ?_, fun a b ha hb => ?_⟩, ⟨zmS_at (by decide) (by decide +kernel), fun i hi => absurd hi (Nat.not_lt_zero _)⟩, fun i hi => ⟨(zmS_814 i hi).trans rfl, fun q => absurd (show false = true from q) Bool.false_ne_true⟩, ⟨zmS_at (by decide) (by decide +kernel), fun i hi => absurd hi (Nat.not_lt_zero _)⟩, zmS_at (by decide) (by decide +kernel), zmS_at (by decide) (by decide +kernel), zmS_at (by decide) (by decide +kernel)⟩
  · rcases (show w = 0 ∨ w = 1 ∨ w = 2 by omega) with rfl | rfl | rfl <;> exact zmS_at (by decide) (by decide +kernel)
  · exact zmS_at (by decide) ((i0_811 _ (by omega)).symm)
  · exact zmS_at (by decide) ((i0_811 _ (by rcases (show w = 0 ∨ w = 1 ∨ w = 2 by omega) with rfl | rfl | rfl <;> omega)).symm)
theorem RS_eq : RA (RA (fun _ _ => none) 1 810) 810 841 = R0 := by
  funext a k
  by_cases h1 : 810 ≤ a ∧ a < 841
  · exact RA_in h1
  by_cases h2 : 1 ≤ a ∧ a < 810
  · exact (RA_na (by omega)).trans (RA_in h2)
  refine (RA_na (by omega)).trans ((RA_na (by omega)).trans ?_)
  have e : r0l.getD a [] = [] := by
    rcases (show a = 0 ∨ a = 841 ∨ 842 ≤ a by omega) with rfl | rfl | h
    · decide +kernel
    · decide +kernel
    · have hl : r0l.length ≤ a := by have : r0l.length = 842 := by decide +kernel
                                     omega
      rw [List.getD_eq_getElem?_getD, List.getElem?_eq_none hl]; rfl
  show none = (r0l.getD a []).getD k none
  rw [e]; rfl
/-- array classes out of the tables' words -/
theorem st_arrN {s : State} {c : ClassId} {k : Class} {comp : ClassId} {ty : FieldType} (h2 : s.vm.classes[c]? = some k) (h3 : k.kind = .array comp ty) : ArrOfT s c ty := fun n z => ⟨fun k q => (nomatch q), k, h2, comp, h3⟩
theorem st_int {s : State} {args : Array Value} (h : (Cond.arrayClass .int).before args s = true) : ∃ c, ArrOfT s c .int ∧ va_RA s c .int := by
  obtain ⟨c, k, comp, h1, h2, h3⟩ := Cond.arrayClass_spec h
  exact ⟨c, st_arrN h2 h3, h1⟩
theorem st_long {s : State} {args : Array Value} (h : (Cond.arrayClass .long).before args s = true) : ∃ c, ArrOfT s c .long ∧ va_RA s c .long := by
  obtain ⟨c, k, comp, h1, h2, h3⟩ := Cond.arrayClass_spec h
  exact ⟨c, st_arrN h2 h3, h1⟩
theorem st_bool {s : State} {args : Array Value} (h : (Cond.arrayClass .boolean).before args s = true) : ∃ c, ArrOfT s c .boolean ∧ va_RA s c .boolean := by
  obtain ⟨c, k, comp, h1, h2, h3⟩ := Cond.arrayClass_spec h
  exact ⟨c, st_arrN h2 h3, h1⟩
theorem st_arr {s : State} {args : Array Value} {t : FieldType} (h : (Cond.arrayOver (.array t)).before args s = true) : ∃ c, ArrOfT s c (.array t) ∧ va_RA s c (.array t) := by
  obtain ⟨comp, c, k, h1, h2, h3, h4, h5⟩ := arrayOver_specB h
  exact ⟨c, st_arrN h3 h4, h5⟩
theorem st_obj {s : State} {args : Array Value} {C : String} (h : (Cond.arrayOver (.object C)).before args s = true) : ∃ c, ArrOfT s c (.object C) ∧ va_RA s c (.object C) := by
  obtain ⟨comp, c, k, h1, h2, h3, h4, h5⟩ := Cond.arrayOver_spec h
  exact ⟨c, st_arrN h3 h4, k, comp, h3, h4, h1, h5⟩
theorem lw_nest_args {w : Cond} (hw : w ∈ lw_nest) {s : State} {a a' : Array Value} (h : w.before a s = true) : w.before a' s = true := by
  have h2 := (List.mem_filter.mp hw).2
  cases w <;> first | (simp [z_nest] at h2; done) | exact va_tabs rfl (rfl : s.vm = s.vm) h | exact h
section ZStart
variable {s : State} {b : Nat}
abbrev st_n1 : Cond := Jvm.Cond.and given_1 narrow_1
/-- the numbers of the classes -/
theorem st_D (hts : ∀ w ∈ lw_tbl, w.before #[Value.ref b] s = true) : ∃ D : va_G, va_K D vwCl [] s ∧ ∀ t : Nat, 20 ≤ t → t ≤ 28 → ArrOfT s (D.1 t) (z_et t) ∧ va_RA s (D.1 t) (z_et t) := by
  have at_ : ∀ {i : Nat} {w : Cond}, lw_tbl[i]? = some w → w.before #[Value.ref b] s = true := fun h => hts _ (List.mem_of_getElem? h)
  obtain ⟨c0, i0, k0⟩ := u_known (C := RX0) (T := TX0) (N := 7) (n := 7) hts inX0 (at_ (i := 252) (by decide +kernel))
  obtain ⟨c1, i1, k1⟩ := u_known (C := RX1) (T := TX1) (N := 4) (n := 4) hts inX1 (at_ (i := 156) (by decide +kernel))
  obtain ⟨c2, i2, k2⟩ := u_known (C := RX2) (T := TX2) (N := 5) (n := 5) hts inX2 (at_ (i := 335) (by decide +kernel))
  obtain ⟨c3, i3, k3⟩ := u_known (C := RX3) (T := TX3) (N := 8) (n := 8) hts inX3 (at_ (i := 286) (by decide +kernel))
  obtain ⟨c4, i4, k4⟩ := u_known (C := RX4) (T := TX4) (N := 4) (n := 4) hts inX4 (at_ (i := 230) (by decide +kernel))
  obtain ⟨c5, i5, k5⟩ := u_known (C := RX5) (T := TX5) (N := 10) (n := 10) hts inX5 (at_ (i := 150) (by decide +kernel))
  obtain ⟨c6, i6, k6⟩ := u_known (C := RX6) (T := TX6) (N := 13) (n := 13) hts inX6 (at_ (i := 322) (by decide +kernel))
  obtain ⟨c7, i7, k7⟩ := u_known (C := RX7) (T := TX7) (N := 11) (n := 11) hts inX7 (at_ (i := 438) (by decide +kernel))
  obtain ⟨c8, i8, k8⟩ := u_known (C := RX9) (T := TX9) (N := 14) (n := 14) hts inX9 (at_ (i := 136) (by decide +kernel))
  obtain ⟨c9, i9, k9⟩ := u_known (C := RX10) (T := TX10) (N := 63) (n := 63) hts inX10 (at_ (i := 1179) (by decide +kernel))
  obtain ⟨a0, r0⟩ := st_int (at_ (i := 193) (by decide +kernel))
  obtain ⟨a1, r1⟩ := st_long (at_ (i := 284) (by decide +kernel))
  obtain ⟨a2, r2⟩ := st_bool (at_ (i := 283) (by decide +kernel))
  obtain ⟨a3, r3⟩ := st_arr (t := .int) (at_ (i := 162) (by decide +kernel))
  obtain ⟨a4, r4⟩ := st_obj (C := "GraphNames$Graph") (at_ (i := 144) (by decide +kernel))
  obtain ⟨a5, r5⟩ := st_obj (C := "GraphNames$Tree") (at_ (i := 146) (by decide +kernel))
  obtain ⟨a6, r6⟩ := st_obj (C := "GraphNames$Search") (at_ (i := 148) (by decide +kernel))
  obtain ⟨a7, r7⟩ := st_obj (C := "GraphNames$Leaf") (at_ (i := 437) (by decide +kernel))
  obtain ⟨a8, r8⟩ := st_obj (C := "GraphNames$Cells") (at_ (i := 333) (by decide +kernel))
  refine ⟨(fun t => match t with
    | 0 => c0 | 1 => c1 | 2 => c2 | 3 => c3 | 4 => c4 | 5 => c5 | 6 => c6 | 7 => c7 | 8 => c8 | 9 => c9
    | 20 => a0 | 21 => a1 | 22 => a2 | 23 => a3 | 24 => a4 | 25 => a5 | 26 => a6 | 27 => a7 | _ => a8, fun t => match t with
    | 0 => i0 | 1 => i1 | 2 => i2 | 3 => i3 | 4 => i4 | 5 => i5 | 6 => i6 | 7 => i7 | 8 => i8 | _ => i9), ⟨fun k q hq => ?_, fun k q h => by simp at h⟩, fun t h1 h2 => ?_⟩
  · have hk : k < 10 := (List.getElem?_eq_some_iff.mp hq).1
    rcases (show k = 0 ∨ k = 1 ∨ k = 2 ∨ k = 3 ∨ k = 4 ∨ k = 5 ∨ k = 6 ∨ k = 7 ∨ k = 8 ∨ k = 9 by omega) with rfl | rfl | rfl | rfl | rfl | rfl | rfl | rfl | rfl | rfl
    · cases hq; exact k0
    · cases hq; exact k1
    · cases hq; exact k2
    · cases hq; exact k3
    · cases hq; exact k4
    · cases hq; exact k5
    · cases hq; exact k6
    · cases hq; exact k7
    · cases hq; exact k8
    · cases hq; exact k9
  · rcases (show t = 20 ∨ t = 21 ∨ t = 22 ∨ t = 23 ∨ t = 24 ∨ t = 25 ∨ t = 26 ∨ t = 27 ∨ t = 28 by omega) with rfl | rfl | rfl | rfl | rfl | rfl | rfl | rfl | rfl
    · exact r0
    · exact r1
    · exact r2
    · exact r3
    · exact r4
    · exact r5
    · exact r6
    · exact r7
    · exact r8
abbrev st_tm (i : Nat) : Term := .string "GraphNames$Reader" (z_ti i)
theorem st_m1 : ∀ i, i < 5 → Cond.exactly (st_tm i) "java/lang/String" ∈ flatC st_n1 := by decide +kernel
theorem st_m2 : ∀ i, i < 5 → Cond.eq (.field (st_tm i) "java/lang/String" "coder" "B") (.int 0) ∈ flatC st_n1 := by decide +kernel
theorem st_m3 : ∀ i, i < 5 → Cond.arrayOf (.field (st_tm i) "java/lang/String" "value" "[B") .byte ∈ flatC st_n1 := by decide +kernel
theorem st_m4 : ∀ i, i < 5 → Cond.eq (.length (.field (st_tm i) "java/lang/String" "value" "[B")) (.int (Int32.ofNat (z_len.getD i 0))) ∈ flatC st_n1 := by decide +kernel
theorem st_m5 : ∀ i, i < 5 → ∀ j, j < z_len.getD i 0 → Cond.eq (.elem (.field (st_tm i) "java/lang/String" "value" "[B") (.int (Int32.ofNat j))) (.int ((z_byt.getD i []).getD j 0)) ∈ flatC st_n1 := by decide +kernel
theorem st_m6 : ∀ i, i < 5 → ∀ j, j < 5 → i ≠ j → Cond.not (Cond.eq (st_tm i) (st_tm j)) ∈ flatC st_n1 ∨ Cond.not (Cond.eq (st_tm j) (st_tm i)) ∈ flatC st_n1 := by decide +kernel
theorem st_m7 : Cond.eq (.static "java/lang/String" "COMPACT_STRINGS" "Z") (.int 1) ∈ flatC st_n1 := by decide +kernel
theorem st_m8 : Cond.isRef (.static "jdk/internal/util/Preconditions" "SIOOBE_FORMATTER" "Ljava/util/function/BiFunction;") ∈ flatC st_n1 := by decide +kernel
theorem st_m9 : Cond.isRef (.static Bundle.tN "UNASSIGNED_STACK" Bundle.steD) ∈ flatC st_n1 := by decide +kernel
theorem st_m10 : Cond.isRef (.static Bundle.tN "SUPPRESSED_SENTINEL" Bundle.listD) ∈ flatC st_n1 := by decide +kernel
theorem st_w : ∀ i, i < 5 → lw_tbl[[540, 617, 633, 643, 648].getD i 0]? = some (Cond.stringRef "GraphNames$Reader" (z_ti i) (z_tt i)) := by decide +kernel
theorem st_ref {args : Array Value} {C n d : String} (h : (Cond.isRef (.static C n d)).before args s = true) : ∃ v : Value, (v = .null ∨ ∃ a, v = .ref a) ∧ (Term.static C n d).eval args s none [] s = some v := by
  cases hv : (Term.static C n d).eval args s none [] s with
  | none => simp [Cond.before, Cond.holds, Cond.value, hv] at h
  | some w =>
    cases w with
    | null => exact ⟨_, Or.inl rfl, rfl⟩
    | ref a => exact ⟨_, Or.inr ⟨a, rfl⟩, rfl⟩
    | _ => simp [Cond.before, Cond.holds, Cond.value, hv] at h
/-- the texts -/
theorem st_T (l : Launch) {x : Nat × Nat × (Nat → Int32)} {D : va_G} {w : Nat → Option Cell} (hw : w = fun q => s.heap[q]?) (hts : ∀ w ∈ lw_tbl, w.before #[Value.ref b] s = true) (hgv : st_n1.before #[Value.ref b] s = true) : ∃ gs : Nat → Nat, z_TX (l, s.heap.size, x, D, w, gs) s := by
  have at_ : ∀ {i : Nat} {w : Cond}, lw_tbl[i]? = some w → w.before #[Value.ref b] s = true := fun h => hts _ (List.mem_of_getElem? h)
  have hs := flat_of_before _ hgv
  have hA : ∀ a : Nat, a < s.heap.size → ¬ (fun q : Nat => s.heap.size ≤ q) a := fun a ha q => by
    have q : s.heap.size ≤ a := q
    omega
  obtain ⟨adK, adV, hS, hE⟩ := vk_Sof (N := 5) (tm := st_tm) (len := z_len) (byt := z_byt) (A := fun q => s.heap.size ≤ q) (args := #[Value.ref b]) (by decide) (fun i hi => hs _ (st_m1 i hi)) (fun i hi => hs _ (st_m2 i hi)) (fun i hi => hs _ (st_m3 i hi)) (fun i hi => hs _ (st_m4 i hi)) (fun i hi j hj => hs _ (st_m5 i hi j hj)) (fun i j hi hj hij => (st_m6 i hi j hj hij).imp (hs _) (hs _)) hA
  obtain ⟨v, hv, hev⟩ := st_ref (hs _ st_m8)
  obtain ⟨f, hf⟩ : ∃ f : Nat, v = .null ∨ v = .ref f := by
    rcases hv with h | ⟨a, h⟩
    · exact ⟨0, Or.inl h⟩
    · exact ⟨a, Or.inr h⟩
  have e1 : ∀ i, i < 5 → (fun i => if i < 5 then adK i else if i < 10 then adV (i - 5) else f) i = adK i := fun i hi => if_pos hi
  have e2 : ∀ i, i < 5 → (fun i => if i < 5 then adK i else if i < 10 then adV (i - 5) else f) (5 + i) = adV i := fun i hi => by
    show (if 5 + i < 5 then adK (5 + i) else if 5 + i < 10 then adV (5 + i - 5) else f) = adV i
    rw [if_neg (by omega), if_pos (by omega)]
    congr 1
    omega
  have e3 : (fun i => if i < 5 then adK i else if i < 10 then adV (i - 5) else f) 10 = f := rfl
  generalize (fun i => if i < 5 then adK i else if i < 10 then adV (i - 5) else f) = gs at e1 e2 e3
  refine ⟨gs, s.heap, rfl, fun q _ => by rw [hw], ⟨fun i hi => ?_, fun i j hi hj q => ?_⟩, fun i hi => ?_, va_Zof (at_ (i := 554) (by decide +kernel)) (at_ (i := 124) (by decide +kernel)) (va_eqi (hs _ st_m7)) hA, ⟨v, ?_, va_Zof (at_ (i := 570) (by decide +kernel)) (at_ (i := 126) (by decide +kernel)) hev hA⟩, vx_Zqof (at_ (i := 1144) (by decide +kernel)) (at_ (i := 131) (by decide +kernel)) (hs _ st_m9) hA, vx_Zqof (at_ (i := 1146) (by decide +kernel)) (at_ (i := 131) (by decide +kernel)) (hs _ st_m10) hA⟩
  · have h := hS.1 i hi
    rw [← e1 i hi, ← e2 i hi] at h
    exact h
  · have q : gs i = gs j := q
    rw [e1 i hi, e1 j hj] at q
    exact hS.2 i j hi hj q
  · have h := hE i hi
    rw [← e1 i hi] at h
    exact vk_R.of (at_ (st_w i hi)) h
  · show v = .null ∨ v = .ref (gs 10)
    rw [e3]
    exact hf
end ZStart
