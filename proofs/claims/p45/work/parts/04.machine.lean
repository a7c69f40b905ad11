/-! THE MACHINE IN SHORT. An abstract memory (numbered cells: what kind, how long, references, longs, ints), and for a method's run at a place a weakest-precondition-like statement WP over it, proved once an instruction out of the kit's rows; a method's contract Ok. -/
abbrev zM : Type := MethodName × ByteArray × Nat × Option FieldType
abbrev zH : Type := Nat × (Nat → Nat × Nat) × (Nat → Nat → Option Nat) × (Nat → Nat → Int64) × (Nat → Nat → Int32)
abbrev z_z (h : zH) : Nat := h.1
abbrev z_T (h : zH) : Nat → Nat × Nat := h.2.1
abbrev z_R (h : zH) : Nat → Nat → Option Nat := h.2.2.1
abbrev z_L (h : zH) : Nat → Nat → Int64 := h.2.2.2.1
abbrev z_I (h : zH) : Nat → Nat → Int32 := h.2.2.2.2
def z_u {α : Type} (f : Nat → Nat → α) (a k : Nat) (v : α) : Nat → Nat → α := fun b j => if b = a ∧ j = k then v else f b j
/-- launch, base, the script's cell and what lies in it, numbers of classes and slots, what lies below the base, where texts lie -/
abbrev zG : Type := Launch × Nat × (Nat × Nat × (Nat → Int32)) × va_G × (Nat → Option Cell) × (Nat → Nat) × Nat
abbrev g_l (g : zG) : Launch := g.1
abbrev g_B (g : zG) : Nat := g.2.1
abbrev g_b (g : zG) : Nat := g.2.2.1.1
abbrev g_N (g : zG) : Nat := g.2.2.1.2.1
abbrev g_xs (g : zG) : Nat → Int32 := g.2.2.1.2.2
abbrev g_D (g : zG) : va_G := g.2.2.2.1
abbrev g_w (g : zG) : Nat → Option Cell := g.2.2.2.2.1
abbrev g_s (g : zG) : Nat → Nat := g.2.2.2.2.2.1
/-- from here up lie the cells that come behind the object; what lies between is known -/
abbrev g_t (g : zG) : Nat := g.2.2.2.2.2.2
def z_top : Nat := 1000000
def z_cp : Nat := 811
def z_rho (g : zG) (a : Nat) : Nat := if a = 0 then g_b g else if a < 810 then g_B g + (a - 1) else if a = 810 then g_B g - 1 else if a < z_top then g_t g + (a - 811) else g_s g (a - z_top)
def z_tr (g : zG) : Value → Value
  | .ref a => .ref (z_rho g a)
  | v => v
theorem z_tr_int (g : zG) (v : Int32) : z_tr g (.int v) = .int v := rfl
theorem z_tr_cat (g : zG) (v : Value) : (z_tr g v).category = v.category := by cases v <;> rfl
/-- good words -/
def lw_good : List Cond := lw_tbl.filter goodWord
theorem lw_good_in : ∀ w ∈ lw_good, w ∈ lw_tbl := fun w h => (List.mem_filter.mp h).1
theorem lw_good_of {w : Cond} (h : w ∈ lw_tbl) (h2 : goodWord w = true) : w ∈ lw_good := List.mem_filter.mpr ⟨h, h2⟩
theorem lw_good_at {i : Nat} {w : Cond} (h : lw_tbl[i]? = some w) (h2 : goodWord w = true) : w ∈ lw_good := lw_good_of (List.mem_of_getElem? h) h2
/-- words that are kept in another way -/
def z_nest : Cond → Bool
  | .methodLinkNest .. => true
  | .declares _ => true
  | .privateMethod _ => true
  | .arrayOver (.array _) => true
  | .arrayOver (.object _) => true
  | .castable .. => true
  | _ => false
def lw_nest : List Cond := lw_tbl.filter z_nest
theorem lw_nest_at {i : Nat} {w : Cond} (h : lw_tbl[i]? = some w) (h2 : z_nest w = true) : w ∈ lw_nest := List.mem_filter.mpr ⟨List.mem_of_getElem? h, h2⟩
theorem lw_nest_moved {w : Cond} (hw : w ∈ lw_nest) {s U : State} (hh : s.WarmedH U.vm) (h : w.before #[] s = true) : w.before #[] U = true := by
  have h2 := (List.mem_filter.mp hw).2
  cases w <;> first | (simp [z_nest] at h2; done) | exact va_Nw.warmM hh h | exact va_Nw.warmD hh h | exact va_Nw.warmC hh h | exact va_tabs rfl (rfl : (s.setVm U.vm).vm = U.vm) (by rw [Cond.privateMethod_setVm hh.alike]; exact h) | (rename_i t; cases t <;> first | (simp [z_nest] at h2; done) | exact arrayOver_alikeB hh.alike h | exact Cond.arrayOver_alike hh.alike h)
theorem lw_good_g : GoodIn lw_good lw_good := fun w h => ⟨h, good_of_word (List.mem_filter.mp h).2⟩
abbrev z_W (M : zM) : List Cond := Cond.code M.1 M.2.1 M.2.2.1 M.2.2.2 :: lw_good
/-- types -/
def z_tc : FieldType → Nat
  | .int => 0
  | .boolean => 1
  | .long => 2
  | .object _ => 3
  | .array _ => 3
  | .byte => 4
  | _ => 9
def z_ty : Nat → Nat → FieldType
  | 0 => tyX0
  | 1 => tyX1
  | 2 => tyX2
  | 3 => tyX3
  | 4 => tyX4
  | 5 => tyX5
  | 6 => tyX6
  | 7 => tyX7
  | 8 => tyX9
  | 9 => tyX10
  | 10 => tyJ0
  | _ => tyJ4
def z_et : Nat → FieldType
  | 20 => .int
  | 21 => .long
  | 22 => .boolean
  | 23 => .array .int
  | 24 => .object "GraphNames$Graph"
  | 25 => .object "GraphNames$Tree"
  | 26 => .object "GraphNames$Search"
  | 27 => .object "GraphNames$Leaf"
  | 29 => .byte
  | _ => .object "GraphNames$Cells"
def z_sk (t k : Nat) : Nat := if t < 12 then z_tc (z_ty t k) else z_tc (z_et t)
def z_vl (g : zG) (h : zH) (a k : Nat) : Value := if z_sk (z_T h a).1 k = 2 then .long (z_L h a k) else if z_sk (z_T h a).1 k = 3 then va_rf ((z_R h a k).map (z_rho g)) else .int (z_I h a k)
def z_cell (g : zG) (h : zH) (a : Nat) (H : Heap) : Prop :=
  if (z_T h a).1 < 12 then ∃ q : vw_C, vwCl[(z_T h a).1]? = some q ∧ t_OB (z_rho g a) ((g_D g).1 (z_T h a).1) q.2.2 ((g_D g).2 (z_T h a).1) H (z_vl g h a)
  else H[z_rho g a]? = some (arrV ((g_D g).1 (z_T h a).1) (z_T h a).2 (z_vl g h a))
/-- cells that are known and stay -/
def z_kn (g : zG) (z q : Nat) : Prop := if z ≤ 810 then q < g_B g else (q + 1 < g_B g ∨ (g_B g + 809 ≤ q ∧ q < g_t g))
/-- where the next cell comes -/
def z_nx (g : zG) (z : Nat) : Nat := if z ≤ 810 then g_B g + (z - 1) else g_t g + (z - 811)
def z_Rel (g : zG) (gr : Bool) (h : zH) (H : Heap) : Prop :=
  (∀ q : Nat, z_kn g (z_z h) q → H[q]? = g_w g q) ∧ (if gr = true then H.size = z_nx g (z_z h) else z_nx g (z_z h) ≤ H.size) ∧ (1 ≤ z_z h ∧ z_z h < z_top ∧ 1 ≤ g_B g ∧ (810 < z_z h → g_B g + 809 ≤ g_t g)) ∧ ∀ a : Nat, 0 < a → a < z_z h → z_cell g h a H
/-- texts: where the constants lie, what is in them; statics that are read -/
def z_len : List Nat := [4, 5, 4, 4, 4, 5, 7, 5, 6, 0, 1]
def z_byt : List (List Int32) := [[115, 105, 122, 101], [112, 97, 105, 110, 116], [108, 105, 110, 107], [112, 97, 116, 104], [114, 105, 110, 103], [115, 105, 122, 101, 32], [59, 112, 97, 105, 110, 116, 32], [59, 114, 105, 110, 103], [59, 108, 105, 110, 107, 32], [], [32]]
def z_ti (i : Nat) : Nat := [57, 78, 83, 88, 94, 34, 43, 51, 57, 59, 62].getD i 0
def z_tt (i : Nat) : String := ["size", "paint", "link", "path", "ring", "size ", ";paint ", ";ring", ";link ", "", " "].getD i ""
/-- whose constants they are -/
def z_to (i : Nat) : String := if i < 5 then "GraphNames$Reader" else "GraphNamesLaw"
abbrev z_A (g : zG) : Nat → Prop := fun q => g_B g ≤ q + 1
/-- the digits of Integer -/
def z_DO (g : zG) (U : State) (H0 : Heap) : Prop := va_Z "java/lang/Integer" "DigitOnes" "[B" (.ref (g_s g 23)) (z_A g) U H0 ∧ va_T .byte (g_s g 23) 100 (fun j => .int (Int32.ofNat (48 + j % 10))) (z_A g) U H0
def z_TX (g : zG) (U : State) : Prop := ∃ H0 : Heap, H0.size + 1 = g_B g ∧ (∀ q : Nat, q + 1 < g_B g → H0[q]? = g_w g q) ∧ vk_S 11 z_len z_byt (g_s g) (fun i => g_s g (11 + i)) (z_A g) U H0 ∧ (∀ i, i < 11 → vk_R (z_to i) (z_ti i) (z_tt i) (g_s g i) U) ∧ va_Z "java/lang/String" "COMPACT_STRINGS" "Z" (.int 1) (z_A g) U H0 ∧ (∃ v : Value, (v = .null ∨ v = .ref (g_s g 22)) ∧ va_Z "jdk/internal/util/Preconditions" "SIOOBE_FORMATTER" "Ljava/util/function/BiFunction;" v (z_A g) U H0) ∧ z_DO g U H0
theorem z_TX.moved {g : zG} {s U : State} (hh : s.WarmedH U.vm) (h : z_TX g s) : z_TX g U := by
  obtain ⟨H0, a1, a2, a3, a4, a5, ⟨v, hv, a6⟩, a7, a8⟩ := h
  exact ⟨H0, a1, a2, a3.moved hh.alike, fun i hi => (a4 i hi).warm hh, a5.moved hh.alike, ⟨v, hv, a6.moved hh.alike⟩, a7.moved hh.alike, a8.moved hh.alike⟩
def z_KK (g : zG) (U : State) : Prop :=
  (∀ w ∈ lw_good, w.before #[] U = true) ∧ va_K (g_D g) vwCl [] U ∧ (∀ t : Nat, 20 ≤ t → t ≤ 29 → ArrOfT U ((g_D g).1 t) (z_et t) ∧ va_RA U ((g_D g).1 t) (z_et t)) ∧ (∀ w ∈ lw_nest, w.before #[] U = true) ∧ ∃ scr : Cell, g_w g (g_b g) = some scr ∧ U.isArrayOf scr .int ∧ scr.vm ≠ .unknown ∧ scr.slots.size = g_N g ∧ (∀ j : Nat, j < g_N g → scr.slots[j]? = some (.int (g_xs g j))) ∧ g_b g + 1 < g_B g ∧ z_TX g U
theorem z_good_before {w : Cond} (hw : w ∈ lw_good) {s U : State} (hvm : s.vm = U.vm ∨ s.WarmedH U.vm) {a a' : Array Value} (h : w.before a s = true) (hh : s.WarmedH U.vm) : w.before a' U = true := word_at hh (good_of_word (List.mem_filter.mp hw).2) h
theorem z_KK.moved {g : zG} {s U : State} (hh : s.WarmedH U.vm) (h : z_KK g s) : z_KK g U := by
  obtain ⟨h1, h2, h3, h4, scr, e1, e2, e3, e4, e5⟩ := h
  have ha := hh.alike
  refine ⟨fun w hw => word_at hh (good_of_word (List.mem_filter.mp hw).2) (h1 w hw), va_K.moved ha h2, fun t t1 t2 => ⟨arrOfT_moved ha (h3 t t1 t2).1, (h3 t t1 t2).2.moved ha⟩, fun w hw => lw_nest_moved hw hh (h4 w hw), scr, e1, State.isArrayOf_alike ha e2, e3, e4, e5.1, e5.2.1, e5.2.2.moved hh⟩
theorem z_KK.words {g : zG} {s : State} (h : z_KK g s) (a : Array Value) : ∀ w ∈ lw_good, w.before a s = true := fun w hw => word_at (State.WarmedH.refl s) (good_of_word (List.mem_filter.mp hw).2) (h.1 w hw)
/-- what holds of a method's own run -/
def z_FX (g : zG) (d : Nat) (M : zM) (p : Program) (R : Room) (s : State) (m : MethodId) (args : Array Value) (meth : Method) (c : Code) : Prop :=
  CallFix p m c M.2.1 M.2.2.1 s args lw_good M.1.cls ∧ z_KK g s ∧ d ≤ R.frames ∧ 40 * d ≤ R.locals ∧ meth.name = M.1.name
/-- locals -/
def z_is : Value → Bool
  | .retAddr _ => false
  | _ => true
def z_asc (g : zG) : List Value → Nat → List (Nat × Value)
  | [], _ => []
  | v :: vs, i => if z_is v = true then (i, z_tr g v) :: z_asc g vs (i + 1) else z_asc g vs (i + 1)
def z_lo (g : zG) (B : Nat) (locs : List Loc) : Prop := ∀ q ∈ locs, B ≤ q.base + 1
/-- what may come back at a place -/
def z_rv (M : zM) (pc : Nat) : Option Value → Prop
  | none => M.2.2.2 = none ∧ decode M.2.1 pc = .ok (.return_, 1)
  | some (.int v) => ∃ ty : FieldType, M.2.2.2 = some ty ∧ narrow ty (.int v) = .int v ∧ decode M.2.1 pc = .ok (.ireturn, 1)
  | some (.long _) => M.2.2.2 = some .long ∧ decode M.2.1 pc = .ok (.lreturn, 1)
  | some (.ref _) => ((∃ n, M.2.2.2 = some (.object n)) ∨ ∃ t, M.2.2.2 = some (.array t)) ∧ decode M.2.1 pc = .ok (.areturn, 1)
  | some .null => (∃ n, M.2.2.2 = some (.object n)) ∧ decode M.2.1 pc = .ok (.areturn, 1)
  | _ => False
def z_RET (g : zG) (gr : Bool) (M : zM) (p : Program) (e : Env) (R : Room) (s : State) (m : MethodId) (args : Array Value) (below : List Frame) (meth : Method) (c : Code) (mc ms : Nat) (QQ : State → Prop) (Q : Option Value → zH → Prop) : Prop :=
  ∀ (H : Heap) (locs : List Loc) (cells slots : Nat) (real : Array Slot) (pc : Nat) (r : Option Value) (h : zH), cells ≤ mc → slots ≤ ms → z_Rel g gr h H → z_lo g (g_B g) locs → Q r h → z_rv M pc r → W p (g_l g) e R s m args below meth c H locs cells slots QQ (F0 m pc real (r.toList.map (z_tr g)))
/-- at a place of a method's run: from any heap that holds h it comes to an end with Q; C cells of S slots may still be made -/
def WP (g : zG) (gr : Bool) (d : Nat) (M : zM) (C S pc : Nat) (ls st : List Value) (h : zH) (Q : Option Value → zH → Prop) : Prop :=
  ∀ (p : Program) (e : Env) (R : Room) (s : State) (m : MethodId) (args : Array Value) (below : List Frame) (meth : Method) (c : Code) (mc ms : Nat) (QQ : State → Prop),
    z_FX g d M p R s m args meth c → z_RET g gr M p e R s m args below meth c mc ms QQ Q → mc ≤ R.cells → ms ≤ R.slots →
    ∀ (H : Heap) (locs : List Loc) (cells slots : Nat) (real : Array Slot), z_Rel g gr h H → z_lo g (g_B g) locs → lv_has real M.2.2.1 (z_asc g ls 0) → cells + C ≤ mc → slots + S ≤ ms →
      W p (g_l g) e R s m args below meth c H locs cells slots QQ (F0 m pc real (st.map (z_tr g)))
abbrev z_rm (d C S : Nat) : Room := { frames := d, cells := C, slots := S, locals := 40 * d }
/-- a method's contract -/
def Ok (g : zG) (gr : Bool) (d : Nat) (M : zM) (C S : Nat) (av : List Value) (h : zH) (Q : Option Value → zH → Prop) : Prop :=
  Met (g_l g) M.1 (z_W M) (z_rm d C S) (va_Pc (av.map (z_tr g)) (fun U => z_KK g U ∧ z_Rel g gr h U.heap)) (fun _ _ o t => ∃ (r : Option Value) (h2 : zH), o = .returned (r.map (z_tr g)) ∧ Q r h2 ∧ z_Rel g gr h2 t.heap) C S (fun q => g_B g ≤ q + 1)
