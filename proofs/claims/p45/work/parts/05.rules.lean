/-! rules of the machine in short, one an instruction -/
section ZRules
variable {g : zG} {gr : Bool} {d : Nat} {M : zM} {C S pc : Nat} {ls st : List Value} {h : zH} {Q : Option Value → zH → Prop}
theorem z_asc_mem (g : zG) : ∀ (ls : List Value) (b i : Nat) (v : Value), (i, v) ∈ z_asc g ls b ↔ ∃ (j : Nat) (w : Value), i = b + j ∧ ls[j]? = some w ∧ z_is w = true ∧ v = z_tr g w := by
  intro ls
  induction ls with
  | nil => intro b i v; simp [z_asc]
  | cons x xs ih =>
    intro b i v
    have key : (∃ (j : Nat) (w : Value), i = b + j ∧ (x :: xs)[j]? = some w ∧ z_is w = true ∧ v = z_tr g w) ↔ ((i = b ∧ z_is x = true ∧ v = z_tr g x) ∨ ∃ (j : Nat) (w : Value), i = (b + 1) + j ∧ xs[j]? = some w ∧ z_is w = true ∧ v = z_tr g w) := by
      constructor
      · rintro ⟨j, w, h1, h2, h3, h4⟩
        cases j with
        | zero => simp at h2; subst h2; exact Or.inl ⟨by omega, h3, h4⟩
        | succ j => exact Or.inr ⟨j, w, by omega, by simpa using h2, h3, h4⟩
      · rintro (⟨h1, h2, h3⟩ | ⟨j, w, h1, h2, h3, h4⟩)
        · exact ⟨0, x, by omega, rfl, h2, h3⟩
        · exact ⟨j + 1, w, by omega, by simpa using h2, h3, h4⟩
    rw [key]
    unfold z_asc
    by_cases hx : z_is x = true
    · rw [if_pos hx, List.mem_cons, ih]
      constructor
      · rintro (h | h)
        · cases h; exact Or.inl ⟨rfl, hx, rfl⟩
        · exact Or.inr h
      · rintro (⟨h1, h2, h3⟩ | h)
        · subst h1; subst h3; exact Or.inl rfl
        · exact Or.inr h
    · rw [if_neg hx, ih]
      constructor
      · exact Or.inr
      · rintro (⟨h1, h2, h3⟩ | h)
        · exact absurd h2 hx
        · exact h
theorem z_load {nL : Nat} {real : Array Slot} (lv : lv_has real nL (z_asc g ls 0)) {i : Nat} {w : Value} (hl : ls[i]? = some w) (hw : z_is w = true) : real[i]? = some (.val (z_tr g w)) :=
  lv.2.2 (i, z_tr g w) ((z_asc_mem g ls 0 i _).mpr ⟨i, w, (Nat.zero_add i).symm, hl, hw, rfl⟩)
/-- the slot ahead of i holds no long -/
def z_nl (ls : List Value) : Nat → Bool
  | 0 => true
  | i + 1 => match ls[i]? with
    | some (.long _) => false
    | some (.double _) => false
    | _ => true
theorem z_nl_spec {ls : List Value} {i j : Nat} {w : Value} (hb : z_nl ls i = true) (hj : j + 1 = i) (hl : ls[j]? = some w) : w.category = 1 := by
  subst hj
  simp only [z_nl, hl] at hb
  cases w <;> simp_all [Value.category]
theorem z_mono {nL : Nat} {real : Array Slot} {l l' : List (Nat × Value)} (h : lv_has real nL l) (hs : ∀ q ∈ l', q ∈ l) : lv_has real nL l' := ⟨h.1, h.2.1, fun q hq => h.2.2 q (hs q hq)⟩
theorem z_store {nL i : Nat} {real : Array Slot} {v : Value} (lv : lv_has real nL ((i, z_tr g v) :: (z_asc g ls 0).filter (fun q => !(q.1 == i) && !(q.1 + 1 == i && q.2.category == 2)))) (hb : z_nl ls i = true) : lv_has real nL (z_asc g (ls.set i v) 0) := by
  refine z_mono lv ?_
  rintro ⟨q1, q2⟩ hq
  obtain ⟨j, w, h1, h2, h3, h4⟩ := (z_asc_mem g _ 0 _ _).mp hq
  rw [Nat.zero_add] at h1
  subst h1; subst h4
  by_cases hji : q1 = i
  · subst hji
    rw [List.getElem?_set] at h2
    simp only [if_true] at h2
    by_cases hlt : q1 < ls.length
    · rw [if_pos hlt] at h2
      cases h2
      exact List.mem_cons_self
    · rw [if_neg hlt] at h2; cases h2
  · rw [List.getElem?_set_ne (fun e => hji e.symm)] at h2
    refine List.mem_cons_of_mem _ (List.mem_filter.mpr ⟨(z_asc_mem g ls 0 _ _).mpr ⟨q1, w, (Nat.zero_add _).symm, h2, h3, rfl⟩, ?_⟩)
    by_cases h5 : q1 + 1 = i
    · have h6 := z_nl_spec hb h5 h2
      simp [hji, z_tr_cat, h6]
    · simp [hji, h5]
theorem z_store2 {nL i : Nat} {real : Array Slot} {x : Int64} (lv : lv_has real nL ((i, Value.long x) :: (z_asc g ls 0).filter (fun q => !(q.1 == i) && (!(q.1 == i + 1) && !(q.1 + 1 == i && q.2.category == 2))))) (hb : z_nl ls i = true) : lv_has real nL (z_asc g ((ls.set i (.long x)).set (i + 1) (.retAddr 1)) 0) := by
  refine z_mono lv ?_
  rintro ⟨q1, q2⟩ hq
  obtain ⟨j, w, h1, h2, h3, h4⟩ := (z_asc_mem g _ 0 _ _).mp hq
  rw [Nat.zero_add] at h1
  subst h1; subst h4
  by_cases hj1 : q1 = i + 1
  · subst hj1
    rw [List.getElem?_set] at h2
    simp only [if_true] at h2
    split at h2
    · cases h2; cases h3
    · cases h2
  · rw [List.getElem?_set_ne (fun e => hj1 e.symm)] at h2
    by_cases hji : q1 = i
    · subst hji
      rw [List.getElem?_set] at h2
      simp only [if_true] at h2
      split at h2
      · cases h2
        exact List.mem_cons_self
      · cases h2
    · rw [List.getElem?_set_ne (fun e => hji e.symm)] at h2
      refine List.mem_cons_of_mem _ (List.mem_filter.mpr ⟨(z_asc_mem g ls 0 _ _).mpr ⟨q1, w, (Nat.zero_add _).symm, h2, h3, rfl⟩, ?_⟩)
      by_cases h5 : q1 + 1 = i
      · have h6 := z_nl_spec hb h5 h2
        simp [hji, hj1, z_tr_cat, h6]
      · simp [hji, hj1, h5]
theorem r_iadd {x y : Int32} (hd : decode M.2.1 pc = .ok (.iadd, 1)) (k : WP g gr d M C S (pc + 1) ls (.int (x + y) :: st) h Q) : WP g gr d M C S pc ls (.int y :: .int x :: st) h Q := by
  intro p e R s m args below meth c mc ms QQ fx ret hmc hms H locs cells slots real rel lo lv hc hs
  exact lv_iadd fx.1.1 fx.1.2.1 hd (k p e R s m args below meth c mc ms QQ fx ret hmc hms H locs cells slots real rel lo lv hc hs)
theorem r_isub {x y : Int32} (hd : decode M.2.1 pc = .ok (.isub, 1)) (k : WP g gr d M C S (pc + 1) ls (.int (x - y) :: st) h Q) : WP g gr d M C S pc ls (.int y :: .int x :: st) h Q := by
  intro p e R s m args below meth c mc ms QQ fx ret hmc hms H locs cells slots real rel lo lv hc hs
  exact lv_isub fx.1.1 fx.1.2.1 hd (k p e R s m args below meth c mc ms QQ fx ret hmc hms H locs cells slots real rel lo lv hc hs)
theorem r_imul {x y : Int32} (hd : decode M.2.1 pc = .ok (.imul, 1)) (k : WP g gr d M C S (pc + 1) ls (.int (x * y) :: st) h Q) : WP g gr d M C S pc ls (.int y :: .int x :: st) h Q := by
  intro p e R s m args below meth c mc ms QQ fx ret hmc hms H locs cells slots real rel lo lv hc hs
  exact lv_imul fx.1.1 fx.1.2.1 hd (k p e R s m args below meth c mc ms QQ fx ret hmc hms H locs cells slots real rel lo lv hc hs)
theorem r_iand {x y : Int32} (hd : decode M.2.1 pc = .ok (.iand, 1)) (k : WP g gr d M C S (pc + 1) ls (.int (x &&& y) :: st) h Q) : WP g gr d M C S pc ls (.int y :: .int x :: st) h Q := by
  intro p e R s m args below meth c mc ms QQ fx ret hmc hms H locs cells slots real rel lo lv hc hs
  exact lv_iand fx.1.1 fx.1.2.1 hd (k p e R s m args below meth c mc ms QQ fx ret hmc hms H locs cells slots real rel lo lv hc hs)
theorem r_ior {x y : Int32} (hd : decode M.2.1 pc = .ok (.ior, 1)) (k : WP g gr d M C S (pc + 1) ls (.int (x ||| y) :: st) h Q) : WP g gr d M C S pc ls (.int y :: .int x :: st) h Q := by
  intro p e R s m args below meth c mc ms QQ fx ret hmc hms H locs cells slots real rel lo lv hc hs
  exact lv_ior fx.1.1 fx.1.2.1 hd (k p e R s m args below meth c mc ms QQ fx ret hmc hms H locs cells slots real rel lo lv hc hs)
theorem r_ixor {x y : Int32} (hd : decode M.2.1 pc = .ok (.ixor, 1)) (k : WP g gr d M C S (pc + 1) ls (.int (x ^^^ y) :: st) h Q) : WP g gr d M C S pc ls (.int y :: .int x :: st) h Q := by
  intro p e R s m args below meth c mc ms QQ fx ret hmc hms H locs cells slots real rel lo lv hc hs
  exact lv_ixor fx.1.1 fx.1.2.1 hd (k p e R s m args below meth c mc ms QQ fx ret hmc hms H locs cells slots real rel lo lv hc hs)
theorem r_ishl {x y : Int32} (hd : decode M.2.1 pc = .ok (.ishl, 1)) (k : WP g gr d M C S (pc + 1) ls (.int (x <<< (y &&& 31)) :: st) h Q) : WP g gr d M C S pc ls (.int y :: .int x :: st) h Q := by
  intro p e R s m args below meth c mc ms QQ fx ret hmc hms H locs cells slots real rel lo lv hc hs
  exact lv_ishl fx.1.1 fx.1.2.1 hd (k p e R s m args below meth c mc ms QQ fx ret hmc hms H locs cells slots real rel lo lv hc hs)
theorem r_ishr {x y : Int32} (hd : decode M.2.1 pc = .ok (.ishr, 1)) (k : WP g gr d M C S (pc + 1) ls (.int (x >>> (y &&& 31)) :: st) h Q) : WP g gr d M C S pc ls (.int y :: .int x :: st) h Q := by
  intro p e R s m args below meth c mc ms QQ fx ret hmc hms H locs cells slots real rel lo lv hc hs
  exact lv_ishr fx.1.1 fx.1.2.1 hd (k p e R s m args below meth c mc ms QQ fx ret hmc hms H locs cells slots real rel lo lv hc hs)
theorem r_iushr {x y : Int32} (hd : decode M.2.1 pc = .ok (.iushr, 1)) (k : WP g gr d M C S (pc + 1) ls (.int (x.toUInt32 >>> (y.toUInt32 &&& Int32.toUInt32 31)).toInt32 :: st) h Q) : WP g gr d M C S pc ls (.int y :: .int x :: st) h Q := by
  intro p e R s m args below meth c mc ms QQ fx ret hmc hms H locs cells slots real rel lo lv hc hs
  exact lv_iushr fx.1.1 fx.1.2.1 hd rfl (k p e R s m args below meth c mc ms QQ fx ret hmc hms H locs cells slots real rel lo lv hc hs)
theorem r_idiv {x y : Int32} (hd : decode M.2.1 pc = .ok (.idiv, 1)) (hne : ¬ y = 0) (k : WP g gr d M C S (pc + 1) ls (.int (x / y) :: st) h Q) : WP g gr d M C S pc ls (.int y :: .int x :: st) h Q := by
  intro p e R s m args below meth c mc ms QQ fx ret hmc hms H locs cells slots real rel lo lv hc hs
  exact lv_idiv fx.1.1 fx.1.2.1 hd hne (k p e R s m args below meth c mc ms QQ fx ret hmc hms H locs cells slots real rel lo lv hc hs)
theorem r_irem {x y : Int32} (hd : decode M.2.1 pc = .ok (.irem, 1)) (hne : ¬ y = 0) (k : WP g gr d M C S (pc + 1) ls (.int (x - x / y * y) :: st) h Q) : WP g gr d M C S pc ls (.int y :: .int x :: st) h Q := by
  intro p e R s m args below meth c mc ms QQ fx ret hmc hms H locs cells slots real rel lo lv hc hs
  exact lv_irem fx.1.1 fx.1.2.1 hd hne (k p e R s m args below meth c mc ms QQ fx ret hmc hms H locs cells slots real rel lo lv hc hs)
theorem r_lmul {x y : Int64} (hd : decode M.2.1 pc = .ok (.lmul, 1)) (k : WP g gr d M C S (pc + 1) ls (.long (x * y) :: st) h Q) : WP g gr d M C S pc ls (.long y :: .long x :: st) h Q := by
  intro p e R s m args below meth c mc ms QQ fx ret hmc hms H locs cells slots real rel lo lv hc hs
  exact lv_lmul fx.1.1 fx.1.2.1 hd (k p e R s m args below meth c mc ms QQ fx ret hmc hms H locs cells slots real rel lo lv hc hs)
theorem r_lor {x y : Int64} (hd : decode M.2.1 pc = .ok (.lor, 1)) (k : WP g gr d M C S (pc + 1) ls (.long (x ||| y) :: st) h Q) : WP g gr d M C S pc ls (.long y :: .long x :: st) h Q := by
  intro p e R s m args below meth c mc ms QQ fx ret hmc hms H locs cells slots real rel lo lv hc hs
  exact lv_lor fx.1.1 fx.1.2.1 hd (k p e R s m args below meth c mc ms QQ fx ret hmc hms H locs cells slots real rel lo lv hc hs)
theorem r_lrem {x y : Int64} (hd : decode M.2.1 pc = .ok (.lrem, 1)) (hne : ¬ y = 0) (k : WP g gr d M C S (pc + 1) ls (.long (x - x / y * y) :: st) h Q) : WP g gr d M C S pc ls (.long y :: .long x :: st) h Q := by
  intro p e R s m args below meth c mc ms QQ fx ret hmc hms H locs cells slots real rel lo lv hc hs
  exact lv_lrem fx.1.1 fx.1.2.1 hd hne (k p e R s m args below meth c mc ms QQ fx ret hmc hms H locs cells slots real rel lo lv hc hs)
theorem r_lshl {x : Int64} {y : Int32} (hd : decode M.2.1 pc = .ok (.lshl, 1)) (k : WP g gr d M C S (pc + 1) ls (.long (x <<< (y.toInt64 &&& 63)) :: st) h Q) : WP g gr d M C S pc ls (.int y :: .long x :: st) h Q := by
  intro p e R s m args below meth c mc ms QQ fx ret hmc hms H locs cells slots real rel lo lv hc hs
  exact lv_lshl fx.1.1 fx.1.2.1 hd rfl (k p e R s m args below meth c mc ms QQ fx ret hmc hms H locs cells slots real rel lo lv hc hs)
theorem r_lcmp {x y : Int64} (hd : decode M.2.1 pc = .ok (.lcmp, 1)) (k : WP g gr d M C S (pc + 1) ls (.int (lg_cmp x y) :: st) h Q) : WP g gr d M C S pc ls (.long y :: .long x :: st) h Q := by
  intro p e R s m args below meth c mc ms QQ fx ret hmc hms H locs cells slots real rel lo lv hc hs
  exact W.lcmp fx.1.1 fx.1.2.1 hd (k p e R s m args below meth c mc ms QQ fx ret hmc hms H locs cells slots real rel lo lv hc hs)
theorem r_i2l {x : Int32} (hd : decode M.2.1 pc = .ok (.i2l, 1)) (k : WP g gr d M C S (pc + 1) ls (.long x.toInt64 :: st) h Q) : WP g gr d M C S pc ls (.int x :: st) h Q := by
  intro p e R s m args below meth c mc ms QQ fx ret hmc hms H locs cells slots real rel lo lv hc hs
  exact lv_i2l fx.1.1 fx.1.2.1 hd rfl (k p e R s m args below meth c mc ms QQ fx ret hmc hms H locs cells slots real rel lo lv hc hs)
theorem r_l2i {x : Int64} (hd : decode M.2.1 pc = .ok (.l2i, 1)) (k : WP g gr d M C S (pc + 1) ls (.int x.toInt32 :: st) h Q) : WP g gr d M C S pc ls (.long x :: st) h Q := by
  intro p e R s m args below meth c mc ms QQ fx ret hmc hms H locs cells slots real rel lo lv hc hs
  exact lv_l2i fx.1.1 fx.1.2.1 hd rfl (k p e R s m args below meth c mc ms QQ fx ret hmc hms H locs cells slots real rel lo lv hc hs)
theorem r_iconst {n : Int} (v : Int32) (hd : decode M.2.1 pc = .ok (.iconst n, 1)) (hv : Int32.ofInt n = v) (k : WP g gr d M C S (pc + 1) ls (.int v :: st) h Q) : WP g gr d M C S pc ls (st) h Q := by
  intro p e R s m args below meth c mc ms QQ fx ret hmc hms H locs cells slots real rel lo lv hc hs
  exact lv_iconst fx.1.1 fx.1.2.1 hd hv (k p e R s m args below meth c mc ms QQ fx ret hmc hms H locs cells slots real rel lo lv hc hs)
theorem r_bipush {n : Int} (v : Int32) (hd : decode M.2.1 pc = .ok (.bipush n, 2)) (hv : (Int8.ofInt n).toInt32 = v) (k : WP g gr d M C S (pc + 2) ls (.int v :: st) h Q) : WP g gr d M C S pc ls (st) h Q := by
  intro p e R s m args below meth c mc ms QQ fx ret hmc hms H locs cells slots real rel lo lv hc hs
  exact lv_bipush fx.1.1 fx.1.2.1 hd hv (k p e R s m args below meth c mc ms QQ fx ret hmc hms H locs cells slots real rel lo lv hc hs)
theorem r_sipush {n : Int} (v : Int32) (hd : decode M.2.1 pc = .ok (.sipush n, 3)) (hv : (Int16.ofInt n).toInt32 = v) (k : WP g gr d M C S (pc + 3) ls (.int v :: st) h Q) : WP g gr d M C S pc ls (st) h Q := by
  intro p e R s m args below meth c mc ms QQ fx ret hmc hms H locs cells slots real rel lo lv hc hs
  exact lv_sipush fx.1.1 fx.1.2.1 hd hv (k p e R s m args below meth c mc ms QQ fx ret hmc hms H locs cells slots real rel lo lv hc hs)
theorem r_lconst {n : Fin 2} (v : Int64) (hd : decode M.2.1 pc = .ok (.lconst n, 1)) (hv : Int64.ofNat (n : Nat) = v) (k : WP g gr d M C S (pc + 1) ls (.long v :: st) h Q) : WP g gr d M C S pc ls (st) h Q := by
  intro p e R s m args below meth c mc ms QQ fx ret hmc hms H locs cells slots real rel lo lv hc hs
  exact lv_lconst fx.1.1 fx.1.2.1 hd hv (k p e R s m args below meth c mc ms QQ fx ret hmc hms H locs cells slots real rel lo lv hc hs)
theorem r_null (hd : decode M.2.1 pc = .ok (.aconst_null, 1)) (k : WP g gr d M C S (pc + 1) ls (.null :: st) h Q) : WP g gr d M C S pc ls (st) h Q := by
  intro p e R s m args below meth c mc ms QQ fx ret hmc hms H locs cells slots real rel lo lv hc hs
  exact lv_null fx.1.1 fx.1.2.1 hd (k p e R s m args below meth c mc ms QQ fx ret hmc hms H locs cells slots real rel lo lv hc hs)
theorem r_ldc {ix : Nat} {v : Int32} (hd : decode M.2.1 pc = .ok (.ldc ix, 2)) (hw : Cond.constant M.1.cls ix v ∈ lw_good) (k : WP g gr d M C S (pc + 2) ls (.int v :: st) h Q) : WP g gr d M C S pc ls (st) h Q := by
  intro p e R s m args below meth c mc ms QQ fx ret hmc hms H locs cells slots real rel lo lv hc hs
  exact lv_ldc fx.1.1 fx.1.2.1 fx.1.2.2.2.1 (fx.1.2.2.2.2 _ hw) hd (k p e R s m args below meth c mc ms QQ fx ret hmc hms H locs cells slots real rel lo lv hc hs)
theorem r_ldcw {ix : Nat} {v : Int32} (hd : decode M.2.1 pc = .ok (.ldc_w ix, 3)) (hw : Cond.constant M.1.cls ix v ∈ lw_good) (k : WP g gr d M C S (pc + 3) ls (.int v :: st) h Q) : WP g gr d M C S pc ls (st) h Q := by
  intro p e R s m args below meth c mc ms QQ fx ret hmc hms H locs cells slots real rel lo lv hc hs
  exact lv_ldcw fx.1.1 fx.1.2.1 fx.1.2.2.2.1 (fx.1.2.2.2.2 _ hw) hd (k p e R s m args below meth c mc ms QQ fx ret hmc hms H locs cells slots real rel lo lv hc hs)
theorem r_ldc2 {ix : Nat} {v : Int64} (hd : decode M.2.1 pc = .ok (.ldc2_w ix, 3)) (hw : Cond.constantLong M.1.cls ix v ∈ lw_good) (k : WP g gr d M C S (pc + 3) ls (.long v :: st) h Q) : WP g gr d M C S pc ls (st) h Q := by
  intro p e R s m args below meth c mc ms QQ fx ret hmc hms H locs cells slots real rel lo lv hc hs
  exact lv_ldc2 fx.1.1 fx.1.2.1 fx.1.2.2.2.1 (fx.1.2.2.2.2 _ hw) hd (k p e R s m args below meth c mc ms QQ fx ret hmc hms H locs cells slots real rel lo lv hc hs)
theorem r_iload_n {kk : Fin 4} {x : Int32} (i : Nat) (hd : decode M.2.1 pc = .ok (.iload_n kk, 1)) (hi : (kk : Nat) = i) (hl : ls[i]? = some (.int x)) (k : WP g gr d M C S (pc + 1) ls (.int x :: st) h Q) : WP g gr d M C S pc ls (st) h Q := by
  intro p e R s m args below meth c mc ms QQ fx ret hmc hms H locs cells slots real rel lo lv hc hs
  exact lv_iload_n fx.1.1 fx.1.2.1 hd hi (z_load lv hl rfl) (k p e R s m args below meth c mc ms QQ fx ret hmc hms H locs cells slots real rel lo lv hc hs)
theorem r_iload {x : Int32} {i : Nat} (hd : decode M.2.1 pc = .ok (.iload i, 2)) (hl : ls[i]? = some (.int x)) (k : WP g gr d M C S (pc + 2) ls (.int x :: st) h Q) : WP g gr d M C S pc ls (st) h Q := by
  intro p e R s m args below meth c mc ms QQ fx ret hmc hms H locs cells slots real rel lo lv hc hs
  exact lv_iload fx.1.1 fx.1.2.1 hd (z_load lv hl rfl) (k p e R s m args below meth c mc ms QQ fx ret hmc hms H locs cells slots real rel lo lv hc hs)
theorem r_lload_n {kk : Fin 4} {x : Int64} (i : Nat) (hd : decode M.2.1 pc = .ok (.lload_n kk, 1)) (hi : (kk : Nat) = i) (hl : ls[i]? = some (.long x)) (k : WP g gr d M C S (pc + 1) ls (.long x :: st) h Q) : WP g gr d M C S pc ls (st) h Q := by
  intro p e R s m args below meth c mc ms QQ fx ret hmc hms H locs cells slots real rel lo lv hc hs
  exact lv_lload_n fx.1.1 fx.1.2.1 hd hi (z_load lv hl rfl) (k p e R s m args below meth c mc ms QQ fx ret hmc hms H locs cells slots real rel lo lv hc hs)
theorem r_lload {x : Int64} {i : Nat} (hd : decode M.2.1 pc = .ok (.lload i, 2)) (hl : ls[i]? = some (.long x)) (k : WP g gr d M C S (pc + 2) ls (.long x :: st) h Q) : WP g gr d M C S pc ls (st) h Q := by
  intro p e R s m args below meth c mc ms QQ fx ret hmc hms H locs cells slots real rel lo lv hc hs
  exact lv_lload fx.1.1 fx.1.2.1 hd (z_load lv hl rfl) (k p e R s m args below meth c mc ms QQ fx ret hmc hms H locs cells slots real rel lo lv hc hs)
theorem r_aload_n {kk : Fin 4} {x : Nat} (i : Nat) (hd : decode M.2.1 pc = .ok (.aload_n kk, 1)) (hi : (kk : Nat) = i) (hl : ls[i]? = some (.ref x)) (k : WP g gr d M C S (pc + 1) ls (.ref x :: st) h Q) : WP g gr d M C S pc ls (st) h Q := by
  intro p e R s m args below meth c mc ms QQ fx ret hmc hms H locs cells slots real rel lo lv hc hs
  exact lv_aload_n fx.1.1 fx.1.2.1 hd hi (z_load lv hl rfl) (k p e R s m args below meth c mc ms QQ fx ret hmc hms H locs cells slots real rel lo lv hc hs)
theorem r_aload {x : Nat} {i : Nat} (hd : decode M.2.1 pc = .ok (.aload i, 2)) (hl : ls[i]? = some (.ref x)) (k : WP g gr d M C S (pc + 2) ls (.ref x :: st) h Q) : WP g gr d M C S pc ls (st) h Q := by
  intro p e R s m args below meth c mc ms QQ fx ret hmc hms H locs cells slots real rel lo lv hc hs
  exact lv_aload fx.1.1 fx.1.2.1 hd (z_load lv hl rfl) (k p e R s m args below meth c mc ms QQ fx ret hmc hms H locs cells slots real rel lo lv hc hs)
theorem r_aloadN_n {kk : Fin 4} (i : Nat) (hd : decode M.2.1 pc = .ok (.aload_n kk, 1)) (hi : (kk : Nat) = i) (hl : ls[i]? = some .null) (k : WP g gr d M C S (pc + 1) ls (.null :: st) h Q) : WP g gr d M C S pc ls (st) h Q := by
  intro p e R s m args below meth c mc ms QQ fx ret hmc hms H locs cells slots real rel lo lv hc hs
  exact lv_aload_nN fx.1.1 fx.1.2.1 hd hi (z_load lv hl rfl) (k p e R s m args below meth c mc ms QQ fx ret hmc hms H locs cells slots real rel lo lv hc hs)
theorem r_aloadN {i : Nat} (hd : decode M.2.1 pc = .ok (.aload i, 2)) (hl : ls[i]? = some .null) (k : WP g gr d M C S (pc + 2) ls (.null :: st) h Q) : WP g gr d M C S pc ls (st) h Q := by
  intro p e R s m args below meth c mc ms QQ fx ret hmc hms H locs cells slots real rel lo lv hc hs
  exact lv_aloadN fx.1.1 fx.1.2.1 hd (z_load lv hl rfl) (k p e R s m args below meth c mc ms QQ fx ret hmc hms H locs cells slots real rel lo lv hc hs)
theorem r_istore_n {kk : Fin 4} {x : Int32} (i : Nat) (hd : decode M.2.1 pc = .ok (.istore_n kk, 1)) (hi : (kk : Nat) = i) (hn : i < M.2.2.1) (hb : z_nl ls i = true) (k : WP g gr d M C S (pc + 1) (ls.set i (.int x)) st h Q) : WP g gr d M C S pc ls (.int x :: st) h Q := by
  intro p e R s m args below meth c mc ms QQ fx ret hmc hms H locs cells slots real rel lo lv hc hs
  exact lv_istore_n fx.1.1 fx.1.2.1 hd hi lv hn rfl (fun ls1 lv1 => (k p e R s m args below meth c mc ms QQ fx ret hmc hms H locs cells slots ls1 rel lo (z_store (v := .int x) lv1 hb) hc hs))
theorem r_istore {x : Int32} {i : Nat} (hd : decode M.2.1 pc = .ok (.istore i, 2)) (hn : i < M.2.2.1) (hb : z_nl ls i = true) (k : WP g gr d M C S (pc + 2) (ls.set i (.int x)) st h Q) : WP g gr d M C S pc ls (.int x :: st) h Q := by
  intro p e R s m args below meth c mc ms QQ fx ret hmc hms H locs cells slots real rel lo lv hc hs
  exact lv_istore fx.1.1 fx.1.2.1 hd lv hn rfl (fun ls1 lv1 => (k p e R s m args below meth c mc ms QQ fx ret hmc hms H locs cells slots ls1 rel lo (z_store (v := .int x) lv1 hb) hc hs))
theorem r_astore_n {kk : Fin 4} {x : Nat} (i : Nat) (hd : decode M.2.1 pc = .ok (.astore_n kk, 1)) (hi : (kk : Nat) = i) (hn : i < M.2.2.1) (hb : z_nl ls i = true) (k : WP g gr d M C S (pc + 1) (ls.set i (.ref x)) st h Q) : WP g gr d M C S pc ls (.ref x :: st) h Q := by
  intro p e R s m args below meth c mc ms QQ fx ret hmc hms H locs cells slots real rel lo lv hc hs
  exact lv_astore_n fx.1.1 fx.1.2.1 hd hi lv hn rfl (fun ls1 lv1 => (k p e R s m args below meth c mc ms QQ fx ret hmc hms H locs cells slots ls1 rel lo (z_store (v := .ref x) lv1 hb) hc hs))
theorem r_astore {x : Nat} {i : Nat} (hd : decode M.2.1 pc = .ok (.astore i, 2)) (hn : i < M.2.2.1) (hb : z_nl ls i = true) (k : WP g gr d M C S (pc + 2) (ls.set i (.ref x)) st h Q) : WP g gr d M C S pc ls (.ref x :: st) h Q := by
  intro p e R s m args below meth c mc ms QQ fx ret hmc hms H locs cells slots real rel lo lv hc hs
  exact lv_astore fx.1.1 fx.1.2.1 hd lv hn rfl (fun ls1 lv1 => (k p e R s m args below meth c mc ms QQ fx ret hmc hms H locs cells slots ls1 rel lo (z_store (v := .ref x) lv1 hb) hc hs))
theorem r_astoreN_n {kk : Fin 4} (i : Nat) (hd : decode M.2.1 pc = .ok (.astore_n kk, 1)) (hi : (kk : Nat) = i) (hn : i < M.2.2.1) (hb : z_nl ls i = true) (k : WP g gr d M C S (pc + 1) (ls.set i (.null)) st h Q) : WP g gr d M C S pc ls (.null :: st) h Q := by
  intro p e R s m args below meth c mc ms QQ fx ret hmc hms H locs cells slots real rel lo lv hc hs
  exact lv_astore_nN fx.1.1 fx.1.2.1 hd hi lv hn rfl (fun ls1 lv1 => (k p e R s m args below meth c mc ms QQ fx ret hmc hms H locs cells slots ls1 rel lo (z_store (v := .null) lv1 hb) hc hs))
theorem r_astoreN {i : Nat} (hd : decode M.2.1 pc = .ok (.astore i, 2)) (hn : i < M.2.2.1) (hb : z_nl ls i = true) (k : WP g gr d M C S (pc + 2) (ls.set i (.null)) st h Q) : WP g gr d M C S pc ls (.null :: st) h Q := by
  intro p e R s m args below meth c mc ms QQ fx ret hmc hms H locs cells slots real rel lo lv hc hs
  exact lv_astoreN fx.1.1 fx.1.2.1 hd lv hn rfl (fun ls1 lv1 => (k p e R s m args below meth c mc ms QQ fx ret hmc hms H locs cells slots ls1 rel lo (z_store (v := .null) lv1 hb) hc hs))
theorem r_lstore_n {kk : Fin 4} {x : Int64} (i : Nat) (hd : decode M.2.1 pc = .ok (.lstore_n kk, 1)) (hi : (kk : Nat) = i) (hn : i + 1 < M.2.2.1) (hb : z_nl ls i = true) (k : WP g gr d M C S (pc + 1) ((ls.set i (.long x)).set (i + 1) (.retAddr 1)) st h Q) : WP g gr d M C S pc ls (.long x :: st) h Q := by
  intro p e R s m args below meth c mc ms QQ fx ret hmc hms H locs cells slots real rel lo lv hc hs
  exact lv_lstore_n fx.1.1 fx.1.2.1 hd hi lv hn rfl (fun ls1 lv1 => (k p e R s m args below meth c mc ms QQ fx ret hmc hms H locs cells slots ls1 rel lo (z_store2 lv1 hb) hc hs))
theorem r_lstore {x : Int64} {i : Nat} (hd : decode M.2.1 pc = .ok (.lstore i, 2)) (hn : i + 1 < M.2.2.1) (hb : z_nl ls i = true) (k : WP g gr d M C S (pc + 2) ((ls.set i (.long x)).set (i + 1) (.retAddr 1)) st h Q) : WP g gr d M C S pc ls (.long x :: st) h Q := by
  intro p e R s m args below meth c mc ms QQ fx ret hmc hms H locs cells slots real rel lo lv hc hs
  exact lv_lstore fx.1.1 fx.1.2.1 hd lv hn rfl (fun ls1 lv1 => (k p e R s m args below meth c mc ms QQ fx ret hmc hms H locs cells slots ls1 rel lo (z_store2 lv1 hb) hc hs))
theorem r_iinc {n : Int} {x : Int32} (i : Nat) (v : Int32) (hd : decode M.2.1 pc = .ok (.iinc i n, 3)) (hv : Int32.ofInt n = v) (hl : ls[i]? = some (.int x)) (hn : i < M.2.2.1) (hb : z_nl ls i = true) (k : WP g gr d M C S (pc + 3) (ls.set i (.int (x + v))) st h Q) : WP g gr d M C S pc ls (st) h Q := by
  intro p e R s m args below meth c mc ms QQ fx ret hmc hms H locs cells slots real rel lo lv hc hs
  obtain ⟨k9, hk9⟩ := List.getElem?_of_mem ((z_asc_mem g ls 0 i (.int x)).mpr ⟨i, .int x, (Nat.zero_add i).symm, hl, rfl, rfl⟩)
  exact lv_iinc fx.1.1 fx.1.2.1 hd lv hk9 (by rw [hv]) hn rfl (fun ls1 lv1 => (k p e R s m args below meth c mc ms QQ fx ret hmc hms H locs cells slots ls1 rel lo (z_store (v := .int (x + v)) lv1 hb) hc hs))
theorem r_dup {v : Value} (hd : decode M.2.1 pc = .ok (.dup, 1)) (hc1 : v.category = 1) (k : WP g gr d M C S (pc + 1) ls (v :: v :: st) h Q) : WP g gr d M C S pc ls (v :: st) h Q := by
  intro p e R s m args below meth c mc ms QQ fx ret hmc hms H locs cells slots real rel lo lv hc hs
  exact lv_dup fx.1.1 fx.1.2.1 hd ((z_tr_cat g v).trans hc1) (k p e R s m args below meth c mc ms QQ fx ret hmc hms H locs cells slots real rel lo lv hc hs)
theorem r_dup2 {v w : Value} (hd : decode M.2.1 pc = .ok (.dup2, 1)) (hc1 : v.category = 1) (hc2 : w.category = 1) (k : WP g gr d M C S (pc + 1) ls (v :: w :: v :: w :: st) h Q) : WP g gr d M C S pc ls (v :: w :: st) h Q := by
  intro p e R s m args below meth c mc ms QQ fx ret hmc hms H locs cells slots real rel lo lv hc hs
  exact lv_dup2_11 fx.1.1 fx.1.2.1 hd ((z_tr_cat g v).trans hc1) ((z_tr_cat g w).trans hc2) (k p e R s m args below meth c mc ms QQ fx ret hmc hms H locs cells slots real rel lo lv hc hs)
theorem r_pop {v : Value} (hd : decode M.2.1 pc = .ok (.pop, 1)) (hc1 : v.category = 1) (k : WP g gr d M C S (pc + 1) ls st h Q) : WP g gr d M C S pc ls (v :: st) h Q := by
  intro p e R s m args below meth c mc ms QQ fx ret hmc hms H locs cells slots real rel lo lv hc hs
  exact lv_pop fx.1.1 fx.1.2.1 hd ((z_tr_cat g v).trans hc1) (k p e R s m args below meth c mc ms QQ fx ret hmc hms H locs cells slots real rel lo lv hc hs)
theorem r_if_eq {off : Int} {x : Int32} (tgt : Nat) (hd : decode M.2.1 pc = .ok (.ifCond .eq off, 3)) (ht : (pc : Int) + off = (tgt : Int)) (kt : x = 0 → WP g gr d M C S tgt ls st h Q) (kf : ¬ x = 0 → WP g gr d M C S (pc + 3) ls st h Q) : WP g gr d M C S pc ls (.int x :: st) h Q := by
  intro p e R s m args below meth c mc ms QQ fx ret hmc hms H locs cells slots real rel lo lv hc hs
  exact lv_if_eq fx.1.1 fx.1.2.1 hd ht (fun q => kt q p e R s m args below meth c mc ms QQ fx ret hmc hms H locs cells slots real rel lo lv hc hs) (fun q => kf q p e R s m args below meth c mc ms QQ fx ret hmc hms H locs cells slots real rel lo lv hc hs)
theorem r_icmp_eq {off : Int} {x y : Int32} (tgt : Nat) (hd : decode M.2.1 pc = .ok (.if_icmp .eq off, 3)) (ht : (pc : Int) + off = (tgt : Int)) (kt : x = y → WP g gr d M C S tgt ls st h Q) (kf : ¬ x = y → WP g gr d M C S (pc + 3) ls st h Q) : WP g gr d M C S pc ls (.int y :: .int x :: st) h Q := by
  intro p e R s m args below meth c mc ms QQ fx ret hmc hms H locs cells slots real rel lo lv hc hs
  exact lv_icmp_eq fx.1.1 fx.1.2.1 hd ht (fun q => kt q p e R s m args below meth c mc ms QQ fx ret hmc hms H locs cells slots real rel lo lv hc hs) (fun q => kf q p e R s m args below meth c mc ms QQ fx ret hmc hms H locs cells slots real rel lo lv hc hs)
theorem r_if_ne {off : Int} {x : Int32} (tgt : Nat) (hd : decode M.2.1 pc = .ok (.ifCond .ne off, 3)) (ht : (pc : Int) + off = (tgt : Int)) (kt : ¬ x = 0 → WP g gr d M C S tgt ls st h Q) (kf : x = 0 → WP g gr d M C S (pc + 3) ls st h Q) : WP g gr d M C S pc ls (.int x :: st) h Q := by
  intro p e R s m args below meth c mc ms QQ fx ret hmc hms H locs cells slots real rel lo lv hc hs
  exact lv_if_ne fx.1.1 fx.1.2.1 hd ht (fun q => kt q p e R s m args below meth c mc ms QQ fx ret hmc hms H locs cells slots real rel lo lv hc hs) (fun q => kf q p e R s m args below meth c mc ms QQ fx ret hmc hms H locs cells slots real rel lo lv hc hs)
theorem r_icmp_ne {off : Int} {x y : Int32} (tgt : Nat) (hd : decode M.2.1 pc = .ok (.if_icmp .ne off, 3)) (ht : (pc : Int) + off = (tgt : Int)) (kt : ¬ x = y → WP g gr d M C S tgt ls st h Q) (kf : x = y → WP g gr d M C S (pc + 3) ls st h Q) : WP g gr d M C S pc ls (.int y :: .int x :: st) h Q := by
  intro p e R s m args below meth c mc ms QQ fx ret hmc hms H locs cells slots real rel lo lv hc hs
  exact lv_icmp_ne fx.1.1 fx.1.2.1 hd ht (fun q => kt q p e R s m args below meth c mc ms QQ fx ret hmc hms H locs cells slots real rel lo lv hc hs) (fun q => kf q p e R s m args below meth c mc ms QQ fx ret hmc hms H locs cells slots real rel lo lv hc hs)
theorem r_if_lt {off : Int} {x : Int32} (tgt : Nat) (hd : decode M.2.1 pc = .ok (.ifCond .lt off, 3)) (ht : (pc : Int) + off = (tgt : Int)) (kt : x < 0 → WP g gr d M C S tgt ls st h Q) (kf : ¬ x < 0 → WP g gr d M C S (pc + 3) ls st h Q) : WP g gr d M C S pc ls (.int x :: st) h Q := by
  intro p e R s m args below meth c mc ms QQ fx ret hmc hms H locs cells slots real rel lo lv hc hs
  exact lv_if_lt fx.1.1 fx.1.2.1 hd ht (fun q => kt q p e R s m args below meth c mc ms QQ fx ret hmc hms H locs cells slots real rel lo lv hc hs) (fun q => kf q p e R s m args below meth c mc ms QQ fx ret hmc hms H locs cells slots real rel lo lv hc hs)
theorem r_icmp_lt {off : Int} {x y : Int32} (tgt : Nat) (hd : decode M.2.1 pc = .ok (.if_icmp .lt off, 3)) (ht : (pc : Int) + off = (tgt : Int)) (kt : x < y → WP g gr d M C S tgt ls st h Q) (kf : ¬ x < y → WP g gr d M C S (pc + 3) ls st h Q) : WP g gr d M C S pc ls (.int y :: .int x :: st) h Q := by
  intro p e R s m args below meth c mc ms QQ fx ret hmc hms H locs cells slots real rel lo lv hc hs
  exact lv_icmp_lt fx.1.1 fx.1.2.1 hd ht (fun q => kt q p e R s m args below meth c mc ms QQ fx ret hmc hms H locs cells slots real rel lo lv hc hs) (fun q => kf q p e R s m args below meth c mc ms QQ fx ret hmc hms H locs cells slots real rel lo lv hc hs)
theorem r_if_ge {off : Int} {x : Int32} (tgt : Nat) (hd : decode M.2.1 pc = .ok (.ifCond .ge off, 3)) (ht : (pc : Int) + off = (tgt : Int)) (kt : 0 ≤ x → WP g gr d M C S tgt ls st h Q) (kf : ¬ 0 ≤ x → WP g gr d M C S (pc + 3) ls st h Q) : WP g gr d M C S pc ls (.int x :: st) h Q := by
  intro p e R s m args below meth c mc ms QQ fx ret hmc hms H locs cells slots real rel lo lv hc hs
  exact lv_if_ge fx.1.1 fx.1.2.1 hd ht (fun q => kt q p e R s m args below meth c mc ms QQ fx ret hmc hms H locs cells slots real rel lo lv hc hs) (fun q => kf q p e R s m args below meth c mc ms QQ fx ret hmc hms H locs cells slots real rel lo lv hc hs)
theorem r_icmp_ge {off : Int} {x y : Int32} (tgt : Nat) (hd : decode M.2.1 pc = .ok (.if_icmp .ge off, 3)) (ht : (pc : Int) + off = (tgt : Int)) (kt : y ≤ x → WP g gr d M C S tgt ls st h Q) (kf : ¬ y ≤ x → WP g gr d M C S (pc + 3) ls st h Q) : WP g gr d M C S pc ls (.int y :: .int x :: st) h Q := by
  intro p e R s m args below meth c mc ms QQ fx ret hmc hms H locs cells slots real rel lo lv hc hs
  exact lv_icmp_ge fx.1.1 fx.1.2.1 hd ht (fun q => kt q p e R s m args below meth c mc ms QQ fx ret hmc hms H locs cells slots real rel lo lv hc hs) (fun q => kf q p e R s m args below meth c mc ms QQ fx ret hmc hms H locs cells slots real rel lo lv hc hs)
theorem r_if_gt {off : Int} {x : Int32} (tgt : Nat) (hd : decode M.2.1 pc = .ok (.ifCond .gt off, 3)) (ht : (pc : Int) + off = (tgt : Int)) (kt : 0 < x → WP g gr d M C S tgt ls st h Q) (kf : ¬ 0 < x → WP g gr d M C S (pc + 3) ls st h Q) : WP g gr d M C S pc ls (.int x :: st) h Q := by
  intro p e R s m args below meth c mc ms QQ fx ret hmc hms H locs cells slots real rel lo lv hc hs
  exact lv_if_gt fx.1.1 fx.1.2.1 hd ht (fun q => kt q p e R s m args below meth c mc ms QQ fx ret hmc hms H locs cells slots real rel lo lv hc hs) (fun q => kf q p e R s m args below meth c mc ms QQ fx ret hmc hms H locs cells slots real rel lo lv hc hs)
theorem r_icmp_gt {off : Int} {x y : Int32} (tgt : Nat) (hd : decode M.2.1 pc = .ok (.if_icmp .gt off, 3)) (ht : (pc : Int) + off = (tgt : Int)) (kt : y < x → WP g gr d M C S tgt ls st h Q) (kf : ¬ y < x → WP g gr d M C S (pc + 3) ls st h Q) : WP g gr d M C S pc ls (.int y :: .int x :: st) h Q := by
  intro p e R s m args below meth c mc ms QQ fx ret hmc hms H locs cells slots real rel lo lv hc hs
  exact lv_icmp_gt fx.1.1 fx.1.2.1 hd ht (fun q => kt q p e R s m args below meth c mc ms QQ fx ret hmc hms H locs cells slots real rel lo lv hc hs) (fun q => kf q p e R s m args below meth c mc ms QQ fx ret hmc hms H locs cells slots real rel lo lv hc hs)
theorem r_if_le {off : Int} {x : Int32} (tgt : Nat) (hd : decode M.2.1 pc = .ok (.ifCond .le off, 3)) (ht : (pc : Int) + off = (tgt : Int)) (kt : x ≤ 0 → WP g gr d M C S tgt ls st h Q) (kf : ¬ x ≤ 0 → WP g gr d M C S (pc + 3) ls st h Q) : WP g gr d M C S pc ls (.int x :: st) h Q := by
  intro p e R s m args below meth c mc ms QQ fx ret hmc hms H locs cells slots real rel lo lv hc hs
  exact lv_if_le fx.1.1 fx.1.2.1 hd ht (fun q => kt q p e R s m args below meth c mc ms QQ fx ret hmc hms H locs cells slots real rel lo lv hc hs) (fun q => kf q p e R s m args below meth c mc ms QQ fx ret hmc hms H locs cells slots real rel lo lv hc hs)
theorem r_icmp_le {off : Int} {x y : Int32} (tgt : Nat) (hd : decode M.2.1 pc = .ok (.if_icmp .le off, 3)) (ht : (pc : Int) + off = (tgt : Int)) (kt : x ≤ y → WP g gr d M C S tgt ls st h Q) (kf : ¬ x ≤ y → WP g gr d M C S (pc + 3) ls st h Q) : WP g gr d M C S pc ls (.int y :: .int x :: st) h Q := by
  intro p e R s m args below meth c mc ms QQ fx ret hmc hms H locs cells slots real rel lo lv hc hs
  exact lv_icmp_le fx.1.1 fx.1.2.1 hd ht (fun q => kt q p e R s m args below meth c mc ms QQ fx ret hmc hms H locs cells slots real rel lo lv hc hs) (fun q => kf q p e R s m args below meth c mc ms QQ fx ret hmc hms H locs cells slots real rel lo lv hc hs)
theorem r_goto {off : Int} (tgt : Nat) (hd : decode M.2.1 pc = .ok (.goto off, 3)) (ht : (pc : Int) + off = (tgt : Int)) (k : WP g gr d M C S tgt ls st h Q) : WP g gr d M C S pc ls (st) h Q := by
  intro p e R s m args below meth c mc ms QQ fx ret hmc hms H locs cells slots real rel lo lv hc hs
  exact lv_goto fx.1.1 fx.1.2.1 hd ht (k p e R s m args below meth c mc ms QQ fx ret hmc hms H locs cells slots real rel lo lv hc hs)
theorem r_ifnullR {off : Int} {x : Nat} (hd : decode M.2.1 pc = .ok (.ifnull off, 3)) (k : WP g gr d M C S (pc + 3) ls st h Q) : WP g gr d M C S pc ls (.ref x :: st) h Q := by
  intro p e R s m args below meth c mc ms QQ fx ret hmc hms H locs cells slots real rel lo lv hc hs
  exact lv_ifnull fx.1.1 fx.1.2.1 hd (k p e R s m args below meth c mc ms QQ fx ret hmc hms H locs cells slots real rel lo lv hc hs)
theorem r_ifnullN {off : Int} (tgt : Nat) (hd : decode M.2.1 pc = .ok (.ifnull off, 3)) (ht : (pc : Int) + off = (tgt : Int)) (k : WP g gr d M C S tgt ls st h Q) : WP g gr d M C S pc ls (.null :: st) h Q := by
  intro p e R s m args below meth c mc ms QQ fx ret hmc hms H locs cells slots real rel lo lv hc hs
  exact lv_ifnullN fx.1.1 fx.1.2.1 hd ht (k p e R s m args below meth c mc ms QQ fx ret hmc hms H locs cells slots real rel lo lv hc hs)
theorem r_ifnonnullN {off : Int} (hd : decode M.2.1 pc = .ok (.ifnonnull off, 3)) (k : WP g gr d M C S (pc + 3) ls st h Q) : WP g gr d M C S pc ls (.null :: st) h Q := by
  intro p e R s m args below meth c mc ms QQ fx ret hmc hms H locs cells slots real rel lo lv hc hs
  exact lv_ifnonnullN fx.1.1 fx.1.2.1 hd (k p e R s m args below meth c mc ms QQ fx ret hmc hms H locs cells slots real rel lo lv hc hs)
theorem r_ifnonnullR {off : Int} {x : Nat} (tgt : Nat) (hd : decode M.2.1 pc = .ok (.ifnonnull off, 3)) (ht : (pc : Int) + off = (tgt : Int)) (k : WP g gr d M C S tgt ls st h Q) : WP g gr d M C S pc ls (.ref x :: st) h Q := by
  intro p e R s m args below meth c mc ms QQ fx ret hmc hms H locs cells slots real rel lo lv hc hs
  exact lv_ifnonnull fx.1.1 fx.1.2.1 hd ht (k p e R s m args below meth c mc ms QQ fx ret hmc hms H locs cells slots real rel lo lv hc hs)
theorem r_tableIn {dflt lo hi : Int} {offs : Array Int} {len : Nat} {x : Int32} {off : Int} (tgt : Nat) (hd : decode M.2.1 pc = .ok (.tableswitch dflt lo hi offs, len)) (h1 : ¬ x.toInt < lo) (h2 : ¬ hi < x.toInt) (ho : offs[(x.toInt - lo).toNat]? = some off) (ht : (pc : Int) + off = (tgt : Int)) (k : WP g gr d M C S tgt ls st h Q) : WP g gr d M C S pc ls (.int x :: st) h Q := by
  intro p e R s m args below meth c mc ms QQ fx ret hmc hms H locs cells slots real rel lo9 lv hc hs
  exact lv_tableIn fx.1.1 fx.1.2.1 hd h1 h2 ho ht (k p e R s m args below meth c mc ms QQ fx ret hmc hms H locs cells slots real rel lo9 lv hc hs)
theorem r_tableOut {dflt lo hi : Int} {offs : Array Int} {len : Nat} {x : Int32} (tgt : Nat) (hd : decode M.2.1 pc = .ok (.tableswitch dflt lo hi offs, len)) (h1 : x.toInt < lo ∨ hi < x.toInt) (ht : (pc : Int) + dflt = (tgt : Int)) (k : WP g gr d M C S tgt ls st h Q) : WP g gr d M C S pc ls (.int x :: st) h Q := by
  intro p e R s m args below meth c mc ms QQ fx ret hmc hms H locs cells slots real rel lo9 lv hc hs
  exact lv_tableOut fx.1.1 fx.1.2.1 hd h1 ht (k p e R s m args below meth c mc ms QQ fx ret hmc hms H locs cells slots real rel lo9 lv hc hs)
theorem r_lookup {dflt : Int} {ps : Array (Int × Int)} {len : Nat} {x : Int32} {off : Int} (tgt : Nat) (hd : decode M.2.1 pc = .ok (.lookupswitch dflt ps, len)) (hp : (ps.toList.zip (ps.toList.drop 1)).all (fun (a, next) => a.1 < next.1) = true) (ho : Op.lookupswitch.offset ps.toList dflt x.toInt = off) (ht : (pc : Int) + off = (tgt : Int)) (k : WP g gr d M C S tgt ls st h Q) : WP g gr d M C S pc ls (.int x :: st) h Q := by
  intro p e R s m args below meth c mc ms QQ fx ret hmc hms H locs cells slots real rel lo lv hc hs
  exact lv_lookup fx.1.1 fx.1.2.1 hd hp ho ht (k p e R s m args below meth c mc ms QQ fx ret hmc hms H locs cells slots real rel lo lv hc hs)

end ZRules
