/-! reading and writing the memory; calls; ends -/
section ZHeap
variable {g : zG} {gr : Bool} {d : Nat} {M : zM} {C S pc : Nat} {ls st : List Value} {h : zH} {Q : Option Value → zH → Prop}
def z_isA (h : zH) (a t n : Nat) : Prop := 0 < a ∧ a < z_z h ∧ z_T h a = (t, n)
abbrev z_uI (h : zH) (a k : Nat) (v : Int32) : zH := (z_z h, z_T h, z_R h, z_L h, z_u (z_I h) a k v)
abbrev z_uL (h : zH) (a k : Nat) (v : Int64) : zH := (z_z h, z_T h, z_R h, z_u (z_L h) a k v, z_I h)
abbrev z_uR (h : zH) (a k : Nat) (v : Option Nat) : zH := (z_z h, z_T h, z_u (z_R h) a k v, z_L h, z_I h)
theorem z_rho_1 {a : Nat} (h0 : 0 < a) (h1 : a < 810) : z_rho g a = g_B g + (a - 1) := by
  unfold z_rho
  rw [if_neg (by omega), if_pos h1]
theorem z_rho_2 : z_rho g 810 = g_B g - 1 := by
  unfold z_rho
  rw [if_neg (by decide), if_neg (by decide), if_pos rfl]
theorem z_rho_3 {a : Nat} (h0 : 810 < a) (h1 : a < z_top) : z_rho g a = g_t g + (a - 811) := by
  unfold z_rho
  rw [if_neg (by omega), if_neg (by omega), if_neg (by omega), if_pos h1]
/-- a tracked cell's place: where it can be, and that it is nobody else's -/
theorem z_rho_lo {H : Heap} (rel : z_Rel g gr h H) {a : Nat} (h0 : 0 < a) (h1 : a < z_z h) : g_B g ≤ z_rho g a + 1 := by
  obtain ⟨-, -, ⟨-, x2, x3, x4⟩, -⟩ := rel
  rcases Nat.lt_trichotomy a 810 with q | q | q
  · rw [z_rho_1 h0 q]; omega
  · subst q; rw [z_rho_2]; omega
  · rw [z_rho_3 q (by omega)]; have := x4 (by omega); omega
theorem z_rho_kn {H : Heap} (rel : z_Rel g gr h H) {a q : Nat} (h0 : 0 < a) (h1 : a < z_z h) (hq : z_kn g (z_z h) q) : q ≠ z_rho g a := by
  obtain ⟨-, -, ⟨-, x2, x3, x4⟩, -⟩ := rel
  unfold z_kn at hq
  split at hq
  · rw [z_rho_1 h0 (by omega)]; omega
  · have := x4 (by omega)
    rcases Nat.lt_trichotomy a 810 with q | q | q
    · rw [z_rho_1 h0 q]; omega
    · subst q; rw [z_rho_2]; omega
    · rw [z_rho_3 q (by omega)]; omega
theorem z_rho_ne {H : Heap} (rel : z_Rel g gr h H) {a b : Nat} (a0 : 0 < a) (a1 : a < z_z h) (b0 : 0 < b) (b1 : b < z_z h) (hne : b ≠ a) : z_rho g b ≠ z_rho g a := by
  obtain ⟨-, -, ⟨-, x2, x3, x4⟩, -⟩ := rel
  rcases Nat.lt_trichotomy a 810 with q | q | q
  · rw [z_rho_1 a0 q]
    rcases Nat.lt_trichotomy b 810 with r | r | r
    · rw [z_rho_1 b0 r]; omega
    · subst r; rw [z_rho_2]; omega
    · rw [z_rho_3 r (by omega)]; have := x4 (by omega); omega
  · subst q
    rw [z_rho_2]
    rcases Nat.lt_trichotomy b 810 with r | r | r
    · rw [z_rho_1 b0 r]; omega
    · omega
    · rw [z_rho_3 r (by omega)]; have := x4 (by omega); omega
  · have := x4 (by omega)
    rw [z_rho_3 q (by omega)]
    rcases Nat.lt_trichotomy b 810 with r | r | r
    · rw [z_rho_1 b0 r]; omega
    · subst r; rw [z_rho_2]; omega
    · rw [z_rho_3 r (by omega)]; omega
theorem z_cell_kept {h h' : zH} {a : Nat} {H H' : Heap} (hc : z_cell g h a H) (e1 : z_T h' a = z_T h a) (e2 : ∀ k, z_vl g h' a k = z_vl g h a k) (e3 : H'[z_rho g a]? = H[z_rho g a]?) : z_cell g h' a H' := by
  have e2' : z_vl g h' a = z_vl g h a := funext e2
  unfold z_cell at hc ⊢
  rw [e1, e2']
  split
  · rename_i ht
    rw [if_pos ht] at hc
    obtain ⟨q, h1, h2⟩ := hc
    exact ⟨q, h1, h2.kept e3⟩
  · rename_i ht
    rw [if_neg ht] at hc
    rw [e3]; exact hc
theorem z_set {h h' : zH} {a : Nat} {H H' : Heap} (rel : z_Rel g gr h H) (h0 : 0 < a) (h1 : a < z_z h) (ez : z_z h' = z_z h) (eT : z_T h' = z_T h) (ev : ∀ b k, b ≠ a → z_vl g h' b k = z_vl g h b k) (es : H'.size = H.size) (eo : ∀ q, q ≠ z_rho g a → H'[q]? = H[q]?) (hc : z_cell g h' a H') : z_Rel g gr h' H' := by
  obtain ⟨r1, r2, r3, r4⟩ := id rel
  refine ⟨fun q hq => ?_, by rw [es, ez]; exact r2, by rw [ez]; exact r3, fun b b0 b1 => ?_⟩
  · rw [ez] at hq; rw [eo q (z_rho_kn rel h0 h1 hq)]; exact r1 q hq
  · rw [ez] at b1
    by_cases hb : b = a
    · subst hb; exact hc
    · exact z_cell_kept (r4 b b0 b1) (by rw [eT]) (fun k => ev b k hb) (eo _ (z_rho_ne rel h0 h1 b0 b1 hb))
theorem z_vl_int {h : zH} {a k t n : Nat} (hT : z_T h a = (t, n)) (hk : z_sk t k = 0 ∨ z_sk t k = 1) : z_vl g h a k = .int (z_I h a k) := by
  unfold z_vl
  rw [hT]
  rcases hk with hk | hk <;> simp only [hk] <;> rfl
theorem z_vl_long {h : zH} {a k t n : Nat} (hT : z_T h a = (t, n)) (hk : z_sk t k = 2) : z_vl g h a k = .long (z_L h a k) := by
  unfold z_vl
  rw [hT]
  simp only [hk]; rfl
theorem z_vl_ref {h : zH} {a k t n : Nat} (hT : z_T h a = (t, n)) (hk : z_sk t k = 3) : z_vl g h a k = va_rf ((z_R h a k).map (z_rho g)) := by
  unfold z_vl
  rw [hT]
  simp only [hk]; rfl
theorem z_vl_uI {h : zH} {a k : Nat} {v : Int32} (b j : Nat) : z_vl g (z_uI h a k v) b j = if b = a ∧ j = k ∧ z_sk (z_T h a).1 k ≠ 2 ∧ z_sk (z_T h a).1 k ≠ 3 then .int v else z_vl g h b j := by
  unfold z_vl
  simp only [z_uI, z_uL, z_uR, z_z, z_T, z_R, z_L, z_I, z_u]
  by_cases h1 : b = a ∧ j = k
  · obtain ⟨rfl, rfl⟩ := h1
    by_cases h2 : z_sk (z_T h b).1 j = 2
    · simp [h2]
    · by_cases h3 : z_sk (z_T h b).1 j = 3
      · simp [h3]
      · simp [h2, h3]
  · have h4 : ¬ (b = a ∧ j = k ∧ z_sk (z_T h a).1 k ≠ 2 ∧ z_sk (z_T h a).1 k ≠ 3) := fun q => h1 ⟨q.1, q.2.1⟩
    rw [if_neg h4]
    simp only [h1, if_false]
theorem z_vl_uL {h : zH} {a k : Nat} {v : Int64} (b j : Nat) : z_vl g (z_uL h a k v) b j = if b = a ∧ j = k ∧ z_sk (z_T h a).1 k = 2 then .long v else z_vl g h b j := by
  unfold z_vl
  simp only [z_uI, z_uL, z_uR, z_z, z_T, z_R, z_L, z_I, z_u]
  by_cases h1 : b = a ∧ j = k
  · obtain ⟨rfl, rfl⟩ := h1
    by_cases h2 : z_sk (z_T h b).1 j = 2
    · simp [h2]
    · simp [h2]
  · have h4 : ¬ (b = a ∧ j = k ∧ z_sk (z_T h a).1 k = 2) := fun q => h1 ⟨q.1, q.2.1⟩
    rw [if_neg h4]
    simp only [h1, if_false]
theorem z_vl_uR {h : zH} {a k : Nat} {v : Option Nat} (b j : Nat) : z_vl g (z_uR h a k v) b j = if b = a ∧ j = k ∧ z_sk (z_T h a).1 k = 3 then va_rf (v.map (z_rho g)) else z_vl g h b j := by
  unfold z_vl
  simp only [z_uI, z_uL, z_uR, z_z, z_T, z_R, z_L, z_I, z_u]
  by_cases h1 : b = a ∧ j = k
  · obtain ⟨rfl, rfl⟩ := h1
    by_cases h2 : z_sk (z_T h b).1 j = 3
    · simp [h2]
    · simp [h2]
  · have h4 : ¬ (b = a ∧ j = k ∧ z_sk (z_T h a).1 k = 3) := fun q => h1 ⟨q.1, q.2.1⟩
    rw [if_neg h4]
    simp only [h1, if_false]
/-- what the tables say of a field that an instruction reads -/
def z_FLg (own : String) (ix ci k t : Nat) : Prop :=
  ∃ (Cn : String) (T : u_T) (N : Nat) (ty : Nat → FieldType) (ref : String), vwCl[ci]? = some (Cn, T, N) ∧ (∀ w ∈ u_ws Cn T N, w ∈ lw_good) ∧ (∀ k, k < N → parseFieldDescriptor (T k).2.2.1 = some (ty k)) ∧ (∀ a, a < N → ∀ b, b < N → a ≠ b → (T a).2.1 ≠ (T b).2.1) ∧ k < N ∧ Cond.fieldLink own ix ref (T k).2.1 (T k).2.2.1 ∈ lw_good ∧
    (ref = (T k).1 ∨ Cond.sameField ref (T k).1 (T k).2.1 (T k).2.2.1 ∈ lw_good) ∧ z_tc (ty k) = t ∧ z_sk ci k = t ∧ ci < 12
/-- what the tables say of a field that an instruction names -/
def z_FL (own : String) (ix ci k t : Nat) (fin : Bool) : Prop :=
  ∃ (Cn : String) (T : u_T) (N : Nat) (ty : Nat → FieldType) (ref : String), vwCl[ci]? = some (Cn, T, N) ∧ (∀ w ∈ u_ws Cn T N, w ∈ lw_good) ∧ (∀ k, k < N → parseFieldDescriptor (T k).2.2.1 = some (ty k)) ∧ (∀ a, a < N → ∀ b, b < N → a ≠ b → (T a).2.1 ≠ (T b).2.1) ∧ k < N ∧ Cond.fieldLink own ix ref (T k).2.1 (T k).2.2.1 ∈ lw_good ∧
    (ref = (T k).1 ∨ Cond.sameField ref (T k).1 (T k).2.1 (T k).2.2.1 ∈ lw_good) ∧ (T k).2.2.2 = fin ∧ z_tc (ty k) = t ∧ z_sk ci k = t ∧ ci < 12 ∧ (fin = true → (T k).1 = own)
theorem z_getW {own : String} {ix ci k t : Nat} (F : z_FLg own ix ci k t) {p : Program} {l : Launch} {e : Env} {R : Room} {s : State} {m : MethodId} {args : Array Value} {below : List Frame} {meth : Method} {c : Code} {H : Heap} {locs : List Loc} {cells slots : Nat} {QQ : State → Prop} {cc : ByteArray} {nL : Nat} (fx : CallFix p m c cc nL s args lw_good own) (kk : z_KK g s) (rel : z_Rel g gr h H) {a n : Nat} (ha : z_isA h a ci n)
    {real : Array Slot} {rest : List Value} (hd : decode cc pc = .ok (.getfield ix, 3)) (kw : W p l e R s m args below meth c H locs cells slots QQ (F0 m (pc + 3) real (z_vl g h a k :: rest))) : W p l e R s m args below meth c H locs cells slots QQ (F0 m pc real (.ref (z_rho g a) :: rest)) := by
  obtain ⟨Cn, T, N, ty, ref, f1, f2, f3, f4, f5, f6, f7, f9, f10, f11⟩ := F
  obtain ⟨a0, a1, a2⟩ := ha
  have hc := rel.2.2.2 a a0 a1
  unfold z_cell at hc
  rw [a2, if_pos f11] at hc
  obtain ⟨q, q1, cell, o1, o2, o3, o4⟩ := hc
  have hq : q = (Cn, T, N) := Option.some.inj (q1.symm.trans f1)
  subst hq
  obtain ⟨hS, hfc, kC, hkC, hkind⟩ := kk.2.1.1 ci _ f1
  obtain ⟨cf, kf, fi, f, hi, hsl⟩ := hS k f5
  have hts := fx.2.2.2.2
  have hi2 : s.fieldFound? ref (T k).2.1 (T k).2.2.1 = some (cf, kf, fi, f) := by
    rcases f7 with rfl | f7
    · exact hi
    · exact u_same (hts _ f7) _ hi
  refine W.getf fx.1 fx.2.1 fx.2.2.2.1 (hts _ f6) hi2 (u_facts hfc hkC (u_lays hts f2 f5) hi).1 o1 (by rw [o3]; exact fun h => by cases h) (v := z_vl g h a k) ?_ rfl rfl hd kw
  rw [hsl]; exact o4 k f5
theorem z_putW {own : String} {ix ci k t : Nat} {fin : Bool} (F : z_FL own ix ci k t fin) {p : Program} {l : Launch} {e : Env} {R : Room} {s : State} {m : MethodId} {args : Array Value} {below : List Frame} {meth : Method} {c : Code} {H : Heap} {locs : List Loc} {cells slots : Nat} {QQ : State → Prop} {cc : ByteArray} {nL : Nat} (fx : CallFix p m c cc nL s args lw_good own) (kk : z_KK g s) (rel : z_Rel g gr h H) (lo : z_lo g (g_B g) locs) {a n : Nat} (ha : z_isA h a ci n) {v : Value} {h' : zH}
    (hv : ∀ ty, z_tc ty = t → narrow ty v = v ∧ fits ty v = true) (hfin : fin = true → meth.name = "<init>") (ez : z_z h' = z_z h) (eT : z_T h' = z_T h) (ev : ∀ b j, z_vl g h' b j = if b = a ∧ j = k then v else z_vl g h b j)
    {real : Array Slot} {rest : List Value} (hd : decode cc pc = .ok (.putfield ix, 3)) (kw : ∀ (H1 : Heap) (locs1 : List Loc), z_Rel g gr h' H1 → z_lo g (g_B g) locs1 → W p l e R s m args below meth c H1 locs1 cells slots QQ (F0 m (pc + 3) real rest)) : W p l e R s m args below meth c H locs cells slots QQ (F0 m pc real (v :: .ref (z_rho g a) :: rest)) := by
  obtain ⟨Cn, T, N, ty, ref, f1, f2, f3, f4, f5, f6, f7, f8, f9, f10, f11, f12⟩ := F
  obtain ⟨a0, a1, a2⟩ := ha
  have hc := rel.2.2.2 a a0 a1
  have er := z_rho_lo rel a0 a1
  unfold z_cell at hc
  rw [a2, if_pos f11] at hc
  obtain ⟨q, q1, cell, o1, o2, o3, o4⟩ := hc
  have hq : q = (Cn, T, N) := Option.some.inj (q1.symm.trans f1)
  subst hq
  have hts := fx.2.2.2.2
  have hap := va_apart (own := own) hts f2 ty f3 f4 kk.2.1 f1
  obtain ⟨hS, hfc, kC, hkC, hkind⟩ := kk.2.1.1 ci _ f1
  obtain ⟨cf, kf, fi, f, hi, hsl⟩ := hS k f5
  have hi2 : s.fieldFound? ref (T k).2.1 (T k).2.2.1 = some (cf, kf, fi, f) := by
    rcases f7 with rfl | f7
    · exact hi
    · exact u_same (hts _ f7) _ hi
  have hlay := hts _ (f2 _ (u_in_lay f5))
  have hst := (u_facts hfc hkC (u_lays hts f2 f5) hi).1
  have hvv := hv (ty k) f9
  have goal : ∀ (H' : Heap), H'[z_rho g a]? = some (cell.setSlot f.slot v) → H'.size = H.size → (∀ q, q ≠ z_rho g a → H'[q]? = H[q]?) → z_Rel g gr h' H' := by
    intro H' e1 e2 e3
    refine z_set rel a0 a1 ez eT (fun b j hb => by rw [ev, if_neg (fun q => hb q.1)]) e2 e3 ?_
    unfold z_cell
    rw [eT, a2, if_pos f11]
    refine ⟨_, f1, cell.setSlot f.slot v, e1, o2, o3, fun j hj => ?_⟩
    have := t_set o4 hap f5 v j hj
    rw [hsl]
    rw [this, ev]
    simp [updV]
  have hlo : z_lo g (g_B g) (locs ++ [⟨z_rho g a, f.slot⟩]) := by
    intro q hq
    rcases List.mem_append.mp hq with h1 | h1
    · exact lo q h1
    · rw [List.mem_singleton] at h1
      subst h1
      exact er
  unfold u_lay at hlay
  rw [f8] at hlay
  cases fin with
  | false =>
    rw [if_neg (by decide)] at hlay
    have h6 := u_store hfc hkC hkind hlay hi (f3 k f5) hvv.1 hvv.2
    exact W.putK fx.1 fx.2.1 (f := f) ⟨fx.2.2.2.1, hts _ f6, ⟨_, _, _, hi2⟩, hst⟩ (by rw [o2]; exact h6) o1 o3 (by rw [hsl]; exact k2_hasslot (o4 k f5)) rfl rfl hd (fun H' e1 e2 e3 => kw H' _ (goal H' e1 e2 e3) hlo)
  | true =>
    rw [if_pos rfl] at hlay
    have hcf : m.cls = cf := by
      obtain ⟨_, _, c', _, _, _, -, -, hf', -, -, -, hown2, -⟩ := Cond.laysFinal_spec hlay
      have e1 : c' = cf := by have := hi.symm.trans hf'; simp at this; exact this.1.symm
      rw [f12 rfl] at hown2
      rw [← e1]; exact Option.some.inj (fx.2.2.2.1.symm.trans hown2)
    have h6 := u_fits hfc hkC hkind (Or.inr hlay) hi (f3 k f5) hvv.1 hvv.2
    exact W.putFinK fx.1 fx.2.1 (f := f) fx.2.2.2.1 (hts _ f6) hi2 hst hcf (hfin rfl) (by rw [o2]; exact h6) o1 o3 (by rw [hsl]; exact k2_hasslot (o4 k f5)) rfl rfl hd (fun H' e1 e2 e3 => kw H' _ (goal H' e1 e2 e3) hlo)
end ZHeap
