/-! rules for the memory behind the constructors; a name for a memory; forgetting locals; System.arraycopy -/
section ZQ
variable {g : zG} {gr : Bool} {d : Nat} {M : zM} {C S pc : Nat} {ls st : List Value} {m : zm} {Q : Option Value → zH → Prop}
theorem z_bind {hp : zm} (k : ∀ m : zm, m = hp → WP g gr d M C S pc ls st (mk m) Q) : WP g gr d M C S pc ls st (mk hp) Q := k hp rfl
def z_mask : List Bool → List Value → List Value
  | b :: bs, v :: vs => (if b = true then v else .retAddr 0) :: z_mask bs vs
  | _, _ => []
theorem z_mask_at : ∀ (bs : List Bool) (l : List Value) (j : Nat) (w : Value), (z_mask bs l)[j]? = some w → z_is w = true → l[j]? = some w := by
  intro bs
  induction bs with
  | nil => intro l j w h; simp [z_mask] at h
  | cons b bs ih =>
    intro l j w h hw
    cases l with
    | nil => simp [z_mask] at h
    | cons v vs =>
      cases j with
      | zero =>
        simp only [z_mask, List.getElem?_cons_zero] at h ⊢
        cases b with
        | true => exact h
        | false => cases h; cases hw
      | succ j => simp only [z_mask, List.getElem?_cons_succ] at h ⊢; exact ih vs j w h hw
theorem r_forget {h : zH} {ls' : List Value} (bs : List Bool) (hl : ls' = z_mask bs ls) (k : WP g gr d M C S pc ls' st h Q) : WP g gr d M C S pc ls st h Q := by
  intro p e R s m args below meth c mc ms QQ fx ret hmc hms H locs cells slots real rel lo lv hc hs
  refine k p e R s m args below meth c mc ms QQ fx ret hmc hms H locs cells slots real rel lo (z_mono lv ?_) hc hs
  rintro ⟨q1, q2⟩ hq
  obtain ⟨j, w, h1, h2, h3, h4⟩ := (z_asc_mem g _ 0 _ _).mp hq
  exact (z_asc_mem g _ 0 _ _).mpr ⟨j, w, h1, z_mask_at bs ls j w (hl ▸ h2) h3, h3, h4⟩
theorem q_getI {ix ci kf t a n : Nat} (hd : decode M.2.1 pc = .ok (.getfield ix, 3)) (F : z_FLg M.1.cls ix ci kf t) (ht : t = 0 ∨ t = 1) (ha : sA a ci n) (k : WP g gr d M C S (pc + 3) ls (.int (m.1 a kf) :: st) (mk m) Q) : WP g gr d M C S pc ls (.ref a :: st) (mk m) Q := r_getI hd F ht ha k
theorem q_getL {ix ci kf a n : Nat} (hd : decode M.2.1 pc = .ok (.getfield ix, 3)) (F : z_FLg M.1.cls ix ci kf 2) (ha : sA a ci n) (k : WP g gr d M C S (pc + 3) ls (.long (m.2 a kf) :: st) (mk m) Q) : WP g gr d M C S pc ls (.ref a :: st) (mk m) Q := r_getL hd F ha k
theorem q_getR {ix ci kf a n r : Nat} (hd : decode M.2.1 pc = .ok (.getfield ix, 3)) (F : z_FLg M.1.cls ix ci kf 3) (ha : sA a ci n) (hr : R0 a kf = some r) (k : WP g gr d M C S (pc + 3) ls (.ref r :: st) (mk m) Q) : WP g gr d M C S pc ls (.ref a :: st) (mk m) Q := r_getR hd F ha hr k
theorem q_putI {ix ci kf t a n : Nat} {v : Int32} (hd : decode M.2.1 pc = .ok (.putfield ix, 3)) (F : z_FL M.1.cls ix ci kf t false) (ht : t = 0 ∨ (t = 1 ∧ (v = 0 ∨ v = 1))) (ha : sA a ci n) (k : WP g gr d M C S (pc + 3) ls st (mk (wI m a kf v)) Q) : WP g gr d M C S pc ls (.int v :: .ref a :: st) (mk m) Q := r_putI hd F ht ha k
theorem q_putL {ix ci kf a n : Nat} {v : Int64} (hd : decode M.2.1 pc = .ok (.putfield ix, 3)) (F : z_FL M.1.cls ix ci kf 2 false) (ha : sA a ci n) (k : WP g gr d M C S (pc + 3) ls st (mk (wL m a kf v)) Q) : WP g gr d M C S pc ls (.long v :: .ref a :: st) (mk m) Q := r_putL hd F ha k
theorem q_iaload {i : Int32} {a n : Nat} (x : Nat) (hd : decode M.2.1 pc = .ok (.iaload, 1)) (ha : sA a 20 n) (hin : vp_in i n) (hx : i.toNatClampNeg = x) (k : WP g gr d M C S (pc + 1) ls (.int (m.1 a x) :: st) (mk m) Q) : WP g gr d M C S pc ls (.int i :: .ref a :: st) (mk m) Q := by subst hx; exact r_iaload hd ha hin k
theorem q_baload {i : Int32} {a n : Nat} (x : Nat) (hd : decode M.2.1 pc = .ok (.baload, 1)) (ha : sA a 22 n) (hin : vp_in i n) (hx : i.toNatClampNeg = x) (k : WP g gr d M C S (pc + 1) ls (.int (m.1 a x) :: st) (mk m) Q) : WP g gr d M C S pc ls (.int i :: .ref a :: st) (mk m) Q := by subst hx; exact r_baload hd ha hin k
theorem q_laload {i : Int32} {a n : Nat} (x : Nat) (hd : decode M.2.1 pc = .ok (.laload, 1)) (ha : sA a 21 n) (hin : vp_in i n) (hx : i.toNatClampNeg = x) (k : WP g gr d M C S (pc + 1) ls (.long (m.2 a x) :: st) (mk m) Q) : WP g gr d M C S pc ls (.int i :: .ref a :: st) (mk m) Q := by subst hx; exact r_laload hd ha hin k
theorem q_aaload {i : Int32} {a n t r : Nat} (x : Nat) (hd : decode M.2.1 pc = .ok (.aaload, 1)) (ha : sA a t n) (ht : 23 ≤ t ∧ t ≤ 28 ∧ z_sk t 0 = 3 ∧ (z_et t).isReference = true) (hin : vp_in i n) (hx : i.toNatClampNeg = x) (hr : R0 a x = some r) (k : WP g gr d M C S (pc + 1) ls (.ref r :: st) (mk m) Q) : WP g gr d M C S pc ls (.int i :: .ref a :: st) (mk m) Q := by subst hx; exact r_aaload hd ha ht hin hr k
theorem q_iastore {i v : Int32} {a n : Nat} (x : Nat) (hd : decode M.2.1 pc = .ok (.iastore, 1)) (ha : sA a 20 n) (hin : vp_in i n) (hx : i.toNatClampNeg = x) (k : WP g gr d M C S (pc + 1) ls st (mk (wI m a x v)) Q) : WP g gr d M C S pc ls (.int v :: .int i :: .ref a :: st) (mk m) Q := by subst hx; exact r_iastore hd ha hin k
theorem q_bastore {i v : Int32} {a n : Nat} (x : Nat) (hd : decode M.2.1 pc = .ok (.bastore, 1)) (ha : sA a 22 n) (hin : vp_in i n) (hx : i.toNatClampNeg = x) (hv : v = 0 ∨ v = 1) (k : WP g gr d M C S (pc + 1) ls st (mk (wI m a x v)) Q) : WP g gr d M C S pc ls (.int v :: .int i :: .ref a :: st) (mk m) Q := by subst hx; exact r_bastore hd ha hin hv k
theorem q_lastore {i : Int32} {v : Int64} {a n : Nat} (x : Nat) (hd : decode M.2.1 pc = .ok (.lastore, 1)) (ha : sA a 21 n) (hin : vp_in i n) (hx : i.toNatClampNeg = x) (k : WP g gr d M C S (pc + 1) ls st (mk (wL m a x v)) Q) : WP g gr d M C S pc ls (.long v :: .int i :: .ref a :: st) (mk m) Q := by subst hx; exact r_lastore hd ha hin k
/-- what the tables say of System.arraycopy -/
def z_LC (own : String) (ix : Nat) : Prop := Cond.methodLink own ix arraycopyName ∈ lw_good ∧ Cond.native arraycopyName ∈ lw_good ∧ Cond.static arraycopyName ∈ lw_good ∧ Cond.initialized "java/lang/System" ∈ lw_good
/-- the first n ints of row a copied to row b -/
def wC (m : zm) (b a n : Nat) : zm := (fun x i => if x = b ∧ i < n then m.1 a i else m.1 x i, m.2)
theorem wC_1 (m : zm) (b a n x i : Nat) : (wC m b a n).1 x i = if x = b ∧ i < n then m.1 a i else m.1 x i := rfl
theorem wC_2 (m : zm) (b a n : Nat) : (wC m b a n).2 = m.2 := rfl
abbrev cpOk (n : Int32) (n0 n1 : Nat) : Prop := ¬ n < 0 ∧ n.toNatClampNeg ≤ n0 ∧ n.toNatClampNeg ≤ n1
theorem z_vlI {h : zH} {a n : Nat} (ha : z_isA h a 20 n) : z_vl g h a = fun j => .int (z_I h a j) := funext fun j => z_vl_int ha.2.2 (Or.inl rfl)
theorem z_nn {z : Int32} (hz : ¬ z < 0) : z.toInt = (z.toNatClampNeg : Int) := by
  have hz0 : (0 : Int) ≤ z.toInt := by
    have := Int32.not_lt.mp hz
    simpa using Int32.le_iff_toInt_le.mp this
  show z.toInt = ((z.toInt.toNat : Nat) : Int)
  omega
theorem q_copy {ix a b n0 n1 : Nat} {n : Int32} {st : List Value} (x : Nat) (hd : decode M.2.1 pc = .ok (.invokestatic ix, 3)) (lk : z_LC M.1.cls ix) (ha : sA a 20 n0) (hb : sA b 20 n1) (hc : cpOk n n0 n1) (hx : n.toNatClampNeg = x) (hd1 : 1 ≤ d) (hcat : (st.map fun v => v.category).sum ≤ 8) (k : WP g gr d M C S (pc + 3) ls st (mk (wC m b a x)) Q) : WP g gr d M C S pc ls (.int n :: .int 0 :: .ref b :: .int 0 :: .ref a :: st) (mk m) Q := by
  subst hx
  intro p e R s mid args below meth c mc ms QQ fx ret hmc hms H locs cells slots real rel lo lv hcc hss T hT X
  have hts := fx.1.2.2.2.2
  obtain ⟨hc1, hc2, hc3⟩ := hc
  have ia : z_isA (mk m) a 20 n0 := ha
  have ib : z_isA (mk m) b 20 n1 := hb
  have h0 := z_arr rel ia (by decide)
  have h1 := z_arr rel ib (by decide)
  rw [z_vlI ia] at h0
  rw [z_vlI ib] at h1
  have hk0 := (fx.2.1.2.2.1 20 (by decide) (by decide))
  obtain ⟨-, k0, hk0, cm0, hkk0⟩ := (fx.2.1.2.2.1 20 (by decide) (by decide)).1 n0 (fun j => .int (m.1 a j))
  obtain ⟨-, k1, hk1, cm1, hkk1⟩ := (fx.2.1.2.2.1 20 (by decide) (by decide)).1 n1 (fun j => .int (m.1 b j))
  have z00 : (0 : Int32).toNatClampNeg = 0 := rfl
  obtain ⟨vm', X', step⟩ := X.arraycopy fx.1.1 fx.1.2.2.2.1 (hts _ lk.1) (hts _ lk.2.1) (hts _ lk.2.2.1) (hts _ lk.2.2.2) (src := z_rho g a) (dst := z_rho g b) (cs := arrV ((g_D g).1 20) n0 (fun j => .int (m.1 a j))) (cd := arrV ((g_D g).1 20) n1 (fun j => .int (m.1 b j))) (srcPos := 0) (destPos := 0) (n := n) (by rw [hT]; exact h0) (by rw [hT]; exact h1)
    (fun _ h => by cases h) (fun _ h => by cases h) (fun h => by cases h) (fun h => by cases h) hk0 hk1 hkk0 hkk1 (by decide) (by decide) (by decide) hc1
    (by rw [z_nn hc1]; show ¬ ((0 : Int) + _) > ((arrV _ n0 (fun j => .int (m.1 a j))).slots.size : Int); rw [arrV_size]; omega)
    (by rw [z_nn hc1]; show ¬ ((0 : Int) + _) > ((arrV _ n1 (fun j => .int (m.1 b j))).slots.size : Int); rw [arrV_size]; omega)
    (fun vm₁ _ i hi => by
      have e : (arrV ((g_D g).1 20) n0 (fun j => .int (m.1 a j))).slots.getD ((0 : Int32).toNatClampNeg + i) .null = .int (m.1 a ((0 : Int32).toNatClampNeg + i)) := by
        rw [Array.getD_eq_getD_getElem?, arrV_read _ _ (by rw [z00]; omega)]
        rfl
      refine ⟨?_, ?_⟩
      · rw [e]; rfl
      · rw [e]; exact trivial)
    (g := F0 mid pc real ((.int n :: .int 0 :: .ref b :: .int 0 :: .ref a :: st).map (z_tr g))) rfl (by rw [fx.1.2.2.1]; exact lv.1) (rest := st.map (z_tr g)) rfl (by rw [fx.1.2.1]; exact hd) (by have := fx.2.2.1; omega) (by
      have h9 := fx.2.2.2.1
      have : ((st.map (z_tr g)).map fun v => v.category).sum ≤ 8 := by rw [z_catsum]; exact hcat
      have e9 : nativeFrameWords "java/lang/System" "arraycopy" 5 ≤ 20 := by decide +kernel
      show 2 * 0 + _ + _ ≤ _
      omega)
  have e1 : copied (arrV ((g_D g).1 20) n0 (fun j => .int (m.1 a j))) (arrV ((g_D g).1 20) n1 (fun j => .int (m.1 b j))) 0 0 n = arrV ((g_D g).1 20) n1 (fun j => .int (va_cpy (m.1 a) (m.1 b) (0 : Int32).toNatClampNeg (0 : Int32).toNatClampNeg n.toNatClampNeg j)) := va_copied (fun z => .int z) _ _ (m.1 a) (m.1 b) (by rw [z00]; omega)
  rw [e1] at X' step
  have hl : z_rho g b < H.size := (Array.getElem?_eq_some_iff.mp h1).1
  have hheap : ∀ cc : Cell, ((T.setVm vm').setCell (z_rho g b) cc).heap = H.setIfInBounds (z_rho g b) cc := by intro cc; rw [← hT]; rfl
  have oq : ∀ (cc : Cell) (q : Nat), q ≠ z_rho g b → (H.setIfInBounds (z_rho g b) cc)[q]? = H[q]? := fun cc q hq => by simp [Array.getElem?_setIfInBounds, Ne.symm hq]
  have er := z_rho_lo rel ib.1 ib.2.1
  have rel2 : z_Rel g gr (mk (wC m b a n.toNatClampNeg)) (H.setIfInBounds (z_rho g b) (arrV ((g_D g).1 20) n1 (fun j => .int (va_cpy (m.1 a) (m.1 b) (0 : Int32).toNatClampNeg (0 : Int32).toNatClampNeg n.toNatClampNeg j)))) := by
    have ib2 : z_isA (mk (wC m b a n.toNatClampNeg)) b 20 n1 := hb
    refine z_set (h := mk m) rel ib.1 ib.2.1 rfl rfl (fun b2 k2 hb2 => ?_) (by simp) (oq _) ?_
    · unfold z_vl
      have : (wC m b a n.toNatClampNeg).1 b2 k2 = m.1 b2 k2 := by rw [wC_1, if_neg (fun q => hb2 q.1)]
      show (if _ then _ else if _ then _ else Value.int ((wC m b a n.toNatClampNeg).1 b2 k2)) = _
      rw [this]; rfl
    · unfold z_cell
      rw [ib2.2.2, if_neg (show ¬ (20 < 12) by decide), z_vlI ib2]
      have : (H.setIfInBounds (z_rho g b) (arrV ((g_D g).1 20) n1 (fun j => .int (va_cpy (m.1 a) (m.1 b) (0 : Int32).toNatClampNeg (0 : Int32).toNatClampNeg n.toNatClampNeg j))))[z_rho g b]? = some (arrV ((g_D g).1 20) n1 (fun j => .int (va_cpy (m.1 a) (m.1 b) (0 : Int32).toNatClampNeg (0 : Int32).toNatClampNeg n.toNatClampNeg j))) := by simp [Array.getElem?_setIfInBounds, hl]
      rw [this]
      congr 2
      funext j
      congr 1
      show va_cpy _ _ 0 0 _ j = (wC m b a n.toNatClampNeg).1 b j
      rw [wC_1]
      unfold va_cpy
      by_cases hj : j < n.toNatClampNeg
      · rw [if_pos ⟨Nat.zero_le _, by omega⟩, if_pos ⟨rfl, hj⟩]; show m.1 a (0 + (j - 0)) = m.1 a j; rw [Nat.zero_add, Nat.sub_zero]
      · rw [if_neg (by omega), if_neg (fun q => hj q.2)]
  obtain ⟨t, a1, b1⟩ := k p e R s mid args below meth c mc ms QQ fx ret hmc hms _ _ cells slots real rel2 (fun q hq => by
      rcases List.mem_append.mp hq with h | h
      · exact lo q h
      · obtain ⟨z, -, hz⟩ := List.mem_map.mp h
        rw [← hz]
        exact er) lv hcc hss _ (hheap _) X'
  exact ⟨t, step t a1, b1⟩
end ZQ
