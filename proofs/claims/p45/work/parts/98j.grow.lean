/-! HEAPS THAT GROW behind the object; rows of bytes -/
section ZGrow
variable {g : zG} {gr : Bool} {d : Nat} {M M2 : zM} {C S pc : Nat} {ls st : List Value} {h : zH} {Q : Option Value → zH → Prop}
/-- one cell more -/
def hnew (h : zH) (t n : Nat) : zH := (z_z h + 1, fun a => if a = z_z h then (t, n) else z_T h a, fun a k => if a = z_z h then none else z_R h a k, fun a k => if a = z_z h then 0 else z_L h a k, fun a k => if a = z_z h then 0 else z_I h a k)
theorem hnew_T {t n a : Nat} : z_T (hnew h t n) a = if a = z_z h then (t, n) else z_T h a := rfl
theorem hnew_R {t n a k : Nat} : z_R (hnew h t n) a k = if a = z_z h then none else z_R h a k := rfl
theorem hnew_L {t n a k : Nat} : z_L (hnew h t n) a k = if a = z_z h then 0 else z_L h a k := rfl
theorem hnew_I {t n a k : Nat} : z_I (hnew h t n) a k = if a = z_z h then 0 else z_I h a k := rfl
theorem hnew_z {t n : Nat} : z_z (hnew h t n) = z_z h + 1 := rfl
theorem hnew_isA {t n : Nat} (hz : 811 ≤ z_z h) : z_isA (hnew h t n) (z_z h) t n := ⟨by omega, Nat.lt_succ_self _, by rw [hnew_T, if_pos rfl]⟩
theorem z_szG {H : Heap} (rel : z_Rel g true h H) (hz : 811 ≤ z_z h) : z_rho g (z_z h) = H.size := by
  obtain ⟨r1, r2, ⟨r3, r4, -, -⟩, -⟩ := rel
  have e2 : H.size = z_nx g (z_z h) := by simpa using r2
  unfold z_nx at e2
  rw [if_neg (by omega)] at e2
  rw [z_rho_3 (by omega) r4, e2]
theorem z_pushG {t n : Nat} {H H' : Heap} (rel : z_Rel g true h H) (hz : 811 ≤ z_z h) (hz2 : z_z h + 1 < z_top) (hs : H'.size = H.size + 1) (ho : ∀ q, q < H.size → H'[q]? = H[q]?) (hc : z_cell g (hnew h t n) (z_z h) H') : z_Rel g true (hnew h t n) H' := by
  have er := z_szG rel hz
  obtain ⟨r1, r2, ⟨r3, r4, r5, r6⟩, r7⟩ := id rel
  have e2 : H.size = z_nx g (z_z h) := by simpa using r2
  have e3 := e2
  unfold z_nx at e3
  rw [if_neg (by omega)] at e3
  have r6 := r6 (by omega)
  refine ⟨fun q hq => ?_, ?_, ⟨by show 1 ≤ z_z h + 1; omega, hz2, r5, fun _ => r6⟩, fun a a0 a1 => ?_⟩
  · have hq : z_kn g (z_z h + 1) q := hq
    unfold z_kn at hq
    rw [if_neg (by omega)] at hq
    rw [ho q (by omega)]
    exact r1 q (by unfold z_kn; rw [if_neg (by omega)]; exact hq)
  · show (if true = true then H'.size = z_nx g (z_z h + 1) else _)
    rw [if_pos rfl]
    unfold z_nx
    rw [if_neg (by omega)]
    omega
  · have a1 : a < z_z h + 1 := a1
    by_cases ha : a = z_z h
    · subst ha; exact hc
    · have h2 : z_rho g a < H.size := by
        by_cases h8 : a < 811
        · by_cases h9 : a = 810
          · subst h9; rw [z_rho_2]; omega
          · rw [z_rho_1 a0 (by omega)]; omega
        · rw [z_rho_3 (by omega) (by omega)]; omega
      refine z_cell_kept (r7 a a0 (by omega)) (by rw [hnew_T, if_neg ha]) (fun k => ?_) (ho _ h2)
      unfold z_vl
      rw [hnew_T, if_neg ha, hnew_L, if_neg ha, hnew_R, if_neg ha, hnew_I, if_neg ha]
theorem hnew_vl {t n k : Nat} : z_vl g (hnew h t n) (z_z h) k = if z_sk t k = 2 then .long 0 else if z_sk t k = 3 then .null else .int 0 := by
  unfold z_vl
  rw [hnew_T, if_pos rfl, hnew_L, if_pos rfl, hnew_R, if_pos rfl, hnew_I, if_pos rfl]
  rfl
theorem r_newG {ix ci N : Nat} (hd : decode M.2.1 pc = .ok (.new ix, 3)) (F : z_NW M.1.cls ix ci N) (hz : 811 ≤ z_z h) (hz2 : z_z h + 1 < z_top) (k : WP g true d M C S (pc + 3) ls (.ref (z_z h) :: st) (hnew h ci N) Q) : WP g true d M (C + 1) (S + N) pc ls st h Q := by
  intro p e Ro s mid args below meth c mc ms QQ fx ret hmc hms H locs cells slots real rel lo lv hc hs
  obtain ⟨Cn, T, f1, f2, f3, f4, f5, f6, f7, f8⟩ := F
  have hts := fx.1.2.2.2.2
  have hKn := fx.2.1.2.1.1 ci _ f1
  have er := z_szG rel hz
  refine W.newcK fx.1.1 fx.1.2.1 fx.1.2.2.2.1 (hts _ f4) (hts _ f5) (hts _ f6) rfl hd (by omega) (by omega) hKn.2.1 rfl fun H1 kC hkC e1 z1 o1 => ?_
  have rel1 : z_Rel g true (hnew h ci N) H1 := by
    refine z_pushG rel hz hz2 z1 o1 ?_
    unfold z_cell
    rw [hnew_T, if_pos rfl, if_pos f7]
    refine ⟨_, f1, ?_⟩
    rw [er]
    refine (u_born (z_ty ci) hts f2 hKn hkC e1 f3).to (fun j hj => ?_)
    rw [hnew_vl, z_default (f8 j hj)]
    unfold z_sk
    rw [if_pos f7]
  have := k p e Ro s mid args below meth c mc ms QQ fx ret hmc hms H1 locs (cells + 1) (slots + N) real rel1 lo lv (by omega) (by omega)
  rw [List.map_cons, show z_tr g (.ref (z_z h)) = .ref H.size by rw [← er]; rfl] at this
  exact this
theorem r_newarrG {at_ : ArrayType} {t N : Nat} {n : Int32} (hd : decode M.2.1 pc = .ok (.newarray at_, 2)) (ht : newarray.typeOf at_ = z_et t) (ht2 : t = 20 ∨ t = 29) (hw : Cond.arrayClass (newarray.typeOf at_) ∈ lw_good) (hn : ¬ n < 0) (hN : n.toNatClampNeg = N) (hN2 : N ≤ 10000) (hz : 811 ≤ z_z h) (hz2 : z_z h + 1 < z_top) (k : WP g true d M C S (pc + 2) ls (.ref (z_z h) :: st) (hnew h t N) Q) : WP g true d M (C + 1) (S + N) pc ls (.int n :: st) h Q := by
  intro p e Ro s mid args below meth c mc ms QQ fx ret hmc hms H locs cells slots real rel lo lv hc hs
  have hts := fx.1.2.2.2.2
  have er := z_szG rel hz
  have hcb : componentBytes (newarray.typeOf at_) ≤ 8 := by rw [ht]; rcases ht2 with rfl | rfl <;> decide
  refine va_newaK fx.1.1 fx.1.2.1 (hts _ hw) rfl hd rfl hn hN (Nat.le_trans (Nat.mul_le_mul hN2 hcb) (by decide)) (by omega) (by omega) rfl fun H1 cA e1 z1 o1 hA hNm => ?_
  have hcA : cA = (g_D g).1 t := by
    have h1 := (fx.2.1.2.2.1 t (by omega) (by omega)).2
    rw [ht] at hNm
    rcases ht2 with rfl | rfl <;> exact Option.some.inj (hNm.symm.trans h1)
  have rel1 : z_Rel g true (hnew h t N) H1 := by
    refine z_pushG rel hz hz2 z1 o1 ?_
    unfold z_cell
    rw [hnew_T, if_pos rfl, if_neg (show ¬ (t < 12) by omega), er, e1, hcA]
    congr 2
    funext j
    rw [hnew_vl, ht]
    rcases ht2 with rfl | rfl <;> rfl
  have := k p e Ro s mid args below meth c mc ms QQ fx ret hmc hms H1 locs (cells + 1) (slots + N) real rel1 lo lv (by omega) (by omega)
  rw [List.map_cons, show z_tr g (.ref (z_z h)) = .ref H.size by rw [← er]; rfl] at this
  exact this
theorem r_alenG {a t n : Nat} (hd : decode M.2.1 pc = .ok (.arraylength, 1)) (ha : z_isA h a t n) (ht : 20 ≤ t ∧ t ≤ 29) (k : WP g gr d M C S (pc + 1) ls (.int (nI n) :: st) h Q) : WP g gr d M C S pc ls (.ref a :: st) h Q := by
  intro p e Ro s mid args below meth c mc ms QQ fx ret hmc hms H locs cells slots real rel lo lv hc hs
  exact W.alen (n := Int32.ofNat n) fx.1.1 fx.1.2.1 (z_arr rel ha (by omega)) ((fx.2.1.2.2.1 t (by omega) (by omega)).1 n _) (by rw [arrV_size] <;> rfl) rfl rfl hd (k p e Ro s mid args below meth c mc ms QQ fx ret hmc hms H locs cells slots real rel lo lv hc hs)
theorem z_vl_byte {a k t n : Nat} (hT : z_T h a = (t, n)) (hk : z_sk t k = 4) : z_vl g h a k = .int (z_I h a k) := by
  unfold z_vl
  rw [hT]
  dsimp only
  rw [hk, if_neg (by decide), if_neg (by decide)]
theorem z_tc4 {ty : FieldType} (h : z_tc ty = 4) : ty = .byte := by cases ty <;> simp_all [z_tc]
theorem r_getB {ix ci kf a n : Nat} (hd : decode M.2.1 pc = .ok (.getfield ix, 3)) (F : z_FLg M.1.cls ix ci kf 4) (ha : z_isA h a ci n) (k : WP g gr d M C S (pc + 3) ls (.int (z_I h a kf) :: st) h Q) : WP g gr d M C S pc ls (.ref a :: st) h Q := by
  intro p e R s m args below meth c mc ms QQ fx ret hmc hms H locs cells slots real rel lo lv hc hs
  have hk := k p e R s m args below meth c mc ms QQ fx ret hmc hms H locs cells slots real rel lo lv hc hs
  refine z_getW F fx.1 fx.2.1 rel ha hd ?_
  obtain ⟨_, _, _, _, _, -, -, -, -, -, -, -, -, f10, -⟩ := F
  rw [z_vl_byte ha.2.2 f10]
  exact hk
theorem r_putB {ix ci kf a n : Nat} {v : Int32} {fin : Bool} (hd : decode M.2.1 pc = .ok (.putfield ix, 3)) (F : z_FL M.1.cls ix ci kf 4 fin) (hfin : fin = true → M.1.name = "<init>") (hv : narrow .byte (.int v) = .int v) (hv2 : fits .byte (.int v) = true) (ha : z_isA h a ci n) (k : WP g gr d M C S (pc + 3) ls st (z_uI h a kf v) Q) : WP g gr d M C S pc ls (.int v :: .ref a :: st) h Q := by
  intro p e R s m args below meth c mc ms QQ fx ret hmc hms H locs cells slots real rel lo lv hc hs
  refine z_putW (v := .int v) (h' := z_uI h a kf v) F fx.1 fx.2.1 rel lo ha ?_ (fun q => fx.2.2.2.2.trans (hfin q)) rfl rfl ?_ hd (fun H1 locs1 rel1 lo1 => k p e R s m args below meth c mc ms QQ fx ret hmc hms H1 locs1 cells slots real rel1 lo1 lv hc hs)
  · intro ty hty
    rw [z_tc4 hty]; exact ⟨hv, hv2⟩
  · obtain ⟨_, _, _, _, _, -, -, -, -, -, -, -, -, -, f10, -⟩ := F
    intro b j
    rw [z_vl_uI, ha.2.2]
    dsimp only
    rw [f10]
    simp
theorem r_dupx1 {v w : Value} (hd : decode M.2.1 pc = .ok (.dup_x1, 1)) (hc1 : v.category = 1) (hc2 : w.category = 1) (k : WP g gr d M C S (pc + 1) ls (v :: w :: v :: st) h Q) : WP g gr d M C S pc ls (v :: w :: st) h Q := by
  intro p e R s m args below meth c mc ms QQ fx ret hmc hms H locs cells slots real rel lo lv hc hs
  exact lv_dup_x1 fx.1.1 fx.1.2.1 hd ((z_tr_cat g v).trans hc1) ((z_tr_cat g w).trans hc2) (k p e R s m args below meth c mc ms QQ fx ret hmc hms H locs cells slots real rel lo lv hc hs)
theorem r_i2b {x v : Int32} (hd : decode M.2.1 pc = .ok (.i2b, 1)) (hv : x.toInt8.toInt32 = v) (k : WP g gr d M C S (pc + 1) ls (.int v :: st) h Q) : WP g gr d M C S pc ls (.int x :: st) h Q := by
  intro p e R s m args below meth c mc ms QQ fx ret hmc hms H locs cells slots real rel lo lv hc hs
  exact lv_i2b fx.1.1 fx.1.2.1 hd hv (k p e R s m args below meth c mc ms QQ fx ret hmc hms H locs cells slots real rel lo lv hc hs)
theorem r_baB {i : Int32} {a n : Nat} (hd : decode M.2.1 pc = .ok (.baload, 1)) (ha : z_isA h a 29 n) (hin : vp_in i n) (k : WP g gr d M C S (pc + 1) ls (.int (z_I h a i.toNatClampNeg) :: st) h Q) : WP g gr d M C S pc ls (.int i :: .ref a :: st) h Q := by
  intro p e R s m args below meth c mc ms QQ fx ret hmc hms H locs cells slots real rel lo lv hc hs
  refine W.bald fx.1.1 fx.1.2.1 (z_arr rel ha (by decide)) ((fx.2.1.2.2.1 29 (by decide) (by decide)).1 n _) (fun q => by cases q) (z_inS hin) (v := .int (z_I h a i.toNatClampNeg)) ?_ rfl rfl hd (k p e R s m args below meth c mc ms QQ fx ret hmc hms H locs cells slots real rel lo lv hc hs)
  rw [arrV_read _ _ (z_inlt hin), z_vl_byte ha.2.2 rfl]
theorem r_bsB {i v : Int32} {a n : Nat} (hd : decode M.2.1 pc = .ok (.bastore, 1)) (ha : z_isA h a 29 n) (hin : vp_in i n) (hv : narrow .byte (.int v) = .int v) (k : WP g gr d M C S (pc + 1) ls st (z_uI h a i.toNatClampNeg v) Q) : WP g gr d M C S pc ls (.int v :: .int i :: .ref a :: st) h Q := by
  intro p e R s m args below meth c mc ms QQ fx ret hmc hms H locs cells slots real rel lo lv hc hs
  refine W.bast fx.1.1 fx.1.2.1 (z_arr rel ha (by decide)) ((fx.2.1.2.2.1 29 (by decide) (by decide)).1 n _) (fun q => by cases q) (z_inS hin) rfl rfl hd (fun H' e1 e2 e3 => k p e R s m args below meth c mc ms QQ fx ret hmc hms H' _ cells slots real (z_arrset rel ha (by decide) rfl rfl ?_ (by rw [hv] at e1; exact e1) e2 e3) (z_lo_app rel lo ha) lv hc hs)
  intro b j
  rw [z_vl_uI, ha.2.2]
  simp [z_sk, z_et, z_tc]
/-- a row of bytes that can be read: N of them, f -/
def zBS (g : zG) (gr : Bool) (h : zH) (x N : Nat) (f : Nat → Int32) : Prop := ∀ (s : State) (H : Heap), z_KK g s → z_Rel g gr h H → ∃ cell : Cell, H[z_rho g x]? = some cell ∧ s.isArrayOf cell .byte ∧ cell.vm ≠ .unknown ∧ N ≤ cell.slots.size ∧ ∀ j, j < N → cell.slots[j]? = some (.int (f j))
theorem zBS_row {a n : Nat} (ha : z_isA h a 29 n) : zBS g gr h a n (z_I h a) := fun s H kk rel =>
  ⟨_, z_arr rel ha (by decide), (kk.2.2.1 29 (by decide) (by decide)).1 n _, (fun q => by cases q), (by rw [arrV_size]; exact Nat.le_refl _), fun j hj => by rw [arrV_read _ _ hj, z_vl_byte ha.2.2 rfl]⟩
theorem zBS_con {i : Nat} (hi : i < 11) : zBS g gr h (z_top + (11 + i)) (z_len.getD i 0) (fun j => (z_byt.getD i []).getD j 0) := fun s H kk rel => by
  obtain ⟨⟨b1, -⟩, -, -⟩ := z_txAt kk.tx rel
  obtain ⟨cell, h1, h2, h3, h4, h5, h6, h7⟩ := (b1 i hi).2.2.2
  exact ⟨cell, by rw [z_rho_top]; exact h1, h2, h3, h4, h6⟩
theorem stretch_congr {c c' : Cell} {a n : Nat} (he : ∀ i, i < n → c.slots.getD (a + i) .null = c'.slots.getD (a + i) .null) : c.stretch a n = c'.stretch a n := by
  unfold Cell.stretch
  exact List.map_congr_left fun i hi => he i (List.mem_range.mp hi)
def hcp (h : zH) (b dp n : Nat) (f : Nat → Int32) : zH := (z_z h, z_T h, z_R h, z_L h, fun a k => if a = b ∧ dp ≤ k ∧ k < dp + n then f (k - dp) else z_I h a k)
theorem hcp_I {b dp n a k : Nat} {f : Nat → Int32} : z_I (hcp h b dp n f) a k = if a = b ∧ dp ≤ k ∧ k < dp + n then f (k - dp) else z_I h a k := rfl
theorem r_copyB {ix x b N n1 sp dp n : Nat} {f : Nat → Int32} {st : List Value} (hd : decode M.2.1 pc = .ok (.invokestatic ix, 3)) (lk : z_LC M.1.cls ix) (hsr : zBS g gr h x N f) (hb : z_isA h b 29 n1) (hsp : sp + n ≤ N) (hdp : dp + n ≤ n1) (hN : N < 2 ^ 30) (hn1 : n1 < 2 ^ 30) (hf : ∀ j, j < N → fits .byte (.int (f j)) = true) (hd1 : 1 ≤ d) (hcat : (st.map fun v => v.category).sum ≤ 8) (k : WP g gr d M C S (pc + 3) ls st (hcp h b dp n (fun j => f (sp + j))) Q) : WP g gr d M C S pc ls (.int (nI n) :: .int (nI dp) :: .ref b :: .int (nI sp) :: .ref x :: st) h Q := by
  intro p e R s mid args below meth c mc ms QQ fx ret hmc hms H locs cells slots real rel lo lv hcc hss T hT X
  have hts := fx.1.2.2.2.2
  obtain ⟨cs, h0, k0, u0, z0, r0⟩ := hsr s H fx.2.1 rel
  obtain ⟨ks0, ks, hks, scomp, hkk0⟩ := k0
  have h1 := z_arr rel hb (by decide)
  have hvl : z_vl g h b = fun j => .int (z_I h b j) := funext fun j => z_vl_byte hb.2.2 rfl
  rw [hvl] at h1
  obtain ⟨-, k1, hk1, cm1, hkk1⟩ := (fx.2.1.2.2.1 29 (by decide) (by decide)).1 n1 (fun j => .int (z_I h b j))
  have c1 : (nI sp).toNatClampNeg = sp := nI_clamp (by omega)
  have c2 : (nI dp).toNatClampNeg = dp := nI_clamp (by omega)
  have c3 : (nI n).toNatClampNeg = n := nI_clamp (by omega)
  have p1 : ¬ nI sp < 0 := i_nn (by omega)
  have p2 : ¬ nI dp < 0 := i_nn (by omega)
  have p3 : ¬ nI n < 0 := i_nn (by omega)
  have rd : ∀ i, i < n → cs.slots.getD (sp + i) .null = .int (f (sp + i)) := fun i hi => by
    rw [Array.getD_eq_getD_getElem?, r0 (sp + i) (by omega)]
    rfl
  obtain ⟨vm', X', step⟩ := X.arraycopy fx.1.1 fx.1.2.2.2.1 (hts _ lk.1) (hts _ lk.2.1) (hts _ lk.2.2.1) (hts _ lk.2.2.2) (src := z_rho g x) (dst := z_rho g b) (cs := cs) (cd := arrV ((g_D g).1 29) n1 (fun j => .int (z_I h b j))) (srcPos := nI sp) (destPos := nI dp) (n := nI n) (by rw [hT]; exact h0) (by rw [hT]; exact h1)
    ks0 (fun _ h => by cases h) u0 (fun h => by cases h) hks hk1 hkk0 hkk1 (by decide) p1 p2 p3
    (by rw [z_nn p1, z_nn p3, c1, c3]; omega)
    (by rw [z_nn p2, z_nn p3, c2, c3, arrV_size]; omega)
    (fun vm₁ _ i hi => by
      rw [c3] at hi
      rw [c1, rd i hi]
      exact ⟨hf _ (by omega), trivial⟩)
    (g := F0 mid pc real ((.int (nI n) :: .int (nI dp) :: .ref b :: .int (nI sp) :: .ref x :: st).map (z_tr g))) rfl (by rw [fx.1.2.2.1]; exact lv.1) (rest := st.map (z_tr g)) rfl (by rw [fx.1.2.1]; exact hd) (by have := fx.2.2.1; omega) (by
      have h9 := fx.2.2.2.1
      have : ((st.map (z_tr g)).map fun v => v.category).sum ≤ 8 := by rw [z_catsum]; exact hcat
      have e9 : nativeFrameWords "java/lang/System" "arraycopy" 5 ≤ 20 := by decide +kernel
      show 2 * 0 + _ + _ ≤ _
      omega)
  have e1 : copied cs (arrV ((g_D g).1 29) n1 (fun j => .int (z_I h b j))) (nI sp) (nI dp) (nI n) = arrV ((g_D g).1 29) n1 (fun j => .int (va_cpy (fun j => f (sp + j)) (z_I h b) 0 dp n j)) := by
    unfold copied
    rw [c1, c2, c3]
    rw [stretch_congr (c := cs) (c' := arrV ((g_D g).1 29) N (fun j => .int (f j))) (fun i hi => by
      rw [rd i hi, Array.getD_eq_getD_getElem?, arrV_read _ _ (by omega)]; rfl)]
    rw [va_copied (fun z => Value.int z) _ _ f (z_I h b) hsp]
    congr 1
    funext j
    unfold va_cpy
    split
    · rw [Nat.zero_add]
    · rfl
  rw [e1] at X' step
  have hl : z_rho g b < H.size := (Array.getElem?_eq_some_iff.mp h1).1
  have hheap : ∀ cc : Cell, ((T.setVm vm').setCell (z_rho g b) cc).heap = H.setIfInBounds (z_rho g b) cc := by intro cc; rw [← hT]; rfl
  have oq : ∀ (cc : Cell) (q : Nat), q ≠ z_rho g b → (H.setIfInBounds (z_rho g b) cc)[q]? = H[q]? := fun cc q hq => by simp [Array.getElem?_setIfInBounds, Ne.symm hq]
  have er := z_rho_lo rel hb.1 hb.2.1
  have rel2 : z_Rel g gr (hcp h b dp n (fun j => f (sp + j))) (H.setIfInBounds (z_rho g b) (arrV ((g_D g).1 29) n1 (fun j => .int (va_cpy (fun j => f (sp + j)) (z_I h b) 0 dp n j)))) := by
    have ib2 : z_isA (hcp h b dp n (fun j => f (sp + j))) b 29 n1 := hb
    refine z_set (h := h) rel hb.1 hb.2.1 rfl rfl (fun b2 k2 hb2 => ?_) (by simp) (oq _) ?_
    · have e : z_I (hcp h b dp n (fun j => f (sp + j))) b2 k2 = z_I h b2 k2 := by rw [hcp_I, if_neg (fun q => hb2 q.1)]
      unfold z_vl
      rw [e]
      rfl
    · unfold z_cell
      rw [ib2.2.2, if_neg (show ¬ (29 < 12) by decide)]
      have : (H.setIfInBounds (z_rho g b) (arrV ((g_D g).1 29) n1 (fun j => .int (va_cpy (fun j => f (sp + j)) (z_I h b) 0 dp n j))))[z_rho g b]? = some (arrV ((g_D g).1 29) n1 (fun j => .int (va_cpy (fun j => f (sp + j)) (z_I h b) 0 dp n j))) := by simp [Array.getElem?_setIfInBounds, hl]
      rw [this]
      congr 2
      funext j
      rw [z_vl_byte ib2.2.2 rfl, hcp_I]
      congr 1
      unfold va_cpy
      by_cases hj : dp ≤ j ∧ j < dp + n
      · rw [if_pos hj, if_pos ⟨rfl, hj⟩, Nat.zero_add]
      · rw [if_neg hj, if_neg (fun q => hj q.2)]
  obtain ⟨t, a1, b1⟩ := k p e R s mid args below meth c mc ms QQ fx ret hmc hms _ _ cells slots real rel2 (fun q hq => by
      rcases List.mem_append.mp hq with h | h
      · exact lo q h
      · obtain ⟨z, -, hz⟩ := List.mem_map.mp h
        rw [← hz]
        exact er) lv hcc hss _ (hheap _) X'
  exact ⟨t, step t a1, b1⟩
end ZGrow
