/-! making objects and rows -/
section ZAlloc
variable {g : zG} {d : Nat} {M M2 : zM} {C S pc : Nat} {ls st : List Value} {m : zm} {R : Nat → Nat → Option Nat} {Q : Option Value → zH → Prop}
abbrev mkc (z : Nat) (R : Nat → Nat → Option Nat) (m : zm) : zH := (z, T0, R, m.2, m.1)
theorem z_sz {z : Nat} {H : Heap} (rel : z_Rel g true (mkc z R m) H) (hz : z < z_cp) : H.size + 1 = g_B g + z := by
  obtain ⟨r1, r2, ⟨r3, -, -, -⟩, r4⟩ := rel
  have e2 : H.size = z_nx g z := by simpa using r2
  have r3 : 1 ≤ z := r3
  have hz : z < 811 := hz
  unfold z_nx at e2
  rw [if_pos (by omega)] at e2
  omega
theorem z_pushed {z z2 : Nat} {R2 : Nat → Nat → Option Nat} {m2 : zm} {H H' : Heap} (rel : z_Rel g true (mkc z R m) H) (hz : z ≤ z2) (hz2 : z2 < z_cp) (hs : H'.size + 1 = g_B g + z2) (ho : ∀ q, q < H.size → H'[q]? = H[q]?) (hv : ∀ a, a < z → ∀ k, z_vl g (mkc z2 R2 m2) a k = z_vl g (mkc z R m) a k) (hc : ∀ a, z ≤ a → a < z2 → z_cell g (mkc z2 R2 m2) a H') : z_Rel g true (mkc z2 R2 m2) H' := by
  have e2 := z_sz rel (Nat.lt_of_le_of_lt hz hz2)
  obtain ⟨r1, r2, r3, r4⟩ := id rel
  have e3 : 1 ≤ z ∧ z < z_top ∧ 1 ≤ g_B g ∧ (810 < z → g_B g + 809 ≤ g_t g) := r3
  have hz2 : z2 < 811 := hz2
  have r1 : ∀ q : Nat, z_kn g z q → H[q]? = g_w g q := r1
  refine ⟨fun q hq => ?_, ?_, ⟨by show 1 ≤ z2; omega, by show z2 < 1000000; omega, e3.2.2.1, fun x => by have x : 810 < z2 := x; omega⟩, fun a a0 a1 => ?_⟩
  · have hq : z_kn g z2 q := hq
    unfold z_kn at hq
    rw [if_pos (by omega)] at hq
    have := r1 q (by unfold z_kn; rw [if_pos (by omega)]; exact hq)
    rw [ho q (by omega)]; exact this
  · show (if true = true then H'.size = z_nx g z2 else _)
    rw [if_pos rfl]
    unfold z_nx
    rw [if_pos (by omega)]
    omega
  · have a1 : a < z2 := a1
    by_cases ha : a < z
    · have er := z_rho_1 (g := g) a0 (show a < 810 by omega)
      exact z_cell_kept (r4 a a0 ha) rfl (hv a ha) (ho _ (by omega))
    · exact hc a (by omega) a1
theorem z_rhoz {z : Nat} {H : Heap} (rel : z_Rel g true (mkc z R m) H) (hz : z < 810) : z_rho g z = H.size := by
  have e2 := z_sz rel (show z < 811 by omega)
  obtain ⟨-, -, ⟨r3, -, -, -⟩, -⟩ := rel
  have r3 : 1 ≤ z := r3
  rw [z_rho_1 (by omega) hz]
  omega
/-- what the tables say of a class that is made -/
def z_NW (own : String) (ix ci N : Nat) : Prop := ∃ (Cn : String) (T : u_T) , vwCl[ci]? = some (Cn, T, N) ∧ (∀ w ∈ u_ws Cn T N, w ∈ lw_good) ∧ (∀ k, k < N → parseFieldDescriptor (T k).2.2.1 = some (z_ty ci k)) ∧ Cond.classLink own ix Cn ∈ lw_good ∧ Cond.instantiable Cn N ∈ lw_good ∧ Cond.initialized Cn ∈ lw_good ∧ ci < 12 ∧ ∀ k, k < N → z_tc (z_ty ci k) < 9
theorem z_default {ty : FieldType} (h : z_tc ty < 9) : defaultValue ty = if z_tc ty = 2 then .long 0 else if z_tc ty = 3 then .null else .int 0 := by
  cases ty <;> first | rfl | (exfalso; simp [z_tc] at h)
theorem z_vl0 {z t N : Nat} {a k : Nat} (hT : T0 a = (t, N)) (hR : R a k = none) (hI : m.1 a k = 0) (hL : m.2 a k = 0) : z_vl g (mkc z R m) a k = if z_sk t k = 2 then .long 0 else if z_sk t k = 3 then .null else .int 0 := by
  unfold z_vl
  show (if z_sk (T0 a).1 k = 2 then Value.long (m.2 a k) else if z_sk (T0 a).1 k = 3 then va_rf ((R a k).map (z_rho g)) else .int (m.1 a k)) = _
  rw [hT, hR, hI, hL]; rfl
theorem r_new {ix ci N z : Nat} (hd : decode M.2.1 pc = .ok (.new ix, 3)) (F : z_NW M.1.cls ix ci N) (hT : T0 z = (ci, N)) (hz : z + 1 < z_cp) (hR : ∀ k, R z k = none) (hI : ∀ k, m.1 z k = 0 ∧ m.2 z k = 0) (k : WP g true d M C S (pc + 3) ls (.ref z :: st) (mkc (z + 1) R m) Q) : WP g true d M (C + 1) (S + N) pc ls st (mkc z R m) Q := by
  intro p e Ro s mid args below meth c mc ms QQ fx ret hmc hms H locs cells slots real rel lo lv hc hs
  obtain ⟨Cn, T, f1, f2, f3, f4, f5, f6, f7, f8⟩ := F
  have hts := fx.1.2.2.2.2
  have hKn := fx.2.1.2.1.1 ci _ f1
  have er := z_rhoz rel (by have hz : z + 1 < 811 := hz; omega)
  refine W.newcK fx.1.1 fx.1.2.1 fx.1.2.2.2.1 (hts _ f4) (hts _ f5) (hts _ f6) rfl hd (by omega) (by omega) hKn.2.1 rfl fun H1 kC hkC e1 z1 o1 => ?_
  have r2 : H.size + 1 = g_B g + z := z_sz rel (by have hz : z + 1 < 811 := hz; show z < 811; omega)
  have rel1 : z_Rel g true (mkc (z + 1) R m) H1 := by
    refine z_pushed rel (Nat.le_succ z) hz (by omega) o1 (fun a ha k => rfl) (fun a h1 h2 => ?_)
    have : a = z := by omega
    subst this
    unfold z_cell
    rw [show z_T (mkc (a + 1) R m) a = (ci, N) from hT, if_pos f7]
    refine ⟨_, f1, ?_⟩
    rw [er]
    refine (u_born (z_ty ci) hts f2 hKn hkC e1 f3).to (fun j hj => ?_)
    rw [z_vl0 hT (hR j) (hI j).1 (hI j).2, z_default (f8 j hj)]
    unfold z_sk
    rw [if_pos f7]
  have := k p e Ro s mid args below meth c mc ms QQ fx ret hmc hms H1 locs (cells + 1) (slots + N) real rel1 lo lv (by omega) (by omega)
  rw [List.map_cons, show z_tr g (.ref z) = .ref H.size by rw [← er]; rfl] at this
  exact this
/-- rows of numbers -/
theorem r_newarr {at_ : ArrayType} {t N z : Nat} {n : Int32} (hd : decode M.2.1 pc = .ok (.newarray at_, 2)) (ht : newarray.typeOf at_ = z_et t) (ht2 : 20 ≤ t ∧ t ≤ 22) (hw : Cond.arrayClass (newarray.typeOf at_) ∈ lw_good) (hn : ¬ n < 0) (hN : n.toNatClampNeg = N) (hN2 : N ≤ 10000) (hT : T0 z = (t, N)) (hz : z + 1 < z_cp) (hI : ∀ k, m.1 z k = 0 ∧ m.2 z k = 0) (k : WP g true d M C S (pc + 2) ls (.ref z :: st) (mkc (z + 1) R m) Q) : WP g true d M (C + 1) (S + N) pc ls (.int n :: st) (mkc z R m) Q := by
  intro p e Ro s mid args below meth c mc ms QQ fx ret hmc hms H locs cells slots real rel lo lv hc hs
  have hts := fx.1.2.2.2.2
  have er := z_rhoz rel (by have hz : z + 1 < 811 := hz; omega)
  have r2 : H.size + 1 = g_B g + z := z_sz rel (by have hz : z + 1 < 811 := hz; show z < 811; omega)
  have hcb : componentBytes (newarray.typeOf at_) ≤ 8 := by rw [ht]; rcases ht2 with ⟨h1, h2⟩; have : t = 20 ∨ t = 21 ∨ t = 22 := by omega
                                                            rcases this with rfl | rfl | rfl <;> decide
  refine va_newaK fx.1.1 fx.1.2.1 (hts _ hw) rfl hd rfl hn hN (Nat.le_trans (Nat.mul_le_mul hN2 hcb) (by decide)) (by omega) (by omega) rfl fun H1 cA e1 z1 o1 hA hNm => ?_
  have hcA : cA = (g_D g).1 t := by
    have h1 := (fx.2.1.2.2.1 t (by omega) (by omega)).2
    rw [ht] at hNm
    have : t = 20 ∨ t = 21 ∨ t = 22 := by omega
    rcases this with rfl | rfl | rfl <;> exact Option.some.inj (hNm.symm.trans h1)
  have rel1 : z_Rel g true (mkc (z + 1) R m) H1 := by
    refine z_pushed rel (Nat.le_succ z) hz (by omega) o1 (fun a ha k => rfl) (fun a h1 h2 => ?_)
    have : a = z := by omega
    subst this
    unfold z_cell
    rw [show z_T (mkc (a + 1) R m) a = (t, N) from hT, if_neg (show ¬ (t < 12) by omega), er, e1, hcA]
    congr 2
    funext j
    unfold z_vl
    show _ = (if z_sk (T0 a).1 j = 2 then Value.long (m.2 a j) else if z_sk (T0 a).1 j = 3 then va_rf ((R a j).map (z_rho g)) else .int (m.1 a j))
    rw [hT, (hI j).1, (hI j).2, ht]
    have : t = 20 ∨ t = 21 ∨ t = 22 := by omega
    rcases this with rfl | rfl | rfl <;> rfl
  have := k p e Ro s mid args below meth c mc ms QQ fx ret hmc hms H1 locs (cells + 1) (slots + N) real rel1 lo lv (by omega) (by omega)
  rw [List.map_cons, show z_tr g (.ref z) = .ref H.size by rw [← er]; rfl] at this
  exact this
/-- rows of objects -/
theorem r_anew {ix t N z : Nat} {n : Int32} {Cn : String} (hd : decode M.2.1 pc = .ok (.anewarray ix, 3)) (ht : z_et t = .object Cn) (ht2 : 24 ≤ t ∧ t ≤ 28) (hl : Cond.classLink M.1.cls ix Cn ∈ lw_good) (hw : Cond.arrayOver (.object Cn) ∈ lw_nest) (hn : ¬ n < 0) (hN : n.toNatClampNeg = N) (hN2 : N ≤ 10000) (hT : T0 z = (t, N)) (hz : z + 1 < z_cp) (hR : ∀ k, R z k = none) (k : WP g true d M C S (pc + 3) ls (.ref z :: st) (mkc (z + 1) R m) Q) : WP g true d M (C + 1) (S + N) pc ls (.int n :: st) (mkc z R m) Q := by
  intro p e Ro s mid args below meth c mc ms QQ fx ret hmc hms H locs cells slots real rel lo lv hc hs
  have hts := fx.1.2.2.2.2
  have er := z_rhoz rel (by have hz : z + 1 < 811 := hz; omega)
  have r2 : H.size + 1 = g_B g + z := z_sz rel (by have hz : z + 1 < 811 := hz; show z < 811; omega)
  subst hN
  refine W.anew fx.1.1 fx.1.2.1 fx.1.2.2.2.1 (hts _ hl) (Cond.arrayOver_alike (State.WarmedH.refl s).alike (fx.2.1.2.2.2.1 _ hw)) rfl hd rfl hn (by omega) (by omega) (by omega) fun cA kA comp n1 n2 n3 n4 => ?_
  have hcA : cA = (g_D g).1 t := by
    have h1 := (fx.2.1.2.2.1 t (by omega) (by omega)).2
    rw [ht] at h1
    obtain ⟨_, _, -, -, -, h4⟩ := h1
    exact Option.some.inj (n1.symm.trans h4)
  have rel1 : z_Rel g true (mkc (z + 1) R m) (H.push { cls := cA, slots := Array.replicate n.toNatClampNeg .null, vm := .none }) := by
    refine z_pushed rel (Nat.le_succ z) hz (by rw [Array.size_push]; omega) (fun q hq => by rw [Array.getElem?_push, if_neg (by omega)]) (fun a ha k => rfl) (fun a h1 h2 => ?_)
    have : a = z := by omega
    subst this
    unfold z_cell
    rw [show z_T (mkc (a + 1) R m) a = (t, n.toNatClampNeg) from hT, if_neg (show ¬ (t < 12) by omega), er, Array.getElem?_push, if_pos rfl, arrV_new, hcA]
    congr 2
    funext j
    unfold z_vl
    show _ = (if z_sk (T0 a).1 j = 2 then Value.long (m.2 a j) else if z_sk (T0 a).1 j = 3 then va_rf ((R a j).map (z_rho g)) else .int (m.1 a j))
    rw [hT, hR j]
    have : z_sk t j = 3 := by unfold z_sk; rw [if_neg (by omega), ht]; rfl
    rw [if_neg (by rw [this]; decide), if_pos this]; rfl
  have := k p e Ro s mid args below meth c mc ms QQ fx ret hmc hms _ locs (cells + 1) (slots + n.toNatClampNeg) real rel1 lo lv (by omega) (by omega)
  rw [List.map_cons, show z_tr g (.ref z) = .ref H.size by rw [← er]; rfl] at this
  exact this
/-- a row of rows of ints -/
def rMna (R : Nat → Nat → Option Nat) (z n : Nat) : Nat → Nat → Option Nat := fun a j => if a = z ∧ j < n then some (z + 1 + j) else R a j
theorem r_mna {ix N K z : Nat} {n q : Int32} (hd : decode M.2.1 pc = .ok (.multianewarray ix 2, 4)) (hl : Cond.classLink M.1.cls ix "[[I" ∈ lw_good) (hw : Cond.arrayOver (.array .int) ∈ lw_nest) (hw2 : Cond.arrayClass .int ∈ lw_good) (hn : ¬ n < 0) (hq : ¬ q < 0) (hN : n.toNatClampNeg = N) (hK : q.toNatClampNeg = K) (hN2 : N ≤ 10000) (hK2 : K ≤ 10000) (hT : T0 z = (23, N)) (hT2 : ∀ j, j < N → T0 (z + 1 + j) = (20, K)) (hz : z + 1 + N < z_cp) (hR : ∀ k, R z k = none) (hI : ∀ a k, z ≤ a → a < z + 1 + N → m.1 a k = 0)
    (k : WP g true d M C S (pc + 4) ls (.ref z :: st) (mkc (z + 1 + N) (rMna R z N) m) Q) : WP g true d M (C + (1 + N)) (S + (N + N * K)) pc ls (.int q :: .int n :: st) (mkc z R m) Q := by
  intro p e Ro s mid args below meth c mc ms QQ fx ret hmc hms H locs cells slots real rel lo lv hc hs T hTT X
  have hts := fx.1.2.2.2.2
  have er := z_rhoz rel (by have hz : z + 1 + N < 811 := hz; omega)
  have r2 : H.size + 1 = g_B g + z := z_sz rel (by have hz : z + 1 + N < 811 := hz; show z < 811; omega)
  subst hN; subst hK
  obtain ⟨vm₁, cA, comp, -, fA, fC, -, -, X', step⟩ := X.multianewarray2F fx.1.1 fx.1.2.2.2.1 (ty := .int) (hts _ hl) (arrayOver_alikeB (State.WarmedH.refl s).alike (fx.2.1.2.2.2.1 _ hw)) (hts _ hw2) (g := F0 mid pc real ((.int q :: .int n :: st).map (z_tr g))) rfl (by rw [fx.1.2.1]; exact hd) (rest := st.map (z_tr g)) rfl hn hq (by omega) (by show q.toNatClampNeg * 4 ≤ _; omega) (by omega) rfl rfl (by omega) (by omega)
  generalize hF : Jvm.Free.Multi.fill (T.setVm vm₁) cA comp n.toNatClampNeg q.toNatClampNeg (defaultValue .int) n.toNatClampNeg = F at X' step
  have hTh : (T.setVm vm₁).heap = H := hTT
  obtain ⟨f1, f2, -, -⟩ := Jvm.Free.Multi.fill_facts (T.setVm vm₁) cA comp n.toNatClampNeg q.toNatClampNeg (defaultValue .int) n.toNatClampNeg
  rw [hF, hTh] at f1 f2
  have hold : ∀ x : Nat, x < H.size → F.heap[x]? = H[x]? := fun x hx => by
    have := Jvm.Free.Multi.fill_old (T.setVm vm₁) cA comp n.toNatClampNeg q.toNatClampNeg (defaultValue .int) (a := x) (by rw [hTh]; exact hx) n.toNatClampNeg
    rw [hF, hTh] at this
    exact this
  have hrow : ∀ j : Nat, j < n.toNatClampNeg → F.heap[H.size + 1 + j]? = some (Jvm.Free.Multi.innerC comp q.toNatClampNeg (defaultValue .int)) := fun j hj => by
    have := Jvm.Free.Multi.fill_inner (T.setVm vm₁) cA comp n.toNatClampNeg q.toNatClampNeg (defaultValue .int) n.toNatClampNeg j hj
    rw [hF, hTh] at this
    exact this
  have hcA : cA = (g_D g).1 23 := Option.some.inj (fA.symm.trans ((fx.2.1.2.2.1 23 (by decide) (by decide)).2))
  have hcB : comp = (g_D g).1 20 := Option.some.inj (fC.symm.trans ((fx.2.1.2.2.1 20 (by decide) (by decide)).2))
  have rel1 : z_Rel g true (mkc (z + 1 + n.toNatClampNeg) (rMna R z n.toNatClampNeg) m) F.heap := by
    refine z_pushed rel (by omega) hz (by omega) hold (fun a ha k => ?_) (fun a h1 h2 => ?_)
    · unfold z_vl
      have : rMna R z n.toNatClampNeg a k = R a k := by unfold rMna; rw [if_neg (by omega)]
      show (if _ then _ else if _ then va_rf ((rMna R z n.toNatClampNeg a k).map (z_rho g)) else _) = _
      rw [this]
    · by_cases ha : a = z
      · subst ha
        unfold z_cell
        rw [show z_T (mkc (a + 1 + n.toNatClampNeg) (rMna R a n.toNatClampNeg) m) a = (23, n.toNatClampNeg) from hT, if_neg (show ¬ (23 < 12) by decide), er, f2, vr_outer, hcA]
        congr 2
        funext j
        rw [z_vl_ref hT rfl]
        show va_rf (if j < n.toNatClampNeg then some (H.size + 1 + j) else none) = va_rf ((rMna R a n.toNatClampNeg a j).map (z_rho g))
        unfold rMna
        by_cases hj : j < n.toNatClampNeg
        · rw [if_pos hj, if_pos ⟨rfl, hj⟩]
          show _ = va_rf (some (z_rho g (a + 1 + j)))
          have hz : z_rho g (a + 1 + j) = H.size + 1 + j := by
            have hz9 : a + 1 + n.toNatClampNeg < 811 := hz
            rw [z_rho_1 (by omega) (by omega)]; omega
          rw [hz]
        · rw [if_neg hj, if_neg (fun h => hj h.2), hR]; rfl
      · obtain ⟨j, rfl⟩ : ∃ j, a = z + 1 + j := ⟨a - z - 1, by omega⟩
        have hj : j < n.toNatClampNeg := by omega
        have hr : z_rho g (z + 1 + j) = H.size + 1 + j := by
          have hz9 : z + 1 + n.toNatClampNeg < 811 := hz
          rw [z_rho_1 (by omega) (by omega)]; omega
        unfold z_cell
        rw [show z_T (mkc (z + 1 + n.toNatClampNeg) (rMna R z n.toNatClampNeg) m) (z + 1 + j) = (20, q.toNatClampNeg) from hT2 j hj, if_neg (show ¬ (20 < 12) by decide), hr, hrow j hj, hcB]
        unfold Jvm.Free.Multi.innerC
        rw [arrV_new]
        congr 2
        funext i
        rw [z_vl_int (hT2 j hj) (Or.inl rfl)]
        show defaultValue .int = .int (m.1 (z + 1 + j) i)
        rw [hI _ _ (by omega) (by omega)]; rfl
  obtain ⟨t, a1, b1⟩ := k p e Ro s mid args below meth c mc ms QQ fx ret hmc hms _ locs (cells + 1 + n.toNatClampNeg) (slots + n.toNatClampNeg + n.toNatClampNeg * q.toNatClampNeg) real rel1 lo lv (by omega) (by omega) F rfl X'
  refine ⟨t, step t ?_, b1⟩
  rw [List.map_cons, show z_tr g (.ref z) = .ref H.size by rw [← er]; rfl] at a1
  have : T.heap.size = H.size := by rw [hTT]
  rw [this]
  exact a1
/-- an object into a row -/
theorem r_aastore {gr : Bool} {h : zH} {i : Int32} {a n t v ci N : Nat} {Cn : String} {T : u_T} (hd : decode M.2.1 pc = .ok (.aastore, 1)) (ha : z_isA h a t n) (ht : z_et t = .object Cn) (ht2 : 24 ≤ t ∧ t ≤ 28) (hv : z_isA h v ci N) (hcl : vwCl[ci]? = some (Cn, T, N)) (hci : ci < 12) (hin : vp_in i n) (k : WP g gr d M C S (pc + 1) ls st (z_uR h a i.toNatClampNeg (some v)) Q) : WP g gr d M C S pc ls (.ref v :: .int i :: .ref a :: st) h Q := by
  intro p e Ro s mid args below meth c mc ms QQ fx ret hmc hms H locs cells slots real rel lo lv hc hs
  have hA := (fx.2.1.2.2.1 t (by omega) (by omega)).2
  rw [ht] at hA
  obtain ⟨kA, comp, k1, k2, k3, k4⟩ := hA
  obtain ⟨v0, v1, v2⟩ := hv
  have hcv := rel.2.2.2 v v0 v1
  unfold z_cell at hcv
  rw [v2, if_pos hci] at hcv
  obtain ⟨q, q1, cell, o1, o2, o3, o4⟩ := hcv
  have hcls := (fx.2.1.2.1.1 ci _ hcl).2
  have hq : q = (Cn, T, N) := Option.some.inj (q1.symm.trans hcl)
  subst hq
  have hcomp : comp = (g_D g).1 ci := Option.some.inj (k3.symm.trans hcls.1)
  subst hcomp
  obtain ⟨kC, hkC, -⟩ := hcls.2
  have h0 : ¬ i < 0 := fun q => hin (Or.inl q)
  refine W.aast fx.1.1 fx.1.2.1 (z_arr rel ha (by omega)) (fun q h => by cases h) (fun h => by cases h) k1 k2 rfl hkC ⟨h0, by show _ < (arrV _ _ _).slots.size; rw [arrV_size]; exact z_inlt hin⟩ o1 (fun q h => by rw [o3] at h; cases h) (by rw [o2]; exact hkC) (by rw [o2]; exact va_assign hcls) rfl rfl hd fun H1 e1 e2 e3 => ?_
  have hsk : ∀ j, z_sk t j = 3 := fun j => by unfold z_sk; rw [if_neg (by omega), ht]; rfl
  have rel1 : z_Rel g gr (z_uR h a i.toNatClampNeg (some v)) H1 := by
    refine z_arrset (v := .ref (z_rho g v)) rel ha (by omega) rfl rfl (fun b j => ?_) e1 e2 e3
    rw [z_vl_uR, ha.2.2]
    dsimp only
    rw [hsk]
    simp [va_rf]
  exact k p e Ro s mid args below meth c mc ms QQ fx ret hmc hms H1 _ cells slots real rel1 (z_lo_app rel lo ha) lv hc hs
/-- Object's own constructor -/
def z_LO (own : String) (ix : Nat) : Prop := Cond.methodLink own ix Lib.objectInit ∈ lw_good ∧ Cond.instanceMethod Lib.objectInit ∈ lw_good ∧ Cond.code Lib.objectInit ⟨#[0xb1]⟩ 1 none ∈ lw_good
theorem r_objInit {gr : Bool} {h : zH} {ix a : Nat} (hd : decode M.2.1 pc = .ok (.invokespecial ix, 3)) (lk : z_LO M.1.cls ix) (hd1 : 1 ≤ d) (hcat : (st.map fun v => v.category).sum ≤ 8) (k : WP g gr d M C S (pc + 3) ls st h Q) : WP g gr d M C S pc ls (.ref a :: st) h Q := by
  intro p e Ro s mid args below meth c mc ms QQ fx ret hmc hms H locs cells slots real rel lo lv hc hs
  have hts := fx.1.2.2.2.2
  have := fx.2.2.1
  have := fx.2.2.2.1
  refine W.objInit fx.1.1 fx.1.2.1 fx.1.2.2.2.1 (hts _ lk.1) (hts _ lk.2.1) (hts _ lk.2.2) rfl (lv.1.trans fx.1.2.2.1.symm) (a := z_rho g a) (rest := st.map (z_tr g)) rfl hd (by omega) (by show 2 * 0 + _ + 12 ≤ _; rw [z_catsum]; omega) (k p e Ro s mid args below meth c mc ms QQ fx ret hmc hms H locs cells slots real rel lo lv hc hs)
/-- another table of references that says the same -/
theorem arrV_congr {cI : ClassId} {N : Nat} {f f' : Nat → Value} (h : ∀ j, j < N → f j = f' j) : arrV cI N f = arrV cI N f' := by
  unfold arrV
  congr 1
  apply Array.ext
  · simp
  · intro i h1 h2
    simp only [Array.getElem_ofFn]
    exact h i (by simpa using h1)
theorem r_commit {z : Nat} {R' : Nat → Nat → Option Nat} (hag : ∀ a, a < z → ∀ k, k < (T0 a).2 → z_sk (T0 a).1 k = 3 → R a k = R' a k) (hN : ∀ a, 0 < a → a < z → (T0 a).1 < 12 → ∃ Cn T, vwCl[(T0 a).1]? = some (Cn, T, (T0 a).2)) (k : WP g true d M C S pc ls st (mkc z R' m) Q) : WP g true d M C S pc ls st (mkc z R m) Q := by
  intro p e Ro s mid args below meth c mc ms QQ fx ret hmc hms H locs cells slots real rel lo lv hc hs
  refine k p e Ro s mid args below meth c mc ms QQ fx ret hmc hms H locs cells slots real ?_ lo lv hc hs
  obtain ⟨r1, r2, r3, r4⟩ := rel
  refine ⟨r1, r2, r3, fun a a0 a1 => ?_⟩
  have hv : ∀ j, j < (T0 a).2 → z_vl g (mkc z R m) a j = z_vl g (mkc z R' m) a j := by
    intro j hj
    unfold z_vl
    show (if z_sk (T0 a).1 j = 2 then Value.long (m.2 a j) else if z_sk (T0 a).1 j = 3 then va_rf ((R a j).map (z_rho g)) else .int (m.1 a j)) = (if z_sk (T0 a).1 j = 2 then Value.long (m.2 a j) else if z_sk (T0 a).1 j = 3 then va_rf ((R' a j).map (z_rho g)) else .int (m.1 a j))
    by_cases h3 : z_sk (T0 a).1 j = 3
    · rw [hag a a1 j hj h3]
    · rw [if_neg h3, if_neg h3]
  have h4 := r4 a a0 a1
  unfold z_cell at h4 ⊢
  show if (T0 a).1 < 12 then _ else _
  have h4' : if (T0 a).1 < 12 then ∃ q : vw_C, vwCl[(T0 a).1]? = some q ∧ t_OB (z_rho g a) ((g_D g).1 (T0 a).1) q.2.2 ((g_D g).2 (T0 a).1) H (z_vl g (mkc z R m) a) else H[z_rho g a]? = some (arrV ((g_D g).1 (T0 a).1) (T0 a).2 (z_vl g (mkc z R m) a)) := h4
  split
  · rename_i h9
    rw [if_pos h9] at h4'
    obtain ⟨q, q1, q2⟩ := h4'
    obtain ⟨Cn, T, hq⟩ := hN a a0 a1 h9
    have : q = (Cn, T, (T0 a).2) := Option.some.inj (q1.symm.trans hq)
    subst this
    exact ⟨_, q1, q2.to hv⟩
  · rename_i h9
    rw [if_neg h9] at h4'
    rw [h4', arrV_congr hv]
end ZAlloc
