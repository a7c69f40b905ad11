/-! arrays, fields, ends, calls -/
section ZCalls
variable {g : zG} {gr : Bool} {d : Nat} {M : zM} {C S pc : Nat} {ls st : List Value} {h : zH} {Q : Option Value → zH → Prop}
theorem z_arr {H : Heap} (rel : z_Rel g gr h H) {a t n : Nat} (ha : z_isA h a t n) (ht : ¬ t < 12) : H[z_rho g a]? = some (arrV ((g_D g).1 t) n (z_vl g h a)) := by
  obtain ⟨a0, a1, a2⟩ := ha
  have hc := rel.2.2.2 a a0 a1
  unfold z_cell at hc
  rw [a2, if_neg ht] at hc
  exact hc
theorem z_inlt {i : Int32} {n : Nat} (hin : vp_in i n) : i.toNatClampNeg < n := by
  unfold vp_in at hin
  omega
theorem z_inS {cI : ClassId} {V : Nat → Value} {i : Int32} {n : Nat} (hin : vp_in i n) : ¬ (i < 0 ∨ (arrV cI n V).slots.size ≤ i.toNatClampNeg) := by
  rw [arrV_size]; exact hin
theorem r_iaload {i : Int32} {a n : Nat} (hd : decode M.2.1 pc = .ok (.iaload, 1)) (ha : z_isA h a 20 n) (hin : vp_in i n) (k : WP g gr d M C S (pc + 1) ls (.int (z_I h a i.toNatClampNeg) :: st) h Q) : WP g gr d M C S pc ls (.int i :: .ref a :: st) h Q := by
  intro p e R s m args below meth c mc ms QQ fx ret hmc hms H locs cells slots real rel lo lv hc hs
  refine W.iald fx.1.1 fx.1.2.1 (z_arr rel ha (by decide)) ((fx.2.1.2.2.1 20 (by decide) (by decide)).1 n _) (fun q => by cases q) (z_inS hin) (v := .int (z_I h a i.toNatClampNeg)) ?_ rfl rfl hd (k p e R s m args below meth c mc ms QQ fx ret hmc hms H locs cells slots real rel lo lv hc hs)
  rw [arrV_read _ _ (z_inlt hin), z_vl_int ha.2.2 (Or.inl rfl)]
theorem r_laload {i : Int32} {a n : Nat} (hd : decode M.2.1 pc = .ok (.laload, 1)) (ha : z_isA h a 21 n) (hin : vp_in i n) (k : WP g gr d M C S (pc + 1) ls (.long (z_L h a i.toNatClampNeg) :: st) h Q) : WP g gr d M C S pc ls (.int i :: .ref a :: st) h Q := by
  intro p e R s m args below meth c mc ms QQ fx ret hmc hms H locs cells slots real rel lo lv hc hs
  refine W.lald fx.1.1 fx.1.2.1 (z_arr rel ha (by decide)) ((fx.2.1.2.2.1 21 (by decide) (by decide)).1 n _) (fun q => by cases q) (z_inS hin) (v := .long (z_L h a i.toNatClampNeg)) ?_ rfl rfl hd (k p e R s m args below meth c mc ms QQ fx ret hmc hms H locs cells slots real rel lo lv hc hs)
  rw [arrV_read _ _ (z_inlt hin), z_vl_long ha.2.2 rfl]
theorem r_baload {i : Int32} {a n : Nat} (hd : decode M.2.1 pc = .ok (.baload, 1)) (ha : z_isA h a 22 n) (hin : vp_in i n) (k : WP g gr d M C S (pc + 1) ls (.int (z_I h a i.toNatClampNeg) :: st) h Q) : WP g gr d M C S pc ls (.int i :: .ref a :: st) h Q := by
  intro p e R s m args below meth c mc ms QQ fx ret hmc hms H locs cells slots real rel lo lv hc hs
  refine W.zald fx.1.1 fx.1.2.1 (z_arr rel ha (by decide)) ((fx.2.1.2.2.1 22 (by decide) (by decide)).1 n _) (fun q => by cases q) (z_inS hin) (v := .int (z_I h a i.toNatClampNeg)) ?_ rfl rfl hd (k p e R s m args below meth c mc ms QQ fx ret hmc hms H locs cells slots real rel lo lv hc hs)
  rw [arrV_read _ _ (z_inlt hin), z_vl_int ha.2.2 (Or.inr rfl)]
theorem r_aaload {i : Int32} {a n t r : Nat} (hd : decode M.2.1 pc = .ok (.aaload, 1)) (ha : z_isA h a t n) (ht : 23 ≤ t ∧ t ≤ 28 ∧ z_sk t 0 = 3 ∧ (z_et t).isReference = true) (hin : vp_in i n) (hr : z_R h a i.toNatClampNeg = some r) (k : WP g gr d M C S (pc + 1) ls (.ref r :: st) h Q) : WP g gr d M C S pc ls (.int i :: .ref a :: st) h Q := by
  intro p e R s m args below meth c mc ms QQ fx ret hmc hms H locs cells slots real rel lo lv hc hs
  refine W.aald fx.1.1 fx.1.2.1 (z_arr rel ha (by omega)) ((fx.2.1.2.2.1 t (by omega) (by omega)).1 n _) ht.2.2.2 (fun q => by cases q) (z_inS hin) (v := .ref (z_rho g r)) ?_ rfl rfl hd (k p e R s m args below meth c mc ms QQ fx ret hmc hms H locs cells slots real rel lo lv hc hs)
  have hk : z_sk t i.toNatClampNeg = 3 := by
    have h1 := ht.2.2.1
    unfold z_sk at h1 ⊢
    rw [if_neg (by omega)] at h1 ⊢
    exact h1
  rw [arrV_read _ _ (z_inlt hin), z_vl_ref ha.2.2 hk, hr]; rfl
theorem z_arrset {h' : zH} {a t n k : Nat} {v : Value} {H H' : Heap} (rel : z_Rel g gr h H) (ha : z_isA h a t n) (ht : ¬ t < 12) (ez : z_z h' = z_z h) (eT : z_T h' = z_T h) (ev : ∀ b j, z_vl g h' b j = if b = a ∧ j = k then v else z_vl g h b j) (e1 : H'[z_rho g a]? = some ((arrV ((g_D g).1 t) n (z_vl g h a)).setSlot k v)) (e2 : H'.size = H.size) (e3 : ∀ q, q ≠ z_rho g a → H'[q]? = H[q]?) : z_Rel g gr h' H' := by
  obtain ⟨a0, a1, a2⟩ := ha
  refine z_set rel a0 a1 ez eT (fun b j hb => by rw [ev, if_neg (fun q => hb q.1)]) e2 e3 ?_
  unfold z_cell
  rw [eT, a2, if_neg ht, e1, arrV_store]
  congr 2
  funext j
  rw [ev]
  simp [updV]
theorem z_lo_app {locs : List Loc} {H : Heap} (rel : z_Rel g gr h H) (lo : z_lo g (g_B g) locs) {a t n k : Nat} (ha : z_isA h a t n) : z_lo g (g_B g) (locs ++ [⟨z_rho g a, k⟩]) := by
  have er := z_rho_lo rel ha.1 ha.2.1
  intro q hq
  rcases List.mem_append.mp hq with h1 | h1
  · exact lo q h1
  · rw [List.mem_singleton] at h1
    subst h1
    exact er
theorem r_iastore {i v : Int32} {a n : Nat} (hd : decode M.2.1 pc = .ok (.iastore, 1)) (ha : z_isA h a 20 n) (hin : vp_in i n) (k : WP g gr d M C S (pc + 1) ls st (z_uI h a i.toNatClampNeg v) Q) : WP g gr d M C S pc ls (.int v :: .int i :: .ref a :: st) h Q := by
  intro p e R s m args below meth c mc ms QQ fx ret hmc hms H locs cells slots real rel lo lv hc hs
  refine W.iast fx.1.1 fx.1.2.1 (z_arr rel ha (by decide)) ((fx.2.1.2.2.1 20 (by decide) (by decide)).1 n _) (fun q => by cases q) (z_inS hin) rfl rfl hd (fun H' e1 e2 e3 => k p e R s m args below meth c mc ms QQ fx ret hmc hms H' _ cells slots real (z_arrset rel ha (by decide) rfl rfl ?_ e1 e2 e3) (z_lo_app rel lo ha) lv hc hs)
  intro b j
  rw [z_vl_uI, ha.2.2]
  simp [z_sk, z_et, z_tc]
theorem r_lastore {i : Int32} {v : Int64} {a n : Nat} (hd : decode M.2.1 pc = .ok (.lastore, 1)) (ha : z_isA h a 21 n) (hin : vp_in i n) (k : WP g gr d M C S (pc + 1) ls st (z_uL h a i.toNatClampNeg v) Q) : WP g gr d M C S pc ls (.long v :: .int i :: .ref a :: st) h Q := by
  intro p e R s m args below meth c mc ms QQ fx ret hmc hms H locs cells slots real rel lo lv hc hs
  refine W.last fx.1.1 fx.1.2.1 (z_arr rel ha (by decide)) ((fx.2.1.2.2.1 21 (by decide) (by decide)).1 n _) (fun q => by cases q) (z_inS hin) rfl rfl hd (fun H' e1 e2 e3 => k p e R s m args below meth c mc ms QQ fx ret hmc hms H' _ cells slots real (z_arrset rel ha (by decide) rfl rfl ?_ e1 e2 e3) (z_lo_app rel lo ha) lv hc hs)
  intro b j
  rw [z_vl_uL, ha.2.2]
  simp [z_sk, z_et, z_tc]
theorem r_bastore {i v : Int32} {a n : Nat} (hd : decode M.2.1 pc = .ok (.bastore, 1)) (ha : z_isA h a 22 n) (hin : vp_in i n) (hv : v = 0 ∨ v = 1) (k : WP g gr d M C S (pc + 1) ls st (z_uI h a i.toNatClampNeg v) Q) : WP g gr d M C S pc ls (.int v :: .int i :: .ref a :: st) h Q := by
  intro p e R s m args below meth c mc ms QQ fx ret hmc hms H locs cells slots real rel lo lv hc hs
  have hn : narrow .boolean (.int v) = .int v := by rcases hv with rfl | rfl <;> rfl
  refine W.zast fx.1.1 fx.1.2.1 (z_arr rel ha (by decide)) ((fx.2.1.2.2.1 22 (by decide) (by decide)).1 n _) (fun q => by cases q) (z_inS hin) rfl rfl hd (fun H' e1 e2 e3 => k p e R s m args below meth c mc ms QQ fx ret hmc hms H' _ cells slots real (z_arrset rel ha (by decide) rfl rfl ?_ (by rw [hn] at e1; exact e1) e2 e3) (z_lo_app rel lo ha) lv hc hs)
  intro b j
  rw [z_vl_uI, ha.2.2]
  simp [z_sk, z_et, z_tc]
theorem r_getI {ix ci kf t a n : Nat} (hd : decode M.2.1 pc = .ok (.getfield ix, 3)) (F : z_FLg M.1.cls ix ci kf t) (ht : t = 0 ∨ t = 1) (ha : z_isA h a ci n) (k : WP g gr d M C S (pc + 3) ls (.int (z_I h a kf) :: st) h Q) : WP g gr d M C S pc ls (.ref a :: st) h Q := by
  intro p e R s m args below meth c mc ms QQ fx ret hmc hms H locs cells slots real rel lo lv hc hs
  have hk := k p e R s m args below meth c mc ms QQ fx ret hmc hms H locs cells slots real rel lo lv hc hs
  refine z_getW F fx.1 fx.2.1 rel ha hd ?_
  obtain ⟨_, _, _, _, _, -, -, -, -, -, -, -, -, f10, -⟩ := F
  rw [z_vl_int ha.2.2 (by rw [f10]; exact ht)]
  exact hk
theorem r_getL {ix ci kf a n : Nat} (hd : decode M.2.1 pc = .ok (.getfield ix, 3)) (F : z_FLg M.1.cls ix ci kf 2) (ha : z_isA h a ci n) (k : WP g gr d M C S (pc + 3) ls (.long (z_L h a kf) :: st) h Q) : WP g gr d M C S pc ls (.ref a :: st) h Q := by
  intro p e R s m args below meth c mc ms QQ fx ret hmc hms H locs cells slots real rel lo lv hc hs
  have hk := k p e R s m args below meth c mc ms QQ fx ret hmc hms H locs cells slots real rel lo lv hc hs
  refine z_getW F fx.1 fx.2.1 rel ha hd ?_
  obtain ⟨_, _, _, _, _, -, -, -, -, -, -, -, -, f10, -⟩ := F
  rw [z_vl_long ha.2.2 f10]
  exact hk
theorem r_getR {ix ci kf a n r : Nat} (hd : decode M.2.1 pc = .ok (.getfield ix, 3)) (F : z_FLg M.1.cls ix ci kf 3) (ha : z_isA h a ci n) (hr : z_R h a kf = some r) (k : WP g gr d M C S (pc + 3) ls (.ref r :: st) h Q) : WP g gr d M C S pc ls (.ref a :: st) h Q := by
  intro p e R s m args below meth c mc ms QQ fx ret hmc hms H locs cells slots real rel lo lv hc hs
  have hk := k p e R s m args below meth c mc ms QQ fx ret hmc hms H locs cells slots real rel lo lv hc hs
  refine z_getW F fx.1 fx.2.1 rel ha hd ?_
  obtain ⟨_, _, _, _, _, -, -, -, -, -, -, -, -, f10, -⟩ := F
  rw [z_vl_ref ha.2.2 f10, hr]
  exact hk
theorem z_tc0 {ty : FieldType} (h : z_tc ty = 0) : ty = .int := by cases ty <;> simp_all [z_tc]
theorem z_tc1 {ty : FieldType} (h : z_tc ty = 1) : ty = .boolean := by cases ty <;> simp_all [z_tc]
theorem z_tc2 {ty : FieldType} (h : z_tc ty = 2) : ty = .long := by cases ty <;> simp_all [z_tc]
theorem r_putI {ix ci kf t a n : Nat} {v : Int32} (hd : decode M.2.1 pc = .ok (.putfield ix, 3)) (F : z_FL M.1.cls ix ci kf t false) (ht : t = 0 ∨ (t = 1 ∧ (v = 0 ∨ v = 1))) (ha : z_isA h a ci n) (k : WP g gr d M C S (pc + 3) ls st (z_uI h a kf v) Q) : WP g gr d M C S pc ls (.int v :: .ref a :: st) h Q := by
  intro p e R s m args below meth c mc ms QQ fx ret hmc hms H locs cells slots real rel lo lv hc hs
  refine z_putW (v := .int v) (h' := z_uI h a kf v) F fx.1 fx.2.1 rel lo ha ?_ (fun q => by cases q) rfl rfl ?_ hd (fun H1 locs1 rel1 lo1 => k p e R s m args below meth c mc ms QQ fx ret hmc hms H1 locs1 cells slots real rel1 lo1 lv hc hs)
  · intro ty hty
    rcases ht with rfl | ⟨rfl, rfl | rfl⟩
    · rw [z_tc0 hty]; exact ⟨rfl, rfl⟩
    · rw [z_tc1 hty]; exact ⟨rfl, rfl⟩
    · rw [z_tc1 hty]; exact ⟨rfl, rfl⟩
  · obtain ⟨_, _, _, _, _, -, -, -, -, -, -, -, -, -, f10, -⟩ := F
    intro b j
    rw [z_vl_uI, ha.2.2]
    dsimp only
    rw [f10]
    rcases ht with rfl | ⟨rfl, -⟩ <;> simp
theorem r_putL {ix ci kf a n : Nat} {v : Int64} (hd : decode M.2.1 pc = .ok (.putfield ix, 3)) (F : z_FL M.1.cls ix ci kf 2 false) (ha : z_isA h a ci n) (k : WP g gr d M C S (pc + 3) ls st (z_uL h a kf v) Q) : WP g gr d M C S pc ls (.long v :: .ref a :: st) h Q := by
  intro p e R s m args below meth c mc ms QQ fx ret hmc hms H locs cells slots real rel lo lv hc hs
  refine z_putW (v := .long v) (h' := z_uL h a kf v) F fx.1 fx.2.1 rel lo ha ?_ (fun q => by cases q) rfl rfl ?_ hd (fun H1 locs1 rel1 lo1 => k p e R s m args below meth c mc ms QQ fx ret hmc hms H1 locs1 cells slots real rel1 lo1 lv hc hs)
  · intro ty hty
    rw [z_tc2 hty]; exact ⟨rfl, rfl⟩
  · obtain ⟨_, _, _, _, _, -, -, -, -, -, -, -, -, -, f10, -⟩ := F
    intro b j
    rw [z_vl_uL, ha.2.2]
    dsimp only
    rw [f10]
    simp
/-- a reference into a field; a final one in a constructor too -/
theorem r_putR {ix ci kf a n r : Nat} {fin : Bool} (hd : decode M.2.1 pc = .ok (.putfield ix, 3)) (F : z_FL M.1.cls ix ci kf 3 fin) (hfin : fin = true → M.1.name = "<init>") (ha : z_isA h a ci n) (k : WP g gr d M C S (pc + 3) ls st (z_uR h a kf (some r)) Q) : WP g gr d M C S pc ls (.ref r :: .ref a :: st) h Q := by
  intro p e R s m args below meth c mc ms QQ fx ret hmc hms H locs cells slots real rel lo lv hc hs
  refine z_putW (v := .ref (z_rho g r)) (h' := z_uR h a kf (some r)) F fx.1 fx.2.1 rel lo ha ?_ (fun q => fx.2.2.2.2.trans (hfin q)) rfl rfl ?_ hd (fun H1 locs1 rel1 lo1 => k p e R s m args below meth c mc ms QQ fx ret hmc hms H1 locs1 cells slots real rel1 lo1 lv hc hs)
  · intro ty hty
    cases ty <;> first | exact ⟨rfl, rfl⟩ | (exfalso; revert hty; decide)
  · obtain ⟨_, _, _, _, _, -, -, -, -, -, -, -, -, -, f10, -⟩ := F
    intro b j
    rw [z_vl_uR, ha.2.2]
    dsimp only
    rw [f10]
    simp [va_rf]
theorem r_ret (r : Option Value) (hv : z_rv M pc r) (hq : Q r h) (hst : st = r.toList) : WP g gr d M C S pc ls st h Q := by
  intro p e R s m args below meth c mc ms QQ fx ret hmc hms H locs cells slots real rel lo lv hc hs
  subst hst
  exact ret H locs cells slots real pc r h (by omega) (by omega) rel lo hq hv
theorem r_iret {v : Int32} (hd : decode M.2.1 pc = .ok (.ireturn, 1)) (hr : M.2.2.2 = some .int) (hq : Q (some (.int v)) h) : WP g gr d M C S pc ls [.int v] h Q := r_ret (some (.int v)) ⟨.int, hr, rfl, hd⟩ hq rfl
theorem r_zret {v : Int32} (hd : decode M.2.1 pc = .ok (.ireturn, 1)) (hr : M.2.2.2 = some .boolean) (hv : v = 0 ∨ v = 1) (hq : Q (some (.int v)) h) : WP g gr d M C S pc ls [.int v] h Q := r_ret (some (.int v)) ⟨.boolean, hr, by rcases hv with rfl | rfl <;> rfl, hd⟩ hq rfl
theorem r_lret {v : Int64} (hd : decode M.2.1 pc = .ok (.lreturn, 1)) (hr : M.2.2.2 = some .long) (hq : Q (some (.long v)) h) : WP g gr d M C S pc ls [.long v] h Q := r_ret (some (.long v)) ⟨hr, hd⟩ hq rfl
theorem r_aret {a : Nat} {n : String} (hd : decode M.2.1 pc = .ok (.areturn, 1)) (hr : M.2.2.2 = some (.object n)) (hq : Q (some (.ref a)) h) : WP g gr d M C S pc ls [.ref a] h Q := r_ret (some (.ref a)) ⟨Or.inl ⟨n, hr⟩, hd⟩ hq rfl
theorem r_aretA {a : Nat} {t : FieldType} (hd : decode M.2.1 pc = .ok (.areturn, 1)) (hr : M.2.2.2 = some (.array t)) (hq : Q (some (.ref a)) h) : WP g gr d M C S pc ls [.ref a] h Q := r_ret (some (.ref a)) ⟨Or.inr ⟨t, hr⟩, hd⟩ hq rfl
/-- an answer of a narrower kind -/
theorem r_nret {v : Int32} {ty : FieldType} (hd : decode M.2.1 pc = .ok (.ireturn, 1)) (hr : M.2.2.2 = some ty) (hv : narrow ty (.int v) = .int v) (hq : Q (some (.int v)) h) : WP g gr d M C S pc ls [.int v] h Q := r_ret (some (.int v)) ⟨ty, hr, hv, hd⟩ hq rfl
theorem r_aretN {n : String} (hd : decode M.2.1 pc = .ok (.areturn, 1)) (hr : M.2.2.2 = some (.object n)) (hq : Q (some .null) h) : WP g gr d M C S pc ls [.null] h Q := r_ret (some .null) ⟨⟨n, hr⟩, hd⟩ hq rfl
theorem r_vret (hd : decode M.2.1 pc = .ok (.return_, 1)) (hr : M.2.2.2 = none) (hq : Q none h) : WP g gr d M C S pc ls [] h Q := r_ret none ⟨hr, hd⟩ hq rfl
theorem z_args_mem : ∀ (l : List Value) (b j : Nat) (w : Value), (∀ v ∈ l, v.category = 1) → l[j]? = some w → (b + j, w) ∈ lv_args b l := by
  intro l
  induction l with
  | nil => intro b j w _ h; simp at h
  | cons x xs ih =>
    intro b j w hc h
    unfold lv_args
    have hx : x.category = 1 := hc x List.mem_cons_self
    cases j with
    | zero => simp at h; subst h; exact List.mem_cons_self
    | succ j =>
      refine List.mem_cons_of_mem _ ?_
      rw [if_neg (by omega)]
      have := ih (b + 1) j w (fun v hv => hc v (List.mem_cons_of_mem _ hv)) (by simpa using h)
      rw [show b + (j + 1) = b + 1 + j by omega]
      exact this
theorem Ok_of {av : List Value} (hp : plainName M.1.cls = true) (hcat : av.all (fun v => v.category == 1) = true) (hlen : av.length ≤ M.2.2.1) (hls : ls = av ++ List.replicate (M.2.2.1 - av.length) (.retAddr 0)) (wp : WP g gr d M C S 0 ls [] h Q) : Ok g gr d M C S av h Q := by
  refine Met.ofW (cc := M.2.1) (maxL := M.2.2.1) (ret := M.2.2.2) hp rfl ?_
  intro p e s m args below meth c s₁ B hml hv
  obtain ⟨rfl, kk, rel⟩ := hv
  have hcat1 : ∀ v ∈ av, v.category = 1 := fun v hv => by simpa using List.all_eq_true.mp hcat v hv
  have hcat2 : ∀ v ∈ av.map (z_tr g), v.category = 1 := fun v hv => by
    obtain ⟨w, hw, rfl⟩ := List.mem_map.mp hv
    rw [z_tr_cat]; exact hcat1 w hw
  have hl0 : (lg_sl (av.map (z_tr g))).length ≤ M.2.2.1 := by
    have : ∀ l : List Value, (∀ v ∈ l, v.category = 1) → (lg_sl l).length = l.length := by
      intro l
      induction l with
      | nil => intro _; rfl
      | cons x xs ih =>
        intro hx
        have e1 := hx x List.mem_cons_self
        have e2 := ih (fun v hv => hx v (List.mem_cons_of_mem _ hv))
        unfold lg_sl at e2 ⊢
        rw [List.flatMap_cons, if_neg (by omega)]
        simp [e2]
    rw [this _ hcat2, List.length_map]; exact hlen
  have hl := lv_entry (av.map (z_tr g)) (n := M.2.2.1) hl0
  rw [lg_entry_eq]
  generalize (lg_sl (av.map (z_tr g)) ++ List.replicate (M.2.2.1 - (lg_sl (av.map (z_tr g))).length) Slot.unset).toArray = real at hl ⊢
  have hts := atoms_spec (ws := z_W M) B.pre
  have lv : lv_has real M.2.2.1 (z_asc g ls 0) := by
    refine z_mono hl ?_
    rintro ⟨q1, q2⟩ hq
    obtain ⟨j, w, h1, h2, h3, h4⟩ := (z_asc_mem g _ 0 _ _).mp hq
    rw [Nat.zero_add] at h1
    subst h1; subst h4; subst hls
    have hj : q1 < av.length := by
      rcases Nat.lt_or_ge q1 av.length with q | q
      · exact q
      · rw [List.getElem?_append_right q, List.getElem?_replicate] at h2
        split at h2
        · cases h2; cases h3
        · cases h2
    rw [List.getElem?_append_left hj] at h2
    have := z_args_mem (av.map (z_tr g)) 0 q1 (z_tr g w) hcat2 (by rw [List.getElem?_map, h2]; rfl)
    rw [Nat.zero_add] at this
    exact this
  refine wp p e _ s m _ below meth c C S _ ⟨⟨B.exec, B.bytes, hml, findClass_of_methodNamed B.named, fun w hw => hts w (List.mem_cons_of_mem _ hw)⟩, kk, Nat.le_refl d, Nat.le_refl _, (name_of_methodNamed B.named B.method).1⟩ ?_ (Nat.le_refl C) (Nat.le_refl S) s.heap [] 0 0 real rel (fun q hq => by cases hq) lv (by omega) (by omega)
  intro H locs cells slots real pc r h' hc hs rel lo hq hv
  have hb := B.bytes
  have hr := B.returns
  have hlocks := B.notSynchronized
  refine W.widen hc hs ?_
  have lo : ∀ q ∈ locs, (fun x => g_B g ≤ x + 1) q.base := lo
  match r, hv, hq with
  | none, hv, hq => exact W.vret B.exec hb (hr.trans hv.1) (fun t ht _ => ⟨none, h', rfl, hq, by rw [ht]; exact rel⟩) lo hv.2
  | some (.int v), ⟨ty, hv1, hv2, hv3⟩, hq => exact W.zret B.exec hb (hr.trans hv1) hv2 (fun t ht _ => ⟨some (.int v), h', rfl, hq, by rw [ht]; exact rel⟩) lo hv3
  | some (.long v), hv, hq => exact W.lret B.exec hb (hr.trans hv.1) (fun t ht _ => ⟨some (.long v), h', rfl, hq, by rw [ht]; exact rel⟩) lo hv.2
  | some (.ref a), ⟨Or.inr ⟨n, hv1⟩, hv2⟩, hq => exact W.aret B.exec hb (hr.trans hv1) (Or.inr ⟨n, rfl⟩) (Or.inr ⟨_, rfl⟩) (fun t ht _ => ⟨some (.ref a), h', rfl, hq, by rw [ht]; exact rel⟩) lo hv2
  | some (.ref a), ⟨Or.inl ⟨n, hv1⟩, hv2⟩, hq => exact W.aret B.exec hb (hr.trans hv1) (Or.inl ⟨n, rfl⟩) (Or.inr ⟨_, rfl⟩) (fun t ht _ => ⟨some (.ref a), h', rfl, hq, by rw [ht]; exact rel⟩) lo hv2
  | some .null, ⟨⟨n, hv1⟩, hv2⟩, hq => exact W.aret B.exec hb (hr.trans hv1) (Or.inl ⟨n, rfl⟩) (Or.inl rfl) (fun t ht _ => ⟨some .null, h', rfl, hq, by rw [ht]; exact rel⟩) lo hv2
end ZCalls
