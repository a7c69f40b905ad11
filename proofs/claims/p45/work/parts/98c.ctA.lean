/-! what is needed for the constructors; the constructors -/
section ZCt
variable {g : zG} {gr : Bool} {d : Nat} {M M2 : zM} {C S pc : Nat} {ls st : List Value} {m : zm} {R : Nat → Nat → Option Nat} {Q : Option Value → zH → Prop} {h : zH}
theorem r_len {a t n : Nat} (hd : decode M.2.1 pc = .ok (.arraylength, 1)) (ha : z_isA h a t n) (ht : 20 ≤ t ∧ t ≤ 28) (k : WP g gr d M C S (pc + 1) ls (.int (Int32.ofNat n) :: st) h Q) : WP g gr d M C S pc ls (.ref a :: st) h Q := by
  intro p e Ro s mid args below meth c mc ms QQ fx ret hmc hms H locs cells slots real rel lo lv hc hs
  exact W.alen (n := Int32.ofNat n) fx.1.1 fx.1.2.1 (z_arr rel ha (by omega)) ((fx.2.1.2.2.1 t (by omega) (by omega)).1 n _) (by rw [arrV_size] <;> rfl) rfl rfl hd (k p e Ro s mid args below meth c mc ms QQ fx ret hmc hms H locs cells slots real rel lo lv hc hs)
theorem zAc {z a t n : Nat} (h : sA a t n) (hz : a < z) : z_isA (mkc z R m) a t n := ⟨h.1, hz, h.2.2⟩
theorem zt {a : Nat} (h : a ≤ 809) : a + 1 < z_cp := by unfold z_cp; omega
theorem ztn {a n : Nat} (h : a + n ≤ 809) : a + 1 + n < z_cp := by unfold z_cp; omega
theorem zu_eq {R : Nat → Nat → Option Nat} {a k : Nat} {v : Option Nat} : z_u R a k v a k = v := by unfold z_u; rw [if_pos ⟨rfl, rfl⟩]
theorem zu_ne {R : Nat → Nat → Option Nat} {a k b j : Nat} {v : Option Nat} (h : ¬ (b = a ∧ j = k)) : z_u R a k v b j = R b j := by unfold z_u; rw [if_neg h]
theorem zu_na {R : Nat → Nat → Option Nat} {a k b j : Nat} {v : Option Nat} (h : b ≠ a) : z_u R a k v b j = R b j := zu_ne (fun q => h q.1)
theorem rM_na {R : Nat → Nat → Option Nat} {z n b j : Nat} (h : b ≠ z) : rMna R z n b j = R b j := by unfold rMna; rw [if_neg (fun q => h q.1)]
def RA (R : Nat → Nat → Option Nat) (lo hi : Nat) : Nat → Nat → Option Nat := fun a k => if lo ≤ a ∧ a < hi then R0 a k else R a k
theorem RA_na {R : Nat → Nat → Option Nat} {lo hi b j : Nat} (h : b < lo ∨ hi ≤ b) : RA R lo hi b j = R b j := by unfold RA; rw [if_neg (by omega)]
theorem RA_in {R : Nat → Nat → Option Nat} {lo hi b j : Nat} (h : lo ≤ b ∧ b < hi) : RA R lo hi b j = R0 b j := by unfold RA; rw [if_pos h]
def z0 (m : zm) (a : Nat) : Prop := ∀ k, m.1 a k = 0 ∧ m.2 a k = 0
/-- the numbers behind the constructors -/
def i0 (a k : Nat) : Int32 := if (T0 a).1 = 1 ∧ k = 0 then 1 else if a = 5 ∧ k = 2 then -1 else 0
def mA (m : zm) (lo hi : Nat) : zm := (fun a k => if lo ≤ a ∧ a < hi then i0 a k else m.1 a k, m.2)
theorem wI_z0 {a b k : Nat} {v : Int32} (h : b ≠ a) (hm : z0 m b) : z0 (wI m a k v) b := fun j => ⟨by rw [wI_1, if_neg (fun q => h q.1)]; exact (hm j).1, (hm j).2⟩
theorem mA_z0 {lo hi b : Nat} (h : b < lo ∨ hi ≤ b) (hm : z0 m b) : z0 (mA m lo hi) b := fun j => ⟨by show (if lo ≤ b ∧ b < hi then i0 b j else m.1 b j) = 0; rw [if_neg (by omega)]; exact (hm j).1, (hm j).2⟩
theorem mA_1 {lo hi b j : Nat} : (mA m lo hi).1 b j = if lo ≤ b ∧ b < hi then i0 b j else m.1 b j := rfl
theorem c_putI {z ix ci kf t a n : Nat} {v : Int32} (hd : decode M.2.1 pc = .ok (.putfield ix, 3)) (F : z_FL M.1.cls ix ci kf t false) (ht : t = 0 ∨ (t = 1 ∧ (v = 0 ∨ v = 1))) (ha : z_isA (mkc z R m) a ci n) (k : WP g gr d M C S (pc + 3) ls st (mkc z R (wI m a kf v)) Q) : WP g gr d M C S pc ls (.int v :: .ref a :: st) (mkc z R m) Q := r_putI hd F ht ha k
theorem c_put0 {z ix ci kf t a n : Nat} (hd : decode M.2.1 pc = .ok (.putfield ix, 3)) (F : z_FL M.1.cls ix ci kf t false) (ht : t = 0 ∨ t = 1) (ha : z_isA (mkc z R m) a ci n) (h0 : m.1 a kf = 0) (k : WP g gr d M C S (pc + 3) ls st (mkc z R m) Q) : WP g gr d M C S pc ls (.int 0 :: .ref a :: st) (mkc z R m) Q := by
  refine r_putI (v := 0) hd F (ht.imp id (fun h => ⟨h, Or.inl rfl⟩)) ha ?_
  have e : z_uI (mkc z R m) a kf 0 = mkc z R m := by
    have : z_u m.1 a kf 0 = m.1 := funext fun b => funext fun j => by
      unfold z_u
      split
      · rename_i q; rw [q.1, q.2, h0]
      · rfl
    show (z, T0, R, m.2, z_u m.1 a kf 0) = _
    rw [this]
  rw [e]
  exact k
theorem c_putR {z ix ci kf a n r : Nat} {fin : Bool} (hd : decode M.2.1 pc = .ok (.putfield ix, 3)) (F : z_FL M.1.cls ix ci kf 3 fin) (hfin : fin = true → M.1.name = "<init>") (ha : z_isA (mkc z R m) a ci n) (k : WP g gr d M C S (pc + 3) ls st (mkc z (z_u R a kf (some r)) m) Q) : WP g gr d M C S pc ls (.ref r :: .ref a :: st) (mkc z R m) Q := r_putR hd F hfin ha k
theorem c_aastore {z : Nat} {i : Int32} {a n t v ci N x : Nat} {Cn : String} {T : u_T} (hd : decode M.2.1 pc = .ok (.aastore, 1)) (ha : z_isA (mkc z R m) a t n) (ht : z_et t = .object Cn) (ht2 : 24 ≤ t ∧ t ≤ 28) (hv : z_isA (mkc z R m) v ci N) (hcl : vwCl[ci]? = some (Cn, T, N)) (hci : ci < 12) (hin : vp_in i n) (hx : i.toNatClampNeg = x) (k : WP g gr d M C S (pc + 1) ls st (mkc z (z_u R a x (some v)) m) Q) : WP g gr d M C S pc ls (.ref v :: .int i :: .ref a :: st) (mkc z R m) Q := by subst hx; exact r_aastore hd ha ht ht2 hv hcl hci hin k
theorem c_iastore {z : Nat} {i v : Int32} {a n : Nat} (x : Nat) (hd : decode M.2.1 pc = .ok (.iastore, 1)) (ha : z_isA (mkc z R m) a 20 n) (hin : vp_in i n) (hx : i.toNatClampNeg = x) (k : WP g gr d M C S (pc + 1) ls st (mkc z R (wI m a x v)) Q) : WP g gr d M C S pc ls (.int v :: .int i :: .ref a :: st) (mkc z R m) Q := by subst hx; exact r_iastore hd ha hin k
theorem r_same {m' : zm} {z : Nat} (hm : m = m') (k : WP g gr d M C S pc ls st (mkc z R m') Q) : WP g gr d M C S pc ls st (mkc z R m) Q := by rw [hm]; exact k
def z_okT : Prop := ∀ a, 0 < a → a < 811 → (T0 a).1 < 12 → ∃ Cn T, vwCl[(T0 a).1]? = some (Cn, T, (T0 a).2)
theorem z_okT_ok : z_okT := by
  intro a h0 h1 h2
  have key : ∀ a, a < 811 → (T0 a).1 < 12 → (T0 a).2 = [7, 4, 5, 8, 4, 10, 13, 11, 14, 2, 4, 4].getD (T0 a).1 0 := by decide +kernel
  rw [key a h1 h2]
  have h3 : (T0 a).1 = 0 ∨ (T0 a).1 = 1 ∨ (T0 a).1 = 2 ∨ (T0 a).1 = 3 ∨ (T0 a).1 = 4 ∨ (T0 a).1 = 5 ∨ (T0 a).1 = 6 ∨ (T0 a).1 = 7 ∨ (T0 a).1 = 8 ∨ (T0 a).1 = 9 ∨ (T0 a).1 = 10 ∨ (T0 a).1 = 11 := by omega
  rcases h3 with e | e | e | e | e | e | e | e | e | e | e | e <;> rw [e] <;> exact ⟨_, _, rfl⟩

theorem lo_X0_3 : z_LO "GraphNames$Cells" 3 := ⟨lw_good_at (i := 177) (by decide +kernel) rfl, lw_good_at (i := 64) (by decide +kernel) rfl, lw_good_at (i := 65) (by decide +kernel) rfl⟩
theorem lo_X1_3 : z_LO "GraphNames$Graph" 3 := ⟨lw_good_at (i := 83) (by decide +kernel) rfl, lw_good_at (i := 64) (by decide +kernel) rfl, lw_good_at (i := 65) (by decide +kernel) rfl⟩
theorem cl_X1_19 : Cond.classLink "GraphNames$Graph" 19 "[[I" ∈ lw_good := lw_good_at (i := 84) (by decide +kernel) rfl
theorem lo_X2_3 : z_LO "GraphNames$Leaf" 3 := ⟨lw_good_at (i := 260) (by decide +kernel) rfl, lw_good_at (i := 64) (by decide +kernel) rfl, lw_good_at (i := 65) (by decide +kernel) rfl⟩
theorem lo_X3_3 : z_LO "GraphNames$Pairing" 3 := ⟨lw_good_at (i := 211) (by decide +kernel) rfl, lw_good_at (i := 64) (by decide +kernel) rfl, lw_good_at (i := 65) (by decide +kernel) rfl⟩
theorem nw_X3_22 : z_NW "GraphNames$Pairing" 22 1 4 := ⟨"GraphNames$Graph", TX1, rfl, inGX1, tyX1_ok, lw_good_at (i := 212) (by decide +kernel) rfl, lw_good_at (i := 79) (by decide +kernel) rfl, lw_good_at (i := 34) (by decide +kernel) rfl, by decide, by decide⟩
theorem lo_X4_3 : z_LO "GraphNames$Past" 3 := ⟨lw_good_at (i := 156) (by decide +kernel) rfl, lw_good_at (i := 64) (by decide +kernel) rfl, lw_good_at (i := 65) (by decide +kernel) rfl⟩
theorem cl_X4_22 : Cond.classLink "GraphNames$Past" 22 "GraphNames$Graph" ∈ lw_good := lw_good_at (i := 157) (by decide +kernel) rfl
theorem nw_X4_22 : z_NW "GraphNames$Past" 22 1 4 := ⟨"GraphNames$Graph", TX1, rfl, inGX1, tyX1_ok, lw_good_at (i := 157) (by decide +kernel) rfl, lw_good_at (i := 79) (by decide +kernel) rfl, lw_good_at (i := 34) (by decide +kernel) rfl, by decide, by decide⟩
theorem lo_X5_3 : z_LO "GraphNames$Reader" 3 := ⟨lw_good_at (i := 77) (by decide +kernel) rfl, lw_good_at (i := 64) (by decide +kernel) rfl, lw_good_at (i := 65) (by decide +kernel) rfl⟩
theorem nw_X5_21 : z_NW "GraphNames$Reader" 21 1 4 := ⟨"GraphNames$Graph", TX1, rfl, inGX1, tyX1_ok, lw_good_at (i := 78) (by decide +kernel) rfl, lw_good_at (i := 79) (by decide +kernel) rfl, lw_good_at (i := 34) (by decide +kernel) rfl, by decide, by decide⟩
theorem nw_X6_22 : z_NW "GraphNames$Search" 22 2 5 := ⟨"GraphNames$Leaf", TX2, rfl, inGX2, tyX2_ok, lw_good_at (i := 286) (by decide +kernel) rfl, lw_good_at (i := 256) (by decide +kernel) rfl, lw_good_at (i := 40) (by decide +kernel) rfl, by decide, by decide⟩
theorem lo_X8_3 : z_LO "GraphNames$Walk" 3 := ⟨lw_good_at (i := 250) (by decide +kernel) rfl, lw_good_at (i := 64) (by decide +kernel) rfl, lw_good_at (i := 65) (by decide +kernel) rfl⟩
theorem nw_X8_9 : z_NW "GraphNames$Walk" 9 1 4 := ⟨"GraphNames$Graph", TX1, rfl, inGX1, tyX1_ok, lw_good_at (i := 251) (by decide +kernel) rfl, lw_good_at (i := 79) (by decide +kernel) rfl, lw_good_at (i := 34) (by decide +kernel) rfl, by decide, by decide⟩
theorem cl_X8_18 : Cond.classLink "GraphNames$Walk" 18 "GraphNames$Cells" ∈ lw_good := lw_good_at (i := 253) (by decide +kernel) rfl
theorem nw_X8_24 : z_NW "GraphNames$Walk" 24 2 5 := ⟨"GraphNames$Leaf", TX2, rfl, inGX2, tyX2_ok, lw_good_at (i := 255) (by decide +kernel) rfl, lw_good_at (i := 256) (by decide +kernel) rfl, lw_good_at (i := 40) (by decide +kernel) rfl, by decide, by decide⟩
theorem nw_X8_18 : z_NW "GraphNames$Walk" 18 0 7 := ⟨"GraphNames$Cells", TX0, rfl, inGX0, tyX0_ok, lw_good_at (i := 253) (by decide +kernel) rfl, lw_good_at (i := 173) (by decide +kernel) rfl, lw_good_at (i := 36) (by decide +kernel) rfl, by decide, by decide⟩
theorem lo_X9_1 : z_LO "GraphNames" 1 := ⟨lw_good_at (i := 63) (by decide +kernel) rfl, lw_good_at (i := 64) (by decide +kernel) rfl, lw_good_at (i := 65) (by decide +kernel) rfl⟩
theorem cl_X9_9 : Cond.classLink "GraphNames" 9 "GraphNames$Graph" ∈ lw_good := lw_good_at (i := 66) (by decide +kernel) rfl
theorem cl_X9_15 : Cond.classLink "GraphNames" 15 "GraphNames$Tree" ∈ lw_good := lw_good_at (i := 68) (by decide +kernel) rfl
theorem cl_X9_21 : Cond.classLink "GraphNames" 21 "GraphNames$Search" ∈ lw_good := lw_good_at (i := 70) (by decide +kernel) rfl
theorem nw_X9_27 : z_NW "GraphNames" 27 5 10 := ⟨"GraphNames$Reader", TX5, rfl, inGX5, tyX5_ok, lw_good_at (i := 72) (by decide +kernel) rfl, lw_good_at (i := 73) (by decide +kernel) rfl, lw_good_at (i := 33) (by decide +kernel) rfl, by decide, by decide⟩
theorem nw_X9_34 : z_NW "GraphNames" 34 4 4 := ⟨"GraphNames$Past", TX4, rfl, inGX4, tyX4_ok, lw_good_at (i := 151) (by decide +kernel) rfl, lw_good_at (i := 152) (by decide +kernel) rfl, lw_good_at (i := 35) (by decide +kernel) rfl, by decide, by decide⟩
theorem nw_X9_48 : z_NW "GraphNames" 48 0 7 := ⟨"GraphNames$Cells", TX0, rfl, inGX0, tyX0_ok, lw_good_at (i := 172) (by decide +kernel) rfl, lw_good_at (i := 173) (by decide +kernel) rfl, lw_good_at (i := 36) (by decide +kernel) rfl, by decide, by decide⟩
theorem nw_X9_58 : z_NW "GraphNames" 58 3 8 := ⟨"GraphNames$Pairing", TX3, rfl, inGX3, tyX3_ok, lw_good_at (i := 206) (by decide +kernel) rfl, lw_good_at (i := 207) (by decide +kernel) rfl, lw_good_at (i := 37) (by decide +kernel) rfl, by decide, by decide⟩
theorem nw_X9_9 : z_NW "GraphNames" 9 1 4 := ⟨"GraphNames$Graph", TX1, rfl, inGX1, tyX1_ok, lw_good_at (i := 66) (by decide +kernel) rfl, lw_good_at (i := 79) (by decide +kernel) rfl, lw_good_at (i := 34) (by decide +kernel) rfl, by decide, by decide⟩
theorem nw_X9_21 : z_NW "GraphNames" 21 6 13 := ⟨"GraphNames$Search", TX6, rfl, inGX6, tyX6_ok, lw_good_at (i := 70) (by decide +kernel) rfl, lw_good_at (i := 243) (by decide +kernel) rfl, lw_good_at (i := 39) (by decide +kernel) rfl, by decide, by decide⟩
theorem cl_X9_75 : Cond.classLink "GraphNames" 75 "GraphNames$Leaf" ∈ lw_good := lw_good_at (i := 357) (by decide +kernel) rfl
theorem nw_X9_15 : z_NW "GraphNames" 15 7 11 := ⟨"GraphNames$Tree", TX7, rfl, inGX7, tyX7_ok, lw_good_at (i := 68) (by decide +kernel) rfl, lw_good_at (i := 359) (by decide +kernel) rfl, lw_good_at (i := 41) (by decide +kernel) rfl, by decide, by decide⟩
theorem nw_X9_75 : z_NW "GraphNames" 75 2 5 := ⟨"GraphNames$Leaf", TX2, rfl, inGX2, tyX2_ok, lw_good_at (i := 357) (by decide +kernel) rfl, lw_good_at (i := 256) (by decide +kernel) rfl, lw_good_at (i := 40) (by decide +kernel) rfl, by decide, by decide⟩
theorem ao_X1 : Cond.arrayOver (.object "GraphNames$Graph") ∈ lw_nest := lw_nest_at (i := 67) (by decide +kernel) rfl
theorem ao_X7 : Cond.arrayOver (.object "GraphNames$Tree") ∈ lw_nest := lw_nest_at (i := 69) (by decide +kernel) rfl
theorem ao_X6 : Cond.arrayOver (.object "GraphNames$Search") ∈ lw_nest := lw_nest_at (i := 71) (by decide +kernel) rfl
theorem ao_int : Cond.arrayOver (.array .int) ∈ lw_nest := lw_nest_at (i := 85) (by decide +kernel) rfl
theorem ac_int : Cond.arrayClass .int ∈ lw_good := lw_good_at (i := 116) (by decide +kernel) rfl
theorem ac_boolean : Cond.arrayClass .boolean ∈ lw_good := lw_good_at (i := 204) (by decide +kernel) rfl
theorem ac_long : Cond.arrayClass .long ∈ lw_good := lw_good_at (i := 205) (by decide +kernel) rfl
theorem ao_X0 : Cond.arrayOver (.object "GraphNames$Cells") ∈ lw_nest := lw_nest_at (i := 254) (by decide +kernel) rfl
theorem ao_X2 : Cond.arrayOver (.object "GraphNames$Leaf") ∈ lw_nest := lw_nest_at (i := 358) (by decide +kernel) rfl
theorem rM_at {R : Nat → Nat → Option Nat} {z n j : Nat} (h : j < n) : rMna R z n z j = some (z + 1 + j) := by unfold rMna; rw [if_pos ⟨rfl, h⟩]
theorem z_sk20 (k : Nat) : ¬ z_sk 20 k = 3 := by unfold z_sk; rw [if_neg (by decide)]; decide
theorem z_sk21 (k : Nat) : ¬ z_sk 21 k = 3 := by unfold z_sk; rw [if_neg (by decide)]; decide
theorem z_sk22 (k : Nat) : ¬ z_sk 22 k = 3 := by unfold z_sk; rw [if_neg (by decide)]; decide
theorem wI_hit {a k : Nat} {v : Int32} : (wI m a k v).1 a k = v := by rw [wI_1, if_pos ⟨rfl, rfl⟩]
theorem wI_ne {a k b j : Nat} {v : Int32} (h : ¬ (b = a ∧ j = k)) : (wI m a k v).1 b j = m.1 b j := by rw [wI_1, if_neg h]
theorem wI_na {a k b j : Nat} {v : Int32} (h : b ≠ a) : (wI m a k v).1 b j = m.1 b j := wI_ne (fun q => h q.1)
theorem wI_nk {a k b j : Nat} {v : Int32} (h : j ≠ k) : (wI m a k v).1 b j = m.1 b j := wI_ne (fun q => h q.2)
theorem mA_na {lo hi b j : Nat} (h : b < lo ∨ hi ≤ b) : (mA m lo hi).1 b j = m.1 b j := by rw [mA_1, if_neg (by omega)]
theorem mA_in {lo hi b j : Nat} (h : lo ≤ b ∧ b < hi) : (mA m lo hi).1 b j = i0 b j := by rw [mA_1, if_pos h]
theorem mA_of {c : zm} {lo hi : Nat} (h1 : ∀ a k, lo ≤ a → a < hi → c.1 a k = i0 a k) (h2 : ∀ a k, ¬ (lo ≤ a ∧ a < hi) → c.1 a k = m.1 a k) (h3 : c.2 = m.2) : c = mA m lo hi := by
  refine Prod.ext (funext fun a => funext fun k => ?_) h3
  rw [mA_1]
  by_cases h : lo ≤ a ∧ a < hi
  · rw [if_pos h]; exact h1 a k h.1 h.2
  · rw [if_neg h]; exact h2 a k h
theorem wI_zero {a k : Nat} (h : m.1 a k = 0) : wI m a k 0 = m := by
  refine Prod.ext (funext fun b => funext fun j => ?_) rfl
  rw [wI_1]
  split
  · rename_i q; rw [q.1, q.2, h]
  · rfl
theorem i0_0 {a t n k : Nat} (h : sA a t n) (ht : t ≠ 1) (h5 : a ≠ 5) (h6 : a ≠ 810) (h7 : a ≠ 811) : i0 a k = 0 := by
  unfold i0
  rw [h.2.2, if_neg (fun q => ht q.1), if_neg (by omega)]
theorem i0_1 {a n : Nat} (h : sA a 1 n) : i0 a 0 = 1 := by
  unfold i0
  rw [h.2.2, if_pos ⟨rfl, rfl⟩]
theorem i0_2 {a n k : Nat} (h : sA a 1 n) (hk : k ≠ 0) (h5 : 5 < a) (h6 : a < 810) : i0 a k = 0 := by
  unfold i0
  rw [h.2.2, if_neg (fun q => hk q.2), if_neg (by omega)]
theorem i0_5 (k : Nat) (h : k ≠ 2) : 0 = i0 5 k := by
  unfold i0
  rw [if_neg (fun q => absurd q.1 (by decide +kernel)), if_neg (by omega)]
end ZCt
theorem cR_X1 {R : Nat → Nat → Option Nat} {m : zm} {o : Nat} (ho : sX1 o) (hb : 5 < o ∧ o + 15 ≤ 810) (hR : ∀ a k, o ≤ a → R a k = none) (hm : ∀ a, o ≤ a → z0 m a) : ∀ a, a < o + 15 → ∀ k, k < (T0 a).2 → z_sk (T0 a).1 k = 3 → (z_u (rMna (z_u (rMna (z_u (R) (o) 1 (some (o + 1))) (o + 2) 7) (o) 2 (some (o + 2))) (o + 10) 4) (o) 3 (some (o + 10))) a k = RA R (o) (o + 15) a k := by
  intro a ha k hk hs
  by_cases h0 : a < o
  · exact ((zu_na (by omega)).trans ((rM_na (by omega)).trans ((zu_na (by omega)).trans ((rM_na (by omega)).trans ((zu_na (by omega)).trans (rfl)))))).trans (RA_na (by omega)).symm
  · rw [RA_in ⟨by omega, ha⟩]
    by_cases h1 : a = o
    · subst a
      rw [(sX1_a ho).2.2] at hk hs
      have hk2 : k = 0 ∨ k = 1 ∨ k = 2 ∨ k = 3 := by simp only at hk; omega
      rcases hk2 with rfl | rfl | rfl | rfl
      · exact absurd hs (by decide)
      · exact (zu_ne (by omega)).trans ((rM_na (by omega)).trans ((zu_ne (by omega)).trans ((rM_na (by omega)).trans (zu_eq.trans ((sX1_r1 ho)).symm))))
      · exact (zu_ne (by omega)).trans ((rM_na (by omega)).trans (zu_eq.trans ((sX1_r2 ho)).symm))
      · exact zu_eq.trans ((sX1_r3 ho)).symm
    by_cases h2 : a = o + 1
    · subst a
      rw [(sX1_s1 ho).2.2] at hk hs
      exact absurd hs (z_sk20 k)
    by_cases h3 : a = o + 2
    · subst a
      rw [(sX1_s2 ho).2.2] at hk hs
      exact (zu_ne (by omega)).trans ((rM_na (by omega)).trans ((zu_ne (by omega)).trans ((rM_at hk).trans (sX1_e2 ho k hk).1.symm)))
    by_cases h4 : a = o + 3
    · subst a
      rw [(sX1_e2 ho 0 (by decide)).2.2.2] at hk hs
      exact absurd hs (z_sk20 k)
    by_cases h5 : a = o + 4
    · subst a
      rw [(sX1_e2 ho 1 (by decide)).2.2.2] at hk hs
      exact absurd hs (z_sk20 k)
    by_cases h6 : a = o + 5
    · subst a
      rw [(sX1_e2 ho 2 (by decide)).2.2.2] at hk hs
      exact absurd hs (z_sk20 k)
    by_cases h7 : a = o + 6
    · subst a
      rw [(sX1_e2 ho 3 (by decide)).2.2.2] at hk hs
      exact absurd hs (z_sk20 k)
    by_cases h8 : a = o + 7
    · subst a
      rw [(sX1_e2 ho 4 (by decide)).2.2.2] at hk hs
      exact absurd hs (z_sk20 k)
    by_cases h9 : a = o + 8
    · subst a
      rw [(sX1_e2 ho 5 (by decide)).2.2.2] at hk hs
      exact absurd hs (z_sk20 k)
    by_cases h10 : a = o + 9
    · subst a
      rw [(sX1_e2 ho 6 (by decide)).2.2.2] at hk hs
      exact absurd hs (z_sk20 k)
    by_cases h11 : a = o + 10
    · subst a
      rw [(sX1_s3 ho).2.2] at hk hs
      exact (zu_ne (by omega)).trans ((rM_at hk).trans (sX1_e3 ho k hk).1.symm)
    by_cases h12 : a = o + 11
    · subst a
      rw [(sX1_e3 ho 0 (by decide)).2.2.2] at hk hs
      exact absurd hs (z_sk20 k)
    by_cases h13 : a = o + 12
    · subst a
      rw [(sX1_e3 ho 1 (by decide)).2.2.2] at hk hs
      exact absurd hs (z_sk20 k)
    by_cases h14 : a = o + 13
    · subst a
      rw [(sX1_e3 ho 2 (by decide)).2.2.2] at hk hs
      exact absurd hs (z_sk20 k)
    by_cases h15 : a = o + 14
    · subst a
      rw [(sX1_e3 ho 3 (by decide)).2.2.2] at hk hs
      exact absurd hs (z_sk20 k)
    omega
theorem cM_X1 {R : Nat → Nat → Option Nat} {m : zm} {o : Nat} (ho : sX1 o) (hb : 5 < o ∧ o + 15 ≤ 810) (hR : ∀ a k, o ≤ a → R a k = none) (hm : ∀ a, o ≤ a → z0 m a) : (wI (m) (o) 0 (1 : Int32)) = mA m (o) (o + 15) := by
  refine mA_of (fun a k h1 h2 => ?_) (fun a k h => ?_) rfl
  · by_cases h3 : a = o
    · subst a
      by_cases g0 : k = 0
      · subst g0; exact wI_hit.trans ((i0_1 (sX1_a ho)).symm)
      exact (wI_nk (by omega)).trans (((hm (o) (by omega) k).1).trans ((i0_2 (sX1_a ho) (by omega) (by omega) (by omega)).symm))
    by_cases h4 : a = o + 1
    · subst a
      exact (wI_na (by omega)).trans (((hm (o + 1) (by omega) k).1).trans ((i0_0 (sX1_s1 ho) (by decide) (by omega) (by omega) (by omega)).symm))
    by_cases h5 : a = o + 2
    · subst a
      exact (wI_na (by omega)).trans (((hm (o + 2) (by omega) k).1).trans ((i0_0 (sX1_s2 ho) (by decide) (by omega) (by omega) (by omega)).symm))
    by_cases h6 : a = o + 3
    · subst a
      exact (wI_na (by omega)).trans (((hm (o + 3) (by omega) k).1).trans ((i0_0 (sX1_e2 ho 0 (by decide)).2 (by decide) (by omega) (by omega) (by omega)).symm))
    by_cases h7 : a = o + 4
    · subst a
      exact (wI_na (by omega)).trans (((hm (o + 4) (by omega) k).1).trans ((i0_0 (sX1_e2 ho 1 (by decide)).2 (by decide) (by omega) (by omega) (by omega)).symm))
    by_cases h8 : a = o + 5
    · subst a
      exact (wI_na (by omega)).trans (((hm (o + 5) (by omega) k).1).trans ((i0_0 (sX1_e2 ho 2 (by decide)).2 (by decide) (by omega) (by omega) (by omega)).symm))
    by_cases h9 : a = o + 6
    · subst a
      exact (wI_na (by omega)).trans (((hm (o + 6) (by omega) k).1).trans ((i0_0 (sX1_e2 ho 3 (by decide)).2 (by decide) (by omega) (by omega) (by omega)).symm))
    by_cases h10 : a = o + 7
    · subst a
      exact (wI_na (by omega)).trans (((hm (o + 7) (by omega) k).1).trans ((i0_0 (sX1_e2 ho 4 (by decide)).2 (by decide) (by omega) (by omega) (by omega)).symm))
    by_cases h11 : a = o + 8
    · subst a
      exact (wI_na (by omega)).trans (((hm (o + 8) (by omega) k).1).trans ((i0_0 (sX1_e2 ho 5 (by decide)).2 (by decide) (by omega) (by omega) (by omega)).symm))
    by_cases h12 : a = o + 9
    · subst a
      exact (wI_na (by omega)).trans (((hm (o + 9) (by omega) k).1).trans ((i0_0 (sX1_e2 ho 6 (by decide)).2 (by decide) (by omega) (by omega) (by omega)).symm))
    by_cases h13 : a = o + 10
    · subst a
      exact (wI_na (by omega)).trans (((hm (o + 10) (by omega) k).1).trans ((i0_0 (sX1_s3 ho) (by decide) (by omega) (by omega) (by omega)).symm))
    by_cases h14 : a = o + 11
    · subst a
      exact (wI_na (by omega)).trans (((hm (o + 11) (by omega) k).1).trans ((i0_0 (sX1_e3 ho 0 (by decide)).2 (by decide) (by omega) (by omega) (by omega)).symm))
    by_cases h15 : a = o + 12
    · subst a
      exact (wI_na (by omega)).trans (((hm (o + 12) (by omega) k).1).trans ((i0_0 (sX1_e3 ho 1 (by decide)).2 (by decide) (by omega) (by omega) (by omega)).symm))
    by_cases h16 : a = o + 13
    · subst a
      exact (wI_na (by omega)).trans (((hm (o + 13) (by omega) k).1).trans ((i0_0 (sX1_e3 ho 2 (by decide)).2 (by decide) (by omega) (by omega) (by omega)).symm))
    by_cases h17 : a = o + 14
    · subst a
      exact (wI_na (by omega)).trans (((hm (o + 14) (by omega) k).1).trans ((i0_0 (sX1_e3 ho 3 (by decide)).2 (by decide) (by omega) (by omega) (by omega)).symm))
    omega
  · exact (wI_na (by omega)).trans (rfl)
theorem c_X1 {g : zG} {d : Nat} {Q : Option Value → zH → Prop} {R : Nat → Nat → Option Nat} {m : zm} {o : Nat} (ho : sX1 o) (hb : 5 < o ∧ o + 15 ≤ 810) (hR : ∀ a k, o ≤ a → R a k = none) (hm : ∀ a, o ≤ a → z0 m a) (H : Q none (mkc (o + 15) (RA R (o) (o + 15)) (mA m (o) (o + 15)))) : Ok g true (d + 1) mX1_init 14 95 [.ref (o)] (mkc (o + 1) R m) Q :=
  Ok_of (ls := [.ref (o)]) (by decide) rfl (Nat.le_of_ble_eq_true rfl) rfl (r_aload_n 0 dX1_init_0 rfl rfl (r_objInit dX1_init_1 lo_X1_3 (Nat.le_of_ble_eq_true rfl) (Nat.le_of_ble_eq_true rfl) (r_aload_n 0 dX1_init_4 rfl rfl (r_iconst (1) dX1_init_5 rfl (c_putI dX1_init_6 fp_X1_9_X1 (Or.inl rfl) (zAc (sX1_a ho) (by omega)) (r_aload_n 0 dX1_init_9 rfl rfl (r_bipush (7) dX1_init_10 rfl (r_newarr (C := 13) (S := 88) (t := 20) (N := 7) (at_ := .int) (M := mX1_init) dX1_init_12 rfl (by decide) ac_int (by decide) rfl (by decide) (sX1_s1 ho).2.2 (zt (by omega)) (wI_z0 (by omega) (hm (o + 1) (by omega))) (c_putR dX1_init_14 fp_X1_15_X1 (fun _ => rfl) (zAc (sX1_a ho) (by omega)) (r_aload_n 0 dX1_init_17 rfl rfl (r_bipush (7) dX1_init_18 rfl (r_bipush (7) dX1_init_20 rfl (r_mna (C := 5) (S := 32) (N := 7) (K := 7) (M := mX1_init) dX1_init_22 cl_X1_19 ao_int ac_int (by decide) (by decide) rfl rfl (by decide) (by decide) (sX1_s2 ho).2.2 (fun j hj => (sX1_e2 ho j hj).2.2.2) (ztn (by omega)) (fun k => (zu_na (by omega)).trans (hR (o + 2) k (by omega))) (fun a k h1 h2 => ((wI_z0 (by omega) (hm a (by omega))) k).1) (c_putR dX1_init_26 fp_X1_21_X1 (fun _ => rfl) (zAc (sX1_a ho) (by omega)) (r_aload_n 0 dX1_init_29 rfl rfl (r_iconst (4) dX1_init_30 rfl (r_bipush (7) dX1_init_31 rfl (r_mna (C := 0) (S := 0) (N := 4) (K := 7) (M := mX1_init) dX1_init_33 cl_X1_19 ao_int ac_int (by decide) (by decide) rfl rfl (by decide) (by decide) (sX1_s3 ho).2.2 (fun j hj => (sX1_e3 ho j hj).2.2.2) (ztn (by omega)) (fun k => (zu_na (by omega)).trans ((rM_na (by omega)).trans ((zu_na (by omega)).trans (hR (o + 10) k (by omega))))) (fun a k h1 h2 => ((wI_z0 (by omega) (hm a (by omega))) k).1) (c_putR dX1_init_37 fp_X1_24_X1 (fun _ => rfl) (zAc (sX1_a ho) (by omega)) (r_commit (m := wI (m) (o) 0 (1 : Int32)) (R := z_u (rMna (z_u (rMna (z_u (R) (o) 1 (some (o + 1))) (o + 2) 7) (o) 2 (some (o + 2))) (o + 10) 4) (o) 3 (some (o + 10))) (R' := RA R (o) (o + 15)) (cR_X1 ho hb hR hm) (fun a q0 q1 q2 => z_okT_ok a q0 (by omega) q2) (r_same (m := wI (m) (o) 0 (1 : Int32)) (m' := mA m (o) (o + 15)) (cM_X1 ho hb hR hm) (r_vret dX1_init_40 rfl H))))))))))))))))))))))
