/-! the law's own methods: how many of a set a vertex is linked with -/
theorem i_b1 {a k : Nat} (ha : a < 2 ^ 31) (hk : k < 31) : (nI a >>> (nI k &&& 31)) &&& (1 : Int32) = nI (if a.testBit k = true then 1 else 0) := by
  have h1 : a / 2 ^ k ≤ a := Nat.div_le_self _ _
  rw [pk_shrN ha _ k (s_l k (by omega)), pk_andN (m := 1) (show a / 2 ^ k < 2 ^ 32 by omega) 1 (by decide)]
  have e := Nat.testBit_eq_decide_div_mod_eq (x := a) (i := k)
  by_cases z : a / 2 ^ k % 2 = 1
  · rw [if_pos (by rw [e]; exact decide_eq_true z), show a / 2 ^ k % 2 ^ 1 = 1 from z]
  · rw [if_neg (by rw [e]; intro y; exact z (of_decide_eq_true y)), show a / 2 ^ k % 2 ^ 1 = 0 by show a / 2 ^ k % 2 = 0; omega]
theorem pk_a0 (c : Nat) : nI c + (0 : Int32) = nI c := nI_add c 0
theorem i_2n {n : Nat} (hn : n < 31) : ((1 : Int32) <<< (nI n &&& 31)) - (1 : Int32) = nI (2 ^ n - 1) := by
  rw [i_sh1 hn, show (1 : Int32) = nI 1 from rfl, pk_sub (Nat.two_pow_pos n)]
theorem bm_all (n : Nat) : bm (fun _ => true) n = 2 ^ n - 1 := bits_eq (bm_lt _ n) (by have := Nat.two_pow_pos n; omega) fun i hi => by
  rw [bm_bit, Nat.testBit_two_pow_sub_one]; simp
theorem p2_31 {n : Nat} (hn : n < 31) : 2 ^ n < 2 ^ 31 := Nat.pow_lt_pow_right (by decide) hn
def snb (G : Gr) (v set k u : Nat) : Bool := !(u == v) && (set.testBit u && gk G v u == k)
theorem snb_n1 {G : Gr} {v set k u : Nat} (h : u = v) : snb G v set k u = false := by unfold snb; rw [bq_t h]; rfl
theorem snb_n2 {G : Gr} {v set k u : Nat} (h : ¬ set.testBit u = true) : snb G v set k u = false := by
  unfold snb
  cases z : set.testBit u with
  | true => exact absurd z h
  | false => cases (!(u == v)) <;> rfl
theorem snb_n3 {G : Gr} {v set k u : Nat} (h : ¬ gk G v u = k) : snb G v set k u = false := by
  unfold snb
  rw [bq_f h]
  cases (!(u == v)) <;> cases set.testBit u <;> rfl
theorem snb_y {G : Gr} {v set k u : Nat} (h1 : u ≠ v) (h2 : set.testBit u = true) (h3 : gk G v u = k) : snb G v set k u = true := by
  unfold snb
  rw [bq_f h1, h2, bq_t h3]; rfl
section ZLs
variable {g : zG} {gr : Bool} {e : Nat} {m : zm} {Q : Option Value → zH → Prop} {s : Sg}
theorem k_seen {t : Int32} {w v set k : Nat} (he : 21 ≤ e) (hs : sOK s) (hw : w < 3) (hv : v < gn (y_W s w)) (hset : set < 2 ^ 31) (hk : k < 4) (hc : CR (qs s t) m) (K : ∀ m', CR (qs s 0) m' → fC m m' → Q (some (.int (nI (fb_ct (snb (y_W s w) v set k) (gn (y_W s w)))))) (mk m')) : Ok g gr e mL_seen 0 0 [.ref 1, .int (nI w), .int (nI v), .int (nI set), .int (nI k)] (mk m) Q := by
  obtain ⟨d, rfl⟩ := dn (show 3 ≤ e by omega)
  have h7 := (hs.1 w hw).2.1.2
  have hk4 : ∀ a b, gk (y_W s w) a b < 4 := (hs.1 w hw).1.2.1
  have key : ∀ r u, u + r = gn (y_W s w) → ∀ (t : Int32) (m1 : zm), CR (qs s t) m1 → fC m m1 → WP g gr (d + 3) mL_seen 0 0 6 [.ref 1, .int (nI w), .int (nI v), .int (nI set), .int (nI k), .int (nI (fb_ct (snb (y_W s w) v set k) u)), .int (nI u)] [] (mk m1) Q := by
    intro r
    induction r with
    | zero =>
      intro u hu t m1 c1 f1
      refine b_L_seen_6 (y_graph_n (sOK_qs hs t) hw g gr (d + 2) m1 _ (by omega) c1 (fun m2 c2 f2 => b_L_seen_14 (pk_le (gn (y_W s w)) u (fun _ => ?_) (fun z => by omega))))
      have e : u = gn (y_W s w) := by omega
      rw [e]
      exact K m2 c2 (fC_trans f1 f2)
    | succ r ih =>
      intro u hu t m1 c1 f1
      have hlt : u < gn (y_W s w) := by omega
      have no : snb (y_W s w) v set k u = false → ∀ m2, CR (qs s 0) m2 → fC m m2 → WP g gr (d + 3) mL_seen 0 0 6 [.ref 1, .int (nI w), .int (nI v), .int (nI set), .int (nI k), .int (nI (fb_ct (snb (y_W s w) v set k) u) + (0 : Int32)), .int (nI u + (1 : Int32))] [] (mk m2) Q := fun z m2 c2 f2 => by
        have := ih (u + 1) (by omega) 0 m2 c2 f2
        rw [fb_ct_succ, if_neg (by rw [z]; decide)] at this
        rw [pk_a0, nI_1]
        exact this
      have yes : snb (y_W s w) v set k u = true → ∀ m2, CR (qs s 0) m2 → fC m m2 → WP g gr (d + 3) mL_seen 0 0 6 [.ref 1, .int (nI w), .int (nI v), .int (nI set), .int (nI k), .int (nI (fb_ct (snb (y_W s w) v set k) u) + (1 : Int32)), .int (nI u + (1 : Int32))] [] (mk m2) Q := fun z m2 c2 f2 => by
        have := ih (u + 1) (by omega) 0 m2 c2 f2
        rw [fb_ct_succ, if_pos z] at this
        rw [nI_1, nI_1]
        exact this
      refine b_L_seen_6 (y_graph_n (sOK_qs hs t) hw g gr (d + 2) m1 _ (by omega) c1 (fun m2 c2 f2 => b_L_seen_14 (pk_le (gn (y_W s w)) u (fun z => by omega) (fun _ => pk_eq u v (fun z => no (snb_n1 z) m2 c2 (fC_trans f1 f2)) (fun z => ?_)))))
      rw [i_b1 hset (by omega)]
      by_cases hb : set.testBit u = true
      · rw [if_pos hb]
        refine ⟨fun y => absurd rfl y, fun _ => ?_⟩
        refine (y_kind (sOK_qs hs 0) hw hv hlt (fun y => z y.symm)) g gr (d + 2) m2 _ (by omega) c2 (fun m3 c3 f3 => b_L_seen_43 ?_)
        refine ⟨fun y => no (snb_n3 (fun q => y (congrArg nI q))) m3 c3 (fC_trans f1 (fC_trans f2 f3)), fun y => yes (snb_y z hb ((nI_eq (by have := hk4 v u; show gk (y_W s w) v u < _; omega) (by omega)).mp y)) m3 c3 (fC_trans f1 (fC_trans f2 f3))⟩
      · rw [if_neg hb]
        exact ⟨fun _ => no (snb_n2 hb) m2 c2 (fC_trans f1 f2), fun y => absurd y (by decide)⟩
  exact b_L_seen_0 (key (gn (y_W s w)) 0 (Nat.zero_add _) t m hc (fC_refl m))
end ZLs
