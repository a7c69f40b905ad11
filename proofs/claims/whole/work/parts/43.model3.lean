/-! the model: cards, turned graphs, the other one laid aside -/
def pO (m : zm) (G : Gr) : Prop := m.1 810 50 = nI (gn G) ∧ (∀ v, v < gn G → m.1 834 v = nI (gc G v)) ∧ ∀ a b, a < gn G → b < gn G → m.1 835 (7 * a + b) = nI (gk G a b)
theorem pO_fM {F A : List Nat} {m m' : zm} {G : Gr} (h : pO m G) (f : fM F A m m') (h1 : 834 ∉ A := by decide) (h2 : 835 ∉ A := by decide) (h3 : 50 ∉ F := by decide) : pO m' G := by
  have q1 := f.1 834 (by decide) h1
  have q2 := f.1 835 (by decide) h2
  exact ⟨by rw [f.2.1 50 h3]; exact h.1, fun v hv => by rw [q1]; exact h.2.1 v hv, fun a b ha hb => by rw [q2]; exact h.2.2 a b ha hb⟩
section ZMo
variable {g : zG} {gr : Bool} {e : Nat} {m : zm} {Q : Option Value → zH → Prop}
theorem d_laysOther {G : Gr} (hG : gWF G) (hp : pD m G) (K : ∀ m', pO m' G → fM [50] [834, 835] m m' → Q none (mk m')) : Ok g gr e mX10_laysOther 0 0 [.ref 810] (mk m) Q := by
  have h7 := hG.2.1.2
  refine b_X10_laysOther_0 (d := e) ?_
  rw [hp.1]
  refine up_to (n := gn G) (P := fun v => ∀ m', m'.1 810 50 = nI (gn G) → (∀ u, u < v → m'.1 834 u = nI (gc G u)) → (∀ a b, a < v → b < gn G → m'.1 835 (7 * a + b) = nI (gk G a b)) → fM [50] [834, 835] m m' → WP g gr e mX10_laysOther 0 0 10 [.ref 810, .int (nI v), .retAddr 0] [] (mk m') Q) ?_ ?_ 0 (Nat.zero_le _) _ rI_s (fun u hu => absurd hu (Nat.not_lt_zero _)) (fun a b ha => absurd ha (Nat.not_lt_zero _)) fM_f
  · intro m' a1 a2 a3 a4
    exact b_X10_laysOther_10 (d := e) (pk_le (gn G) (gn G) (fun _ => K m' ⟨a1, a2, a3⟩ a4) (fun z => absurd z (Nat.lt_irrefl _)) (by rw [fM_2 a4]; exact hp.1))
  · intro v hv ih m' a1 a2 a3 a4
    refine b_X10_laysOther_10 (d := e) (pk_le (gn G) v (fun z => by omega) (fun _ => ⟨pk_in v 7 (by omega), ?_⟩) (by rw [fM_2 a4]; exact hp.1))
    rw [nI_clamp (show v < 2 ^ 31 by omega), fM_1 a4 (a := 817), hp.2.1 v hv]
    refine up_to (n := gn G) (P := fun b => ∀ m', m'.1 810 50 = nI (gn G) → (∀ u, u < v + 1 → m'.1 834 u = nI (gc G u)) → (∀ a b, a < v → b < gn G → m'.1 835 (7 * a + b) = nI (gk G a b)) → (∀ x, x < b → m'.1 835 (7 * v + x) = nI (gk G v x)) → fM [50] [834, 835] m m' → WP g gr e mX10_laysOther 0 0 32 [.ref 810, .int (nI v), .int (nI b)] [] (mk m') Q) ?_ ?_ 0 (Nat.zero_le _) _ (by rw [rI_n (by omega)]; exact a1) (fun u hu => ?_) (fun a b ha hb => by rw [rI_n (by omega)]; exact a3 a b ha hb) (fun x hx => absurd hx (Nat.not_lt_zero _)) (fM_trans a4 fM_r)
    · intro m2 b1 b2 b3 b4 b5
      refine b_X10_laysOther_32 (d := e) (pk_le (gn G) (gn G) (fun _ => ?_) (fun z => absurd z (Nat.lt_irrefl _)) (by rw [fM_2 b5]; exact hp.1))
      rw [nI_1]
      refine ih m2 b1 b2 (fun a b ha hb => ?_) b5
      by_cases z : a = v
      · subst z; exact b4 b hb
      · exact b3 a b (by omega) hb
    · intro b hb ih2 m2 b1 b2 b3 b4 b5
      refine b_X10_laysOther_32 (d := e) (pk_le (gn G) b (fun z => by omega) (fun _ => ?_) (by rw [fM_2 b5]; exact hp.1))
      rw [show (7 : Int32) = nI 7 from rfl, pk_mul, nI_add, nI_clamp (show 7 * v + b < 2 ^ 31 by omega), fM_1 b5 (a := 818), hp.2.2 v b hv hb, nI_1]
      refine ⟨pk_in (7 * v + b) 49 (by omega), ?_⟩
      refine ih2 _ (by rw [rI_n (by omega)]; exact b1) (fun u hu => by rw [rI_n (by omega)]; exact b2 u hu) (fun x y hx hy => by rw [rI_n (by omega)]; exact b3 x y hx hy) (fun x hx => ?_) (fM_trans b5 fM_r)
      by_cases z : x = b
      · subst z; exact rI_s
      · rw [rI_n (by omega)]; exact b4 x (by omega)
    · by_cases z : u = v
      · subst z; exact rI_s
      · rw [rI_n (fun q => z q.2)]; exact a2 u (by omega)
theorem d_laysTurned {w : Nat} {G : Gr} (he : 2 ≤ e) (hG : gWF G) (hw : w < 3) (hp : pW m w G) (K : ∀ m', pD m' (gT G) → fM [21] [817, 818] m m' → Q none (mk m')) : Ok g gr e mX10_laysTurned 0 0 [.ref 810, .int (nI w)] (mk m) Q := by
  obtain ⟨d, rfl⟩ := dn he
  have h7 := hG.2.1.2
  refine b_X10_laysTurned_0 (d_lays (by omega) hG hw hp (fun m1 p1 f1 => ?_))
  refine b_X10_laysTurned_5 ?_
  have tv : ∀ a b, a < gn G → b < gn G → gk (gT G) a b = if a = b then 0 else gk G a b ^^^ 1 := fun a b ha hb => by
    show (if a < gn G ∧ b < gn G ∧ a ≠ b then gk G a b ^^^ 1 else gk G a b) = _
    by_cases z : a = b
    · rw [if_pos z, if_neg (fun q => q.2.2 z), z]; exact hG.1.2.2.2 b
    · rw [if_neg z, if_pos ⟨ha, hb, z⟩]
  refine up_to (n := gn G) (P := fun v => ∀ m', (∀ a b, a < gn G → b < gn G → m'.1 818 (7 * a + b) = nI (if a < v then gk (gT G) a b else gk G a b)) → (∀ u, u < gn G → m'.1 817 u = nI (gc G u)) → m'.1 810 21 = nI (gn G) → fM [21] [817, 818] m m' → WP g gr (d + 2) mX10_laysTurned 0 0 7 [.ref 810, .retAddr 0, .int (nI v), .retAddr 0] [] (mk m') Q) ?_ ?_ 0 (Nat.zero_le _) m1 (fun a b ha hb => by rw [if_neg (Nat.not_lt_zero _)]; exact p1.2.2 a b ha hb) p1.2.1 p1.1 f1
  · intro m' a1 a2 a3 a4
    exact b_X10_laysTurned_7 (pk_le (gn G) (gn G) (fun _ => K m' ⟨a3, a2, fun a b ha hb => by have ha : a < gn G := ha; have := a1 a b ha hb; rw [if_pos ha] at this; exact this⟩ a4) (fun z => absurd z (Nat.lt_irrefl _)) a3)
  · intro v hv ih m' a1 a2 a3 a4
    refine b_X10_laysTurned_7 (pk_le (gn G) v (fun z => by omega) (fun _ => ?_) a3)
    have h00 : ∀ a b, a < gn G → b < gn G → m'.1 818 (7 * a + b) = nI (if a < v ∨ (a = v ∧ b < 0) then gk (gT G) a b else gk G a b) := by
      intro a b ha hb
      rw [a1 a b ha hb]
      by_cases z : a < v
      · rw [if_pos z, if_pos (Or.inl z)]
      · rw [if_neg z, if_neg (by omega)]
    refine up_to (n := gn G) (P := fun o => ∀ m', (∀ a b, a < gn G → b < gn G → m'.1 818 (7 * a + b) = nI (if a < v ∨ (a = v ∧ b < o) then gk (gT G) a b else gk G a b)) → (∀ u, u < gn G → m'.1 817 u = nI (gc G u)) → m'.1 810 21 = nI (gn G) → fM [21] [817, 818] m m' → WP g gr (d + 2) mX10_laysTurned 0 0 17 [.ref 810, .retAddr 0, .int (nI v), .int (nI o)] [] (mk m') Q) ?_ ?_ 0 (Nat.zero_le _) m' h00 a2 a3 a4
    · intro m2 b1 b2 b3 b4
      refine b_X10_laysTurned_17 (pk_le (gn G) (gn G) (fun _ => ?_) (fun z => absurd z (Nat.lt_irrefl _)) b3)
      rw [nI_1]
      refine ih m2 (fun a b ha hb => ?_) b2 b3 b4
      rw [b1 a b ha hb]
      by_cases z : a < v + 1
      · rw [if_pos z, if_pos (by omega)]
      · rw [if_neg z, if_neg (by omega)]
    · intro o ho ih2 m2 b1 b2 b3 b4
      have nxt : ∀ m3 x, m3 = wI m2 818 (7 * v + o) (nI x) → x = gk (gT G) v o → WP g gr (d + 2) mX10_laysTurned 0 0 17 [.ref 810, .retAddr 0, .int (nI v), .int (nI (o + 1))] [] (mk m3) Q := fun m3 x e3 hx => by
        refine ih2 m3 (fun a b ha hb => ?_) (fun u hu => by rw [e3, rI_n (by omega)]; exact b2 u hu) (by rw [e3, rI_n (by omega)]; exact b3) (fM_trans b4 (by rw [e3]; exact fM_r))
        by_cases z : a = v ∧ b = o
        · obtain ⟨rfl, rfl⟩ := z
          rw [e3, rI_s, if_pos (by omega), hx]
        · rw [e3, rI_n (by omega), b1 a b ha hb]
          by_cases z2 : a < v ∨ (a = v ∧ b < o)
          · rw [if_pos z2, if_pos (by omega)]
          · rw [if_neg z2, if_neg (by omega)]
      refine b_X10_laysTurned_17 (pk_le (gn G) o (fun z => by omega) (fun _ => ?_) b3)
      rw [nI_eq (by omega) (by omega), show (7 : Int32) = nI 7 from rfl, pk_mul, nI_add, nI_clamp (show 7 * v + o < 2 ^ 31 by omega), b1 v o hv ho, if_neg (by omega), show (1 : Int32) = nI 1 from rfl, fb_xorI, nI_add]
      refine ⟨fun z => ⟨pk_in (7 * v + o) 49 (by omega), nxt _ _ rfl ?_⟩, fun z => ⟨pk_in (7 * v + o) 49 (by omega), nxt _ 0 rfl ?_⟩⟩
      · rw [tv v o hv ho, if_neg z]
      · rw [tv v o hv ho, if_pos z]
theorem d_laysCard {w x : Nat} {G : Gr} (he : 2 ≤ e) (hG : gWF G) (hw : w < 3) (hp : pW m w G) (hx : x < gn G) (hn : 1 < gn G) (K : ∀ m', pD m' (gD G x) → fM [21] [817, 818] m m' → Q none (mk m')) : Ok g gr e mX10_laysCard 0 0 [.ref 810, .int (nI w), .int (nI x)] (mk m) Q := by
  obtain ⟨d, rfl⟩ := dn he
  have h7 := hG.2.1.2
  have e57 : (57 : Int32) * nI w = nI (57 * w) := pk_mul 57 w
  refine b_X10_laysCard_0 (d_lays (by omega) hG hw hp (fun m1 p1 f1 => ?_))
  refine b_X10_laysCard_5 ?_
  rw [p1.1, show (1 : Int32) = nI 1 from rfl, pk_sub (show 1 ≤ gn G by omega)]
  have hcol : ∀ v, v < gn G - 1 → gc (gD G x) v = gc G (skp x v) := fun v hv => if_pos hv
  have hkin : ∀ a b, a < gn G - 1 → b < gn G - 1 → gk (gD G x) a b = gk G (skp x a) (skp x b) := fun a b ha hb => if_pos ⟨ha, hb⟩
  have sk7 : ∀ v, v < gn G - 1 → skp x v < 7 := fun v hv => by unfold skp; split <;> omega
  refine up_to (n := gn G - 1) (P := fun v => ∀ m', m'.1 810 21 = nI (gn G - 1) → (∀ u, u < v → m'.1 817 u = nI (gc (gD G x) u)) → (∀ a b, a < v → b < gn G - 1 → m'.1 818 (7 * a + b) = nI (gk (gD G x) a b)) → fM [21] [817, 818] m m' → WP g gr (d + 2) mX10_laysCard 0 0 17 [.ref 810, .int (nI w), .int (nI x), .int (nI v), .retAddr 0, .retAddr 0] [] (mk m') Q) ?_ ?_ 0 (Nat.zero_le _) _ rI_s (fun u hu => absurd hu (Nat.not_lt_zero _)) (fun a b ha => absurd ha (Nat.not_lt_zero _)) (fM_trans f1 fM_f)
  · intro m' a1 a2 a3 a4
    exact b_X10_laysCard_17 (pk_le (gn G - 1) (gn G - 1) (fun _ => K m' ⟨a1, a2, a3⟩ a4) (fun z => absurd z (Nat.lt_irrefl _)) a1)
  · intro v hv ih m' a1 a2 a3 a4
    -- the inner loop, whichever vertex it is
    have inner : ∀ i, i = skp x v → ∀ m2, m2 = wI m' 817 v (nI (gc G i)) → WP g gr (d + 2) mX10_laysCard 0 0 55 [.ref 810, .int (nI w), .int (nI x), .int (nI v), .int (nI i), .int (nI 0)] [] (mk m2) Q := by
      intro i hi m2 e2
      have hi7 := sk7 v hv
      refine up_to (n := gn G - 1) (P := fun b => ∀ m', m'.1 810 21 = nI (gn G - 1) → (∀ u, u < v + 1 → m'.1 817 u = nI (gc (gD G x) u)) → (∀ a b, a < v → b < gn G - 1 → m'.1 818 (7 * a + b) = nI (gk (gD G x) a b)) → (∀ y, y < b → m'.1 818 (7 * v + y) = nI (gk (gD G x) v y)) → fM [21] [817, 818] m m' → WP g gr (d + 2) mX10_laysCard 0 0 55 [.ref 810, .int (nI w), .int (nI x), .int (nI v), .int (nI i), .int (nI b)] [] (mk m') Q) ?_ ?_ 0 (Nat.zero_le _) m2 (by rw [e2, rI_n (by omega)]; exact a1) (fun u hu => ?_) (fun a b ha hb => by rw [e2, rI_n (by omega)]; exact a3 a b ha hb) (fun y hy => absurd hy (Nat.not_lt_zero _)) (fM_trans a4 (by rw [e2]; exact fM_r))
      · intro m3 b1 b2 b3 b4 b5
        refine b_X10_laysCard_55 (pk_le (gn G - 1) (gn G - 1) (fun _ => ?_) (fun z => absurd z (Nat.lt_irrefl _)) b1)
        rw [nI_1]
        refine ih m3 b1 b2 (fun a b ha hb => ?_) b5
        by_cases z : a = v
        · subst z; exact b4 b hb
        · exact b3 a b (by omega) hb
      · intro b hb ih2 m3 b1 b2 b3 b4 b5
        have hb7 := sk7 b hb
        have nxt : ∀ t, t = skp x b → vp_in (nI (57 * w + 8 + 7 * i + t)) 171 ∧ (vp_in (nI (7 * v + b)) 49 ∧ WP g gr (d + 2) mX10_laysCard 0 0 55 [.ref 810, .int (nI w), .int (nI x), .int (nI v), .int (nI i), .int (nI (b + 1))] [] (mk (wI m3 818 (nI (7 * v + b)).toNatClampNeg (m3.1 811 (nI (57 * w + 8 + 7 * i + t)).toNatClampNeg))) Q) := by
          intro t ht
          rw [nI_clamp (show 57 * w + 8 + 7 * i + t < 2 ^ 31 by omega), nI_clamp (show 7 * v + b < 2 ^ 31 by omega), fM_1 b5 (a := 811), hp.2.2 i t (by omega) (by omega)]
          refine ⟨pk_in (57 * w + 8 + 7 * i + t) 171 (by omega), pk_in (7 * v + b) 49 (by omega), ?_⟩
          refine ih2 _ (by rw [rI_n (by omega)]; exact b1) (fun u hu => by rw [rI_n (by omega)]; exact b2 u hu) (fun p q hp hq => by rw [rI_n (by omega)]; exact b3 p q hp hq) (fun y hy => ?_) (fM_trans b5 fM_r)
          by_cases z : y = b
          · subst z; rw [rI_s, hkin v y hv hb, hi, ht]
          · rw [rI_n (by omega)]; exact b4 y (by omega)
        refine b_X10_laysCard_55 (pk_le (gn G - 1) b (fun z => by omega) (fun _ => ?_) b1)
        rw [e57, show (8 : Int32) = nI 8 from rfl, show (7 : Int32) = nI 7 from rfl, pk_mul, pk_mul, nI_add, nI_add, nI_1, nI_add, nI_add, nI_add]
        refine pk_le x b (fun z => nxt (b + 1) (by unfold skp; rw [if_neg (by omega)])) (fun z => nxt b (by unfold skp; rw [if_pos z]))
      · by_cases z : u = v
        · subst z; rw [e2, rI_s, hcol u hv, hi]
        · rw [e2, rI_n (fun q => z q.2)]; exact a2 u (by omega)
    have hv7 := sk7 v hv
    refine b_X10_laysCard_17 (pk_le (gn G - 1) v (fun z => by omega) (fun _ => ?_) a1)
    rw [e57, show (1 : Int32) = nI 1 from rfl, nI_add, nI_add, nI_add, nI_add, nI_clamp (show 57 * w + 1 + (v + 1) < 2 ^ 31 by omega), nI_clamp (show 57 * w + 1 + v < 2 ^ 31 by omega), nI_clamp (show v < 2 ^ 31 by omega), fM_1 a4 (a := 811), fM_1 a4 (a := 811)]
    refine pk_le x v (fun z => ⟨pk_in (57 * w + 1 + (v + 1)) 171 (by omega), pk_in v 7 (by omega), ?_⟩) (fun z => ⟨pk_in (57 * w + 1 + v) 171 (by omega), pk_in v 7 (by omega), ?_⟩)
    · rw [hp.2.1 (v + 1) (by omega)]
      exact inner (v + 1) (by unfold skp; rw [if_neg (by omega)]) _ rfl
    · rw [hp.2.1 v (by omega)]
      exact inner v (by unfold skp; rw [if_pos z]) _ rfl
end ZMo
