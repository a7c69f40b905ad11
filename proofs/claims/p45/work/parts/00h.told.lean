/-! told apart: the words -/
def clk (G H : Gr) : Prop := ∀ k, k < 10 → fb_ct (fun v => gc G v == k) (gn G) = fb_ct (fun v => gc H v == k) (gn G)
def slk (G H : Gr) (c1 c2 : Nat → Nat) : Prop := ∀ v, v < gn G → fb_ct (fun o => sS G c1 o == sS G c1 v) (gn G) = fb_ct (fun o => sS H c2 o == sS G c1 v) (gn G)
noncomputable def tld (G H : Gr) : Nat → (Nat → Nat) → (Nat → Nat) → Nat → Nat → Int32
  | 0, _, _, _, _ => -2
  | k + 1, c1, c2, q, r => @ite _ (slk G H c1 c2) (Classical.propDecidable _) (if q < rq G c1 then tld G H k (rd G c1) (rd H c2) (rq G c1) (r + 1) else -2) (nI r)
noncomputable def told (G H : Gr) : Int32 := @ite _ (clk G H) (Classical.propDecidable _) (tld G H 7 (c0 G) (c0 H) (q0 G) 1) 0
