/-! numbers of the machine -/
theorem i_tst {a k : Nat} (ha : a < 2 ^ 31) (hk : k < 31) : ((nI a >>> (nI k &&& 31)) &&& (1 : Int32)) = 0 ↔ a.testBit k = false := by
  have h1 : a / 2 ^ k ≤ a := Nat.div_le_self _ _
  rw [pk_shrN ha _ k (s_l k (by omega)), pk_andN (m := 1) (show a / 2 ^ k < 2 ^ 32 by omega) 1 (by decide)]
  have h2 : a / 2 ^ k % 2 ^ 1 < 2 ^ 31 := by omega
  rw [show (0 : Int32) = nI 0 from rfl, nI_eq h2 (by decide), Nat.testBit_eq_decide_div_mod_eq]
  rw [decide_eq_false_iff_not]
  omega
theorem i_in {a k : Nat} (ha : a < 2 ^ 31) (hk : k < 31) : tX9_in (nI a) (nI k) ↔ a.testBit k = true := by
  unfold tX9_in
  rw [i_tst ha hk]
  cases a.testBit k <;> simp
theorem i_sh1 {k : Nat} (hk : k < 31) : (1 : Int32) <<< (nI k &&& 31) = nI (2 ^ k) := by
  have h1 : (2 : Nat) ^ k < 2 ^ 31 := Nat.pow_lt_pow_right (by decide) hk
  have := pk_shlN (n := 1) (nI k &&& 31) k (s_l k (by omega)) (by omega)
  rw [Nat.one_mul] at this
  exact this
theorem i_bits : ∀ a, a < 128 → fBits (nI a) = nI (fb_ct a.testBit 7) := by decide +kernel
theorem i_bm {p : Nat → Bool} {n : Nat} (hn : n ≤ 7) : fBits (nI (bm p n)) = nI (fb_ct p n) := by rw [i_bits _ (bm_7 hn), bm_ct hn]
theorem i_clr0 : ∀ b, b < 7 → ∀ a, a < 128 → nI a &&& (nI (2 ^ b) ^^^ (-1 : Int32)) = nI (a &&& (127 - 2 ^ b)) := by decide +kernel
theorem i_clr : ∀ b, b < 128 → ∀ a, a < 128 → nI a &&& (nI b ^^^ (-1 : Int32)) = nI (a &&& (127 - b)) := by decide +kernel
theorem i_tz : ∀ v, v < 7 → fTz (nI (2 ^ v)) = nI v := by decide +kernel
theorem i_max (a b : Nat) (ha : a < 2 ^ 31) (hb : b < 2 ^ 31) : fMax (nI a) (nI b) = nI (if a < b then b else a) := by
  unfold fMax
  by_cases h : a < b
  · rw [if_pos ((nI_ltI ha hb).mpr h), if_pos h]
  · rw [if_neg (fun q => h ((nI_ltI ha hb).mp q)), if_neg h]
theorem i_min (a b : Nat) (ha : a < 2 ^ 31) (hb : b < 2 ^ 31) : fMin (nI a) (nI b) = nI (if b < a then b else a) := by
  unfold fMin
  by_cases h : b < a
  · rw [if_pos ((nI_ltI hb ha).mpr h), if_pos h]
  · rw [if_neg (fun q => h ((nI_ltI hb ha).mp q)), if_neg h]
