/-! constructors, on -/
theorem cR_X0 {R : Nat → Nat → Option Nat} {m : zm} {o : Nat} (ho : sX0 o) (hb : 5 < o ∧ o + 5 ≤ 810) (hR : ∀ a k, o ≤ a → R a k = none) (hm : ∀ a, o ≤ a → z0 m a) : ∀ a, a < o + 5 → ∀ k, k < (T0 a).2 → z_sk (T0 a).1 k = 3 → (z_u (z_u (z_u (z_u (R) (o) 2 (some (o + 1))) (o) 3 (some (o + 2))) (o) 4 (some (o + 3))) (o) 5 (some (o + 4))) a k = RA R (o) (o + 5) a k := by
  intro a ha k hk hs
  by_cases h0 : a < o
  · exact ((zu_na (by omega)).trans ((zu_na (by omega)).trans ((zu_na (by omega)).trans ((zu_na (by omega)).trans (rfl))))).trans (RA_na (by omega)).symm
  · rw [RA_in ⟨by omega, ha⟩]
    by_cases h1 : a = o
    · subst a
      rw [(sX0_a ho).2.2] at hk hs
      have hk2 : k = 0 ∨ k = 1 ∨ k = 2 ∨ k = 3 ∨ k = 4 ∨ k = 5 ∨ k = 6 := by simp only at hk; omega
      rcases hk2 with rfl | rfl | rfl | rfl | rfl | rfl | rfl
      · exact absurd hs (by decide)
      · exact absurd hs (by decide)
      · exact (zu_ne (by omega)).trans ((zu_ne (by omega)).trans ((zu_ne (by omega)).trans (zu_eq.trans ((sX0_r2 ho)).symm)))
      · exact (zu_ne (by omega)).trans ((zu_ne (by omega)).trans (zu_eq.trans ((sX0_r3 ho)).symm))
      · exact (zu_ne (by omega)).trans (zu_eq.trans ((sX0_r4 ho)).symm)
      · exact zu_eq.trans ((sX0_r5 ho)).symm
      · exact absurd hs (by decide)
    by_cases h2 : a = o + 1
    · subst a
      rw [(sX0_s2 ho).2.2] at hk hs
      exact absurd hs (z_sk20 k)
    by_cases h3 : a = o + 2
    · subst a
      rw [(sX0_s3 ho).2.2] at hk hs
      exact absurd hs (z_sk21 k)
    by_cases h4 : a = o + 3
    · subst a
      rw [(sX0_s4 ho).2.2] at hk hs
      exact absurd hs (z_sk21 k)
    by_cases h5 : a = o + 4
    · subst a
      rw [(sX0_s5 ho).2.2] at hk hs
      exact absurd hs (z_sk20 k)
    omega
theorem cM_X0 {R : Nat → Nat → Option Nat} {m : zm} {o : Nat} (ho : sX0 o) (hb : 5 < o ∧ o + 5 ≤ 810) (hR : ∀ a k, o ≤ a → R a k = none) (hm : ∀ a, o ≤ a → z0 m a) : (m) = mA m (o) (o + 5) := by
  refine mA_of (fun a k h1 h2 => ?_) (fun a k h => ?_) rfl
  · by_cases h3 : a = o
    · subst a
      exact ((hm (o) (by omega) k).1).trans ((i0_0 (sX0_a ho) (by decide) (by omega) (by omega) (by omega)).symm)
    by_cases h4 : a = o + 1
    · subst a
      exact ((hm (o + 1) (by omega) k).1).trans ((i0_0 (sX0_s2 ho) (by decide) (by omega) (by omega) (by omega)).symm)
    by_cases h5 : a = o + 2
    · subst a
      exact ((hm (o + 2) (by omega) k).1).trans ((i0_0 (sX0_s3 ho) (by decide) (by omega) (by omega) (by omega)).symm)
    by_cases h6 : a = o + 3
    · subst a
      exact ((hm (o + 3) (by omega) k).1).trans ((i0_0 (sX0_s4 ho) (by decide) (by omega) (by omega) (by omega)).symm)
    by_cases h7 : a = o + 4
    · subst a
      exact ((hm (o + 4) (by omega) k).1).trans ((i0_0 (sX0_s5 ho) (by decide) (by omega) (by omega) (by omega)).symm)
    omega
  · exact rfl
theorem c_X0 {g : zG} {d : Nat} {Q : Option Value → zH → Prop} {R : Nat → Nat → Option Nat} {m : zm} {o : Nat} (ho : sX0 o) (hb : 5 < o ∧ o + 5 ≤ 810) (hR : ∀ a k, o ≤ a → R a k = none) (hm : ∀ a, o ≤ a → z0 m a) (H : Q none (mkc (o + 5) (RA R (o) (o + 5)) (mA m (o) (o + 5)))) : Ok g true (d + 1) mX0_init 4 28 [.ref (o)] (mkc (o + 1) R m) Q :=
  Ok_of (ls := [.ref (o)]) (by decide) rfl (Nat.le_of_ble_eq_true rfl) rfl (r_aload_n 0 dX0_init_0 rfl rfl (r_objInit dX0_init_1 lo_X0_3 (Nat.le_of_ble_eq_true rfl) (Nat.le_of_ble_eq_true rfl) (r_aload_n 0 dX0_init_4 rfl rfl (r_iconst (0) dX0_init_5 rfl (c_put0 dX0_init_6 fp_X0_9_X0 (by decide) (zAc (sX0_a ho) (by omega)) ((hm (o) (by omega) 0).1) (r_aload_n 0 dX0_init_9 rfl rfl (r_iconst (0) dX0_init_10 rfl (c_put0 dX0_init_11 fp_X0_15_X0 (by decide) (zAc (sX0_a ho) (by omega)) ((hm (o) (by omega) 1).1) (r_aload_n 0 dX0_init_14 rfl rfl (r_bipush (7) dX0_init_15 rfl (r_newarr (C := 3) (S := 21) (t := 20) (N := 7) (at_ := .int) (M := mX0_init) dX0_init_17 rfl (by decide) ac_int (by decide) rfl (by decide) (sX0_s2 ho).2.2 (zt (by omega)) (hm (o + 1) (by omega)) (c_putR dX0_init_19 fp_X0_18_X0 (fun _ => rfl) (zAc (sX0_a ho) (by omega)) (r_aload_n 0 dX0_init_22 rfl rfl (r_bipush (7) dX0_init_23 rfl (r_newarr (C := 2) (S := 14) (t := 21) (N := 7) (at_ := .long) (M := mX0_init) dX0_init_25 rfl (by decide) ac_long (by decide) rfl (by decide) (sX0_s3 ho).2.2 (zt (by omega)) (hm (o + 2) (by omega)) (c_putR dX0_init_27 fp_X0_22_X0 (fun _ => rfl) (zAc (sX0_a ho) (by omega)) (r_aload_n 0 dX0_init_30 rfl rfl (r_bipush (7) dX0_init_31 rfl (r_newarr (C := 1) (S := 7) (t := 21) (N := 7) (at_ := .long) (M := mX0_init) dX0_init_33 rfl (by decide) ac_long (by decide) rfl (by decide) (sX0_s4 ho).2.2 (zt (by omega)) (hm (o + 3) (by omega)) (c_putR dX0_init_35 fp_X0_26_X0 (fun _ => rfl) (zAc (sX0_a ho) (by omega)) (r_aload_n 0 dX0_init_38 rfl rfl (r_bipush (7) dX0_init_39 rfl (r_newarr (C := 0) (S := 0) (t := 20) (N := 7) (at_ := .int) (M := mX0_init) dX0_init_41 rfl (by decide) ac_int (by decide) rfl (by decide) (sX0_s5 ho).2.2 (zt (by omega)) (hm (o + 4) (by omega)) (c_putR dX0_init_43 fp_X0_29_X0 (fun _ => rfl) (zAc (sX0_a ho) (by omega)) (r_aload_n 0 dX0_init_46 rfl rfl (r_iconst (0) dX0_init_47 rfl (c_put0 dX0_init_48 fp_X0_32_X0 (by decide) (zAc (sX0_a ho) (by omega)) ((hm (o) (by omega) 6).1) (r_commit (m := m) (R := z_u (z_u (z_u (z_u (R) (o) 2 (some (o + 1))) (o) 3 (some (o + 2))) (o) 4 (some (o + 3))) (o) 5 (some (o + 4))) (R' := RA R (o) (o + 5)) (cR_X0 ho hb hR hm) (fun a q0 q1 q2 => z_okT_ok a q0 (by omega) q2) (r_same (m := m) (m' := mA m (o) (o + 5)) (cM_X0 ho hb hR hm) (r_vret dX0_init_51 rfl H))))))))))))))))))))))))))))))
theorem cR_X2 {R : Nat → Nat → Option Nat} {m : zm} {o : Nat} (ho : sX2 o) (hb : 5 < o ∧ o + 4 ≤ 810) (hR : ∀ a k, o ≤ a → R a k = none) (hm : ∀ a, o ≤ a → z0 m a) : ∀ a, a < o + 4 → ∀ k, k < (T0 a).2 → z_sk (T0 a).1 k = 3 → (z_u (z_u (z_u (R) (o) 2 (some (o + 1))) (o) 3 (some (o + 2))) (o) 4 (some (o + 3))) a k = RA R (o) (o + 4) a k := by
  intro a ha k hk hs
  by_cases h0 : a < o
  · exact ((zu_na (by omega)).trans ((zu_na (by omega)).trans ((zu_na (by omega)).trans (rfl)))).trans (RA_na (by omega)).symm
  · rw [RA_in ⟨by omega, ha⟩]
    by_cases h1 : a = o
    · subst a
      rw [(sX2_a ho).2.2] at hk hs
      have hk2 : k = 0 ∨ k = 1 ∨ k = 2 ∨ k = 3 ∨ k = 4 := by simp only at hk; omega
      rcases hk2 with rfl | rfl | rfl | rfl | rfl
      · exact absurd hs (by decide)
      · exact absurd hs (by decide)
      · exact (zu_ne (by omega)).trans ((zu_ne (by omega)).trans (zu_eq.trans ((sX2_r2 ho)).symm))
      · exact (zu_ne (by omega)).trans (zu_eq.trans ((sX2_r3 ho)).symm)
      · exact zu_eq.trans ((sX2_r4 ho)).symm
    by_cases h2 : a = o + 1
    · subst a
      rw [(sX2_s2 ho).2.2] at hk hs
      exact absurd hs (z_sk20 k)
    by_cases h3 : a = o + 2
    · subst a
      rw [(sX2_s3 ho).2.2] at hk hs
      exact absurd hs (z_sk20 k)
    by_cases h4 : a = o + 3
    · subst a
      rw [(sX2_s4 ho).2.2] at hk hs
      exact absurd hs (z_sk20 k)
    omega
theorem cM_X2 {R : Nat → Nat → Option Nat} {m : zm} {o : Nat} (ho : sX2 o) (hb : 5 < o ∧ o + 4 ≤ 810) (hR : ∀ a k, o ≤ a → R a k = none) (hm : ∀ a, o ≤ a → z0 m a) : (m) = mA m (o) (o + 4) := by
  refine mA_of (fun a k h1 h2 => ?_) (fun a k h => ?_) rfl
  · by_cases h3 : a = o
    · subst a
      exact ((hm (o) (by omega) k).1).trans ((i0_0 (sX2_a ho) (by decide) (by omega) (by omega) (by omega)).symm)
    by_cases h4 : a = o + 1
    · subst a
      exact ((hm (o + 1) (by omega) k).1).trans ((i0_0 (sX2_s2 ho) (by decide) (by omega) (by omega) (by omega)).symm)
    by_cases h5 : a = o + 2
    · subst a
      exact ((hm (o + 2) (by omega) k).1).trans ((i0_0 (sX2_s3 ho) (by decide) (by omega) (by omega) (by omega)).symm)
    by_cases h6 : a = o + 3
    · subst a
      exact ((hm (o + 3) (by omega) k).1).trans ((i0_0 (sX2_s4 ho) (by decide) (by omega) (by omega) (by omega)).symm)
    omega
  · exact rfl
theorem c_X2 {g : zG} {d : Nat} {Q : Option Value → zH → Prop} {R : Nat → Nat → Option Nat} {m : zm} {o : Nat} (ho : sX2 o) (hb : 5 < o ∧ o + 4 ≤ 810) (hR : ∀ a k, o ≤ a → R a k = none) (hm : ∀ a, o ≤ a → z0 m a) (H : Q none (mkc (o + 4) (RA R (o) (o + 4)) (mA m (o) (o + 4)))) : Ok g true (d + 1) mX2_init 3 42 [.ref (o)] (mkc (o + 1) R m) Q :=
  Ok_of (ls := [.ref (o)]) (by decide) rfl (Nat.le_of_ble_eq_true rfl) rfl (r_aload_n 0 dX2_init_0 rfl rfl (r_objInit dX2_init_1 lo_X2_3 (Nat.le_of_ble_eq_true rfl) (Nat.le_of_ble_eq_true rfl) (r_aload_n 0 dX2_init_4 rfl rfl (r_iconst (0) dX2_init_5 rfl (c_put0 dX2_init_6 fp_X2_9_X2 (by decide) (zAc (sX2_a ho) (by omega)) ((hm (o) (by omega) 0).1) (r_aload_n 0 dX2_init_9 rfl rfl (r_iconst (0) dX2_init_10 rfl (c_put0 dX2_init_11 fp_X2_15_X2 (by decide) (zAc (sX2_a ho) (by omega)) ((hm (o) (by omega) 1).1) (r_aload_n 0 dX2_init_14 rfl rfl (r_bipush (7) dX2_init_15 rfl (r_newarr (C := 2) (S := 35) (t := 20) (N := 7) (at_ := .int) (M := mX2_init) dX2_init_17 rfl (by decide) ac_int (by decide) rfl (by decide) (sX2_s2 ho).2.2 (zt (by omega)) (hm (o + 1) (by omega)) (c_putR dX2_init_19 fp_X2_18_X2 (fun _ => rfl) (zAc (sX2_a ho) (by omega)) (r_aload_n 0 dX2_init_22 rfl rfl (r_bipush (28) dX2_init_23 rfl (r_newarr (C := 1) (S := 7) (t := 20) (N := 28) (at_ := .int) (M := mX2_init) dX2_init_25 rfl (by decide) ac_int (by decide) rfl (by decide) (sX2_s3 ho).2.2 (zt (by omega)) (hm (o + 2) (by omega)) (c_putR dX2_init_27 fp_X2_22_X2 (fun _ => rfl) (zAc (sX2_a ho) (by omega)) (r_aload_n 0 dX2_init_30 rfl rfl (r_bipush (7) dX2_init_31 rfl (r_newarr (C := 0) (S := 0) (t := 20) (N := 7) (at_ := .int) (M := mX2_init) dX2_init_33 rfl (by decide) ac_int (by decide) rfl (by decide) (sX2_s4 ho).2.2 (zt (by omega)) (hm (o + 3) (by omega)) (c_putR dX2_init_35 fp_X2_25_X2 (fun _ => rfl) (zAc (sX2_a ho) (by omega)) (r_commit (m := m) (R := z_u (z_u (z_u (R) (o) 2 (some (o + 1))) (o) 3 (some (o + 2))) (o) 4 (some (o + 3))) (R' := RA R (o) (o + 4)) (cR_X2 ho hb hR hm) (fun a q0 q1 q2 => z_okT_ok a q0 (by omega) q2) (r_same (m := m) (m' := mA m (o) (o + 4)) (cM_X2 ho hb hR hm) (r_vret dX2_init_38 rfl H)))))))))))))))))))))))
