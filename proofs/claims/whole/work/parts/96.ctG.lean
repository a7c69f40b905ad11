/-! constructors, on -/
theorem cR_X10 {R : Nat → Nat → Option Nat} {m : zm}   (hR : ∀ a k, 810 ≤ a → R a k = none) (hm : ∀ a, 810 ≤ a → z0 m a) : ∀ a, a < 841 → ∀ k, k < (T0 a).2 → z_sk (T0 a).1 k = 3 → (z_u (z_u (z_u (z_u (z_u (z_u (z_u (z_u (z_u (z_u (z_u (z_u (z_u (z_u (z_u (z_u (z_u (z_u (z_u (z_u (z_u (z_u (z_u (z_u (z_u (z_u (z_u (z_u (z_u (z_u (R) (810) 4 (some (811))) (810) 5 (some (812))) (810) 7 (some (813))) (810) 8 (some (814))) (810) 9 (some (815))) (810) 19 (some (816))) (810) 22 (some (817))) (810) 23 (some (818))) (810) 24 (some (819))) (810) 26 (some (820))) (810) 27 (some (821))) (810) 28 (some (822))) (810) 29 (some (823))) (810) 34 (some (824))) (810) 36 (some (825))) (810) 37 (some (826))) (810) 38 (some (827))) (810) 39 (some (828))) (810) 43 (some (829))) (810) 45 (some (830))) (810) 46 (some (831))) (810) 47 (some (832))) (810) 48 (some (833))) (810) 51 (some (834))) (810) 52 (some (835))) (810) 53 (some (836))) (810) 54 (some (837))) (810) 55 (some (838))) (810) 60 (some (839))) (810) 61 (some (840))) a k = RA R (810) (841) a k := by
  intro a ha k hk hs
  by_cases h0 : a < 810
  · exact ((zu_na (by omega)).trans ((zu_na (by omega)).trans ((zu_na (by omega)).trans ((zu_na (by omega)).trans ((zu_na (by omega)).trans ((zu_na (by omega)).trans ((zu_na (by omega)).trans ((zu_na (by omega)).trans ((zu_na (by omega)).trans ((zu_na (by omega)).trans ((zu_na (by omega)).trans ((zu_na (by omega)).trans ((zu_na (by omega)).trans ((zu_na (by omega)).trans ((zu_na (by omega)).trans ((zu_na (by omega)).trans ((zu_na (by omega)).trans ((zu_na (by omega)).trans ((zu_na (by omega)).trans ((zu_na (by omega)).trans ((zu_na (by omega)).trans ((zu_na (by omega)).trans ((zu_na (by omega)).trans ((zu_na (by omega)).trans ((zu_na (by omega)).trans ((zu_na (by omega)).trans ((zu_na (by omega)).trans ((zu_na (by omega)).trans ((zu_na (by omega)).trans ((zu_na (by omega)).trans (rfl))))))))))))))))))))))))))))))).trans (RA_na (by omega)).symm
  · rw [RA_in ⟨by omega, ha⟩]
    by_cases h1 : a = 810
    · subst a
      rw [(by decide +kernel : sA 810 9 63).2.2] at hk hs
      have hk2 : k = 0 ∨ k = 1 ∨ k = 2 ∨ k = 3 ∨ k = 4 ∨ k = 5 ∨ k = 6 ∨ k = 7 ∨ k = 8 ∨ k = 9 ∨ k = 10 ∨ k = 11 ∨ k = 12 ∨ k = 13 ∨ k = 14 ∨ k = 15 ∨ k = 16 ∨ k = 17 ∨ k = 18 ∨ k = 19 ∨ k = 20 ∨ k = 21 ∨ k = 22 ∨ k = 23 ∨ k = 24 ∨ k = 25 ∨ k = 26 ∨ k = 27 ∨ k = 28 ∨ k = 29 ∨ k = 30 ∨ k = 31 ∨ k = 32 ∨ k = 33 ∨ k = 34 ∨ k = 35 ∨ k = 36 ∨ k = 37 ∨ k = 38 ∨ k = 39 ∨ k = 40 ∨ k = 41 ∨ k = 42 ∨ k = 43 ∨ k = 44 ∨ k = 45 ∨ k = 46 ∨ k = 47 ∨ k = 48 ∨ k = 49 ∨ k = 50 ∨ k = 51 ∨ k = 52 ∨ k = 53 ∨ k = 54 ∨ k = 55 ∨ k = 56 ∨ k = 57 ∨ k = 58 ∨ k = 59 ∨ k = 60 ∨ k = 61 ∨ k = 62 := by simp only at hk; omega
      rcases hk2 with rfl | rfl | rfl | rfl | rfl | rfl | rfl | rfl | rfl | rfl | rfl | rfl | rfl | rfl | rfl | rfl | rfl | rfl | rfl | rfl | rfl | rfl | rfl | rfl | rfl | rfl | rfl | rfl | rfl | rfl | rfl | rfl | rfl | rfl | rfl | rfl | rfl | rfl | rfl | rfl | rfl | rfl | rfl | rfl | rfl | rfl | rfl | rfl | rfl | rfl | rfl | rfl | rfl | rfl | rfl | rfl | rfl | rfl | rfl | rfl | rfl | rfl | rfl
      · exact absurd hs (by decide)
      · exact absurd hs (by decide)
      · exact absurd hs (by decide)
      · exact absurd hs (by decide)
      · exact (zu_ne (by omega)).trans ((zu_ne (by omega)).trans ((zu_ne (by omega)).trans ((zu_ne (by omega)).trans ((zu_ne (by omega)).trans ((zu_ne (by omega)).trans ((zu_ne (by omega)).trans ((zu_ne (by omega)).trans ((zu_ne (by omega)).trans ((zu_ne (by omega)).trans ((zu_ne (by omega)).trans ((zu_ne (by omega)).trans ((zu_ne (by omega)).trans ((zu_ne (by omega)).trans ((zu_ne (by omega)).trans ((zu_ne (by omega)).trans ((zu_ne (by omega)).trans ((zu_ne (by omega)).trans ((zu_ne (by omega)).trans ((zu_ne (by omega)).trans ((zu_ne (by omega)).trans ((zu_ne (by omega)).trans ((zu_ne (by omega)).trans ((zu_ne (by omega)).trans ((zu_ne (by omega)).trans ((zu_ne (by omega)).trans ((zu_ne (by omega)).trans ((zu_ne (by omega)).trans ((zu_ne (by omega)).trans (zu_eq.trans ((by decide +kernel : R0 810 4 = some 811)).symm)))))))))))))))))))))))))))))
      · exact (zu_ne (by omega)).trans ((zu_ne (by omega)).trans ((zu_ne (by omega)).trans ((zu_ne (by omega)).trans ((zu_ne (by omega)).trans ((zu_ne (by omega)).trans ((zu_ne (by omega)).trans ((zu_ne (by omega)).trans ((zu_ne (by omega)).trans ((zu_ne (by omega)).trans ((zu_ne (by omega)).trans ((zu_ne (by omega)).trans ((zu_ne (by omega)).trans ((zu_ne (by omega)).trans ((zu_ne (by omega)).trans ((zu_ne (by omega)).trans ((zu_ne (by omega)).trans ((zu_ne (by omega)).trans ((zu_ne (by omega)).trans ((zu_ne (by omega)).trans ((zu_ne (by omega)).trans ((zu_ne (by omega)).trans ((zu_ne (by omega)).trans ((zu_ne (by omega)).trans ((zu_ne (by omega)).trans ((zu_ne (by omega)).trans ((zu_ne (by omega)).trans ((zu_ne (by omega)).trans (zu_eq.trans ((by decide +kernel : R0 810 5 = some 812)).symm))))))))))))))))))))))))))))
      · exact absurd hs (by decide)
      · exact (zu_ne (by omega)).trans ((zu_ne (by omega)).trans ((zu_ne (by omega)).trans ((zu_ne (by omega)).trans ((zu_ne (by omega)).trans ((zu_ne (by omega)).trans ((zu_ne (by omega)).trans ((zu_ne (by omega)).trans ((zu_ne (by omega)).trans ((zu_ne (by omega)).trans ((zu_ne (by omega)).trans ((zu_ne (by omega)).trans ((zu_ne (by omega)).trans ((zu_ne (by omega)).trans ((zu_ne (by omega)).trans ((zu_ne (by omega)).trans ((zu_ne (by omega)).trans ((zu_ne (by omega)).trans ((zu_ne (by omega)).trans ((zu_ne (by omega)).trans ((zu_ne (by omega)).trans ((zu_ne (by omega)).trans ((zu_ne (by omega)).trans ((zu_ne (by omega)).trans ((zu_ne (by omega)).trans ((zu_ne (by omega)).trans ((zu_ne (by omega)).trans (zu_eq.trans ((by decide +kernel : R0 810 7 = some 813)).symm)))))))))))))))))))))))))))
      · exact (zu_ne (by omega)).trans ((zu_ne (by omega)).trans ((zu_ne (by omega)).trans ((zu_ne (by omega)).trans ((zu_ne (by omega)).trans ((zu_ne (by omega)).trans ((zu_ne (by omega)).trans ((zu_ne (by omega)).trans ((zu_ne (by omega)).trans ((zu_ne (by omega)).trans ((zu_ne (by omega)).trans ((zu_ne (by omega)).trans ((zu_ne (by omega)).trans ((zu_ne (by omega)).trans ((zu_ne (by omega)).trans ((zu_ne (by omega)).trans ((zu_ne (by omega)).trans ((zu_ne (by omega)).trans ((zu_ne (by omega)).trans ((zu_ne (by omega)).trans ((zu_ne (by omega)).trans ((zu_ne (by omega)).trans ((zu_ne (by omega)).trans ((zu_ne (by omega)).trans ((zu_ne (by omega)).trans ((zu_ne (by omega)).trans (zu_eq.trans ((by decide +kernel : R0 810 8 = some 814)).symm))))))))))))))))))))))))))
      · exact (zu_ne (by omega)).trans ((zu_ne (by omega)).trans ((zu_ne (by omega)).trans ((zu_ne (by omega)).trans ((zu_ne (by omega)).trans ((zu_ne (by omega)).trans ((zu_ne (by omega)).trans ((zu_ne (by omega)).trans ((zu_ne (by omega)).trans ((zu_ne (by omega)).trans ((zu_ne (by omega)).trans ((zu_ne (by omega)).trans ((zu_ne (by omega)).trans ((zu_ne (by omega)).trans ((zu_ne (by omega)).trans ((zu_ne (by omega)).trans ((zu_ne (by omega)).trans ((zu_ne (by omega)).trans ((zu_ne (by omega)).trans ((zu_ne (by omega)).trans ((zu_ne (by omega)).trans ((zu_ne (by omega)).trans ((zu_ne (by omega)).trans ((zu_ne (by omega)).trans ((zu_ne (by omega)).trans (zu_eq.trans ((by decide +kernel : R0 810 9 = some 815)).symm)))))))))))))))))))))))))
      · exact absurd hs (by decide)
      · exact absurd hs (by decide)
      · exact absurd hs (by decide)
      · exact absurd hs (by decide)
      · exact absurd hs (by decide)
      · exact absurd hs (by decide)
      · exact absurd hs (by decide)
      · exact absurd hs (by decide)
      · exact absurd hs (by decide)
      · exact (zu_ne (by omega)).trans ((zu_ne (by omega)).trans ((zu_ne (by omega)).trans ((zu_ne (by omega)).trans ((zu_ne (by omega)).trans ((zu_ne (by omega)).trans ((zu_ne (by omega)).trans ((zu_ne (by omega)).trans ((zu_ne (by omega)).trans ((zu_ne (by omega)).trans ((zu_ne (by omega)).trans ((zu_ne (by omega)).trans ((zu_ne (by omega)).trans ((zu_ne (by omega)).trans ((zu_ne (by omega)).trans ((zu_ne (by omega)).trans ((zu_ne (by omega)).trans ((zu_ne (by omega)).trans ((zu_ne (by omega)).trans ((zu_ne (by omega)).trans ((zu_ne (by omega)).trans ((zu_ne (by omega)).trans ((zu_ne (by omega)).trans ((zu_ne (by omega)).trans (zu_eq.trans ((by decide +kernel : R0 810 19 = some 816)).symm))))))))))))))))))))))))
      · exact absurd hs (by decide)
      · exact absurd hs (by decide)
      · exact (zu_ne (by omega)).trans ((zu_ne (by omega)).trans ((zu_ne (by omega)).trans ((zu_ne (by omega)).trans ((zu_ne (by omega)).trans ((zu_ne (by omega)).trans ((zu_ne (by omega)).trans ((zu_ne (by omega)).trans ((zu_ne (by omega)).trans ((zu_ne (by omega)).trans ((zu_ne (by omega)).trans ((zu_ne (by omega)).trans ((zu_ne (by omega)).trans ((zu_ne (by omega)).trans ((zu_ne (by omega)).trans ((zu_ne (by omega)).trans ((zu_ne (by omega)).trans ((zu_ne (by omega)).trans ((zu_ne (by omega)).trans ((zu_ne (by omega)).trans ((zu_ne (by omega)).trans ((zu_ne (by omega)).trans ((zu_ne (by omega)).trans (zu_eq.trans ((by decide +kernel : R0 810 22 = some 817)).symm)))))))))))))))))))))))
      · exact (zu_ne (by omega)).trans ((zu_ne (by omega)).trans ((zu_ne (by omega)).trans ((zu_ne (by omega)).trans ((zu_ne (by omega)).trans ((zu_ne (by omega)).trans ((zu_ne (by omega)).trans ((zu_ne (by omega)).trans ((zu_ne (by omega)).trans ((zu_ne (by omega)).trans ((zu_ne (by omega)).trans ((zu_ne (by omega)).trans ((zu_ne (by omega)).trans ((zu_ne (by omega)).trans ((zu_ne (by omega)).trans ((zu_ne (by omega)).trans ((zu_ne (by omega)).trans ((zu_ne (by omega)).trans ((zu_ne (by omega)).trans ((zu_ne (by omega)).trans ((zu_ne (by omega)).trans ((zu_ne (by omega)).trans (zu_eq.trans ((by decide +kernel : R0 810 23 = some 818)).symm))))))))))))))))))))))
      · exact (zu_ne (by omega)).trans ((zu_ne (by omega)).trans ((zu_ne (by omega)).trans ((zu_ne (by omega)).trans ((zu_ne (by omega)).trans ((zu_ne (by omega)).trans ((zu_ne (by omega)).trans ((zu_ne (by omega)).trans ((zu_ne (by omega)).trans ((zu_ne (by omega)).trans ((zu_ne (by omega)).trans ((zu_ne (by omega)).trans ((zu_ne (by omega)).trans ((zu_ne (by omega)).trans ((zu_ne (by omega)).trans ((zu_ne (by omega)).trans ((zu_ne (by omega)).trans ((zu_ne (by omega)).trans ((zu_ne (by omega)).trans ((zu_ne (by omega)).trans ((zu_ne (by omega)).trans (zu_eq.trans ((by decide +kernel : R0 810 24 = some 819)).symm)))))))))))))))))))))
      · exact absurd hs (by decide)
      · exact (zu_ne (by omega)).trans ((zu_ne (by omega)).trans ((zu_ne (by omega)).trans ((zu_ne (by omega)).trans ((zu_ne (by omega)).trans ((zu_ne (by omega)).trans ((zu_ne (by omega)).trans ((zu_ne (by omega)).trans ((zu_ne (by omega)).trans ((zu_ne (by omega)).trans ((zu_ne (by omega)).trans ((zu_ne (by omega)).trans ((zu_ne (by omega)).trans ((zu_ne (by omega)).trans ((zu_ne (by omega)).trans ((zu_ne (by omega)).trans ((zu_ne (by omega)).trans ((zu_ne (by omega)).trans ((zu_ne (by omega)).trans ((zu_ne (by omega)).trans (zu_eq.trans ((by decide +kernel : R0 810 26 = some 820)).symm))))))))))))))))))))
      · exact (zu_ne (by omega)).trans ((zu_ne (by omega)).trans ((zu_ne (by omega)).trans ((zu_ne (by omega)).trans ((zu_ne (by omega)).trans ((zu_ne (by omega)).trans ((zu_ne (by omega)).trans ((zu_ne (by omega)).trans ((zu_ne (by omega)).trans ((zu_ne (by omega)).trans ((zu_ne (by omega)).trans ((zu_ne (by omega)).trans ((zu_ne (by omega)).trans ((zu_ne (by omega)).trans ((zu_ne (by omega)).trans ((zu_ne (by omega)).trans ((zu_ne (by omega)).trans ((zu_ne (by omega)).trans ((zu_ne (by omega)).trans (zu_eq.trans ((by decide +kernel : R0 810 27 = some 821)).symm)))))))))))))))))))
      · exact (zu_ne (by omega)).trans ((zu_ne (by omega)).trans ((zu_ne (by omega)).trans ((zu_ne (by omega)).trans ((zu_ne (by omega)).trans ((zu_ne (by omega)).trans ((zu_ne (by omega)).trans ((zu_ne (by omega)).trans ((zu_ne (by omega)).trans ((zu_ne (by omega)).trans ((zu_ne (by omega)).trans ((zu_ne (by omega)).trans ((zu_ne (by omega)).trans ((zu_ne (by omega)).trans ((zu_ne (by omega)).trans ((zu_ne (by omega)).trans ((zu_ne (by omega)).trans ((zu_ne (by omega)).trans (zu_eq.trans ((by decide +kernel : R0 810 28 = some 822)).symm))))))))))))))))))
      · exact (zu_ne (by omega)).trans ((zu_ne (by omega)).trans ((zu_ne (by omega)).trans ((zu_ne (by omega)).trans ((zu_ne (by omega)).trans ((zu_ne (by omega)).trans ((zu_ne (by omega)).trans ((zu_ne (by omega)).trans ((zu_ne (by omega)).trans ((zu_ne (by omega)).trans ((zu_ne (by omega)).trans ((zu_ne (by omega)).trans ((zu_ne (by omega)).trans ((zu_ne (by omega)).trans ((zu_ne (by omega)).trans ((zu_ne (by omega)).trans ((zu_ne (by omega)).trans (zu_eq.trans ((by decide +kernel : R0 810 29 = some 823)).symm)))))))))))))))))
      · exact absurd hs (by decide)
      · exact absurd hs (by decide)
      · exact absurd hs (by decide)
      · exact absurd hs (by decide)
      · exact (zu_ne (by omega)).trans ((zu_ne (by omega)).trans ((zu_ne (by omega)).trans ((zu_ne (by omega)).trans ((zu_ne (by omega)).trans ((zu_ne (by omega)).trans ((zu_ne (by omega)).trans ((zu_ne (by omega)).trans ((zu_ne (by omega)).trans ((zu_ne (by omega)).trans ((zu_ne (by omega)).trans ((zu_ne (by omega)).trans ((zu_ne (by omega)).trans ((zu_ne (by omega)).trans ((zu_ne (by omega)).trans ((zu_ne (by omega)).trans (zu_eq.trans ((by decide +kernel : R0 810 34 = some 824)).symm))))))))))))))))
      · exact absurd hs (by decide)
      · exact (zu_ne (by omega)).trans ((zu_ne (by omega)).trans ((zu_ne (by omega)).trans ((zu_ne (by omega)).trans ((zu_ne (by omega)).trans ((zu_ne (by omega)).trans ((zu_ne (by omega)).trans ((zu_ne (by omega)).trans ((zu_ne (by omega)).trans ((zu_ne (by omega)).trans ((zu_ne (by omega)).trans ((zu_ne (by omega)).trans ((zu_ne (by omega)).trans ((zu_ne (by omega)).trans ((zu_ne (by omega)).trans (zu_eq.trans ((by decide +kernel : R0 810 36 = some 825)).symm)))))))))))))))
      · exact (zu_ne (by omega)).trans ((zu_ne (by omega)).trans ((zu_ne (by omega)).trans ((zu_ne (by omega)).trans ((zu_ne (by omega)).trans ((zu_ne (by omega)).trans ((zu_ne (by omega)).trans ((zu_ne (by omega)).trans ((zu_ne (by omega)).trans ((zu_ne (by omega)).trans ((zu_ne (by omega)).trans ((zu_ne (by omega)).trans ((zu_ne (by omega)).trans ((zu_ne (by omega)).trans (zu_eq.trans ((by decide +kernel : R0 810 37 = some 826)).symm))))))))))))))
      · exact (zu_ne (by omega)).trans ((zu_ne (by omega)).trans ((zu_ne (by omega)).trans ((zu_ne (by omega)).trans ((zu_ne (by omega)).trans ((zu_ne (by omega)).trans ((zu_ne (by omega)).trans ((zu_ne (by omega)).trans ((zu_ne (by omega)).trans ((zu_ne (by omega)).trans ((zu_ne (by omega)).trans ((zu_ne (by omega)).trans ((zu_ne (by omega)).trans (zu_eq.trans ((by decide +kernel : R0 810 38 = some 827)).symm)))))))))))))
      · exact (zu_ne (by omega)).trans ((zu_ne (by omega)).trans ((zu_ne (by omega)).trans ((zu_ne (by omega)).trans ((zu_ne (by omega)).trans ((zu_ne (by omega)).trans ((zu_ne (by omega)).trans ((zu_ne (by omega)).trans ((zu_ne (by omega)).trans ((zu_ne (by omega)).trans ((zu_ne (by omega)).trans ((zu_ne (by omega)).trans (zu_eq.trans ((by decide +kernel : R0 810 39 = some 828)).symm))))))))))))
      · exact absurd hs (by decide)
      · exact absurd hs (by decide)
      · exact absurd hs (by decide)
      · exact (zu_ne (by omega)).trans ((zu_ne (by omega)).trans ((zu_ne (by omega)).trans ((zu_ne (by omega)).trans ((zu_ne (by omega)).trans ((zu_ne (by omega)).trans ((zu_ne (by omega)).trans ((zu_ne (by omega)).trans ((zu_ne (by omega)).trans ((zu_ne (by omega)).trans ((zu_ne (by omega)).trans (zu_eq.trans ((by decide +kernel : R0 810 43 = some 829)).symm)))))))))))
      · exact absurd hs (by decide)
      · exact (zu_ne (by omega)).trans ((zu_ne (by omega)).trans ((zu_ne (by omega)).trans ((zu_ne (by omega)).trans ((zu_ne (by omega)).trans ((zu_ne (by omega)).trans ((zu_ne (by omega)).trans ((zu_ne (by omega)).trans ((zu_ne (by omega)).trans ((zu_ne (by omega)).trans (zu_eq.trans ((by decide +kernel : R0 810 45 = some 830)).symm))))))))))
      · exact (zu_ne (by omega)).trans ((zu_ne (by omega)).trans ((zu_ne (by omega)).trans ((zu_ne (by omega)).trans ((zu_ne (by omega)).trans ((zu_ne (by omega)).trans ((zu_ne (by omega)).trans ((zu_ne (by omega)).trans ((zu_ne (by omega)).trans (zu_eq.trans ((by decide +kernel : R0 810 46 = some 831)).symm)))))))))
      · exact (zu_ne (by omega)).trans ((zu_ne (by omega)).trans ((zu_ne (by omega)).trans ((zu_ne (by omega)).trans ((zu_ne (by omega)).trans ((zu_ne (by omega)).trans ((zu_ne (by omega)).trans ((zu_ne (by omega)).trans (zu_eq.trans ((by decide +kernel : R0 810 47 = some 832)).symm))))))))
      · exact (zu_ne (by omega)).trans ((zu_ne (by omega)).trans ((zu_ne (by omega)).trans ((zu_ne (by omega)).trans ((zu_ne (by omega)).trans ((zu_ne (by omega)).trans ((zu_ne (by omega)).trans (zu_eq.trans ((by decide +kernel : R0 810 48 = some 833)).symm)))))))
      · exact absurd hs (by decide)
      · exact absurd hs (by decide)
      · exact (zu_ne (by omega)).trans ((zu_ne (by omega)).trans ((zu_ne (by omega)).trans ((zu_ne (by omega)).trans ((zu_ne (by omega)).trans ((zu_ne (by omega)).trans (zu_eq.trans ((by decide +kernel : R0 810 51 = some 834)).symm))))))
      · exact (zu_ne (by omega)).trans ((zu_ne (by omega)).trans ((zu_ne (by omega)).trans ((zu_ne (by omega)).trans ((zu_ne (by omega)).trans (zu_eq.trans ((by decide +kernel : R0 810 52 = some 835)).symm)))))
      · exact (zu_ne (by omega)).trans ((zu_ne (by omega)).trans ((zu_ne (by omega)).trans ((zu_ne (by omega)).trans (zu_eq.trans ((by decide +kernel : R0 810 53 = some 836)).symm))))
      · exact (zu_ne (by omega)).trans ((zu_ne (by omega)).trans ((zu_ne (by omega)).trans (zu_eq.trans ((by decide +kernel : R0 810 54 = some 837)).symm)))
      · exact (zu_ne (by omega)).trans ((zu_ne (by omega)).trans (zu_eq.trans ((by decide +kernel : R0 810 55 = some 838)).symm))
      · exact absurd hs (by decide)
      · exact absurd hs (by decide)
      · exact absurd hs (by decide)
      · exact absurd hs (by decide)
      · exact (zu_ne (by omega)).trans (zu_eq.trans ((by decide +kernel : R0 810 60 = some 839)).symm)
      · exact zu_eq.trans ((by decide +kernel : R0 810 61 = some 840)).symm
      · exact absurd hs (by decide)
    by_cases h2 : a = 811
    · subst a
      rw [(by decide +kernel : sA 811 20 171).2.2] at hk hs
      exact absurd hs (z_sk20 k)
    by_cases h3 : a = 812
    · subst a
      rw [(by decide +kernel : sA 812 20 1368).2.2] at hk hs
      exact absurd hs (z_sk20 k)
    by_cases h4 : a = 813
    · subst a
      rw [(by decide +kernel : sA 813 20 342).2.2] at hk hs
      exact absurd hs (z_sk20 k)
    by_cases h5 : a = 814
    · subst a
      rw [(by decide +kernel : sA 814 22 2).2.2] at hk hs
      exact absurd hs (z_sk22 k)
    by_cases h6 : a = 815
    · subst a
      rw [(by decide +kernel : sA 815 20 400).2.2] at hk hs
      exact absurd hs (z_sk20 k)
    by_cases h7 : a = 816
    · subst a
      rw [(by decide +kernel : sA 816 20 57).2.2] at hk hs
      exact absurd hs (z_sk20 k)
    by_cases h8 : a = 817
    · subst a
      rw [(by decide +kernel : sA 817 20 7).2.2] at hk hs
      exact absurd hs (z_sk20 k)
    by_cases h9 : a = 818
    · subst a
      rw [(by decide +kernel : sA 818 20 49).2.2] at hk hs
      exact absurd hs (z_sk20 k)
    by_cases h10 : a = 819
    · subst a
      rw [(by decide +kernel : sA 819 20 7).2.2] at hk hs
      exact absurd hs (z_sk20 k)
    by_cases h11 : a = 820
    · subst a
      rw [(by decide +kernel : sA 820 20 154).2.2] at hk hs
      exact absurd hs (z_sk20 k)
    by_cases h12 : a = 821
    · subst a
      rw [(by decide +kernel : sA 821 20 7).2.2] at hk hs
      exact absurd hs (z_sk20 k)
    by_cases h13 : a = 822
    · subst a
      rw [(by decide +kernel : sA 822 20 56).2.2] at hk hs
      exact absurd hs (z_sk20 k)
    by_cases h14 : a = 823
    · subst a
      rw [(by decide +kernel : sA 823 20 8).2.2] at hk hs
      exact absurd hs (z_sk20 k)
    by_cases h15 : a = 824
    · subst a
      rw [(by decide +kernel : sA 824 20 28).2.2] at hk hs
      exact absurd hs (z_sk20 k)
    by_cases h16 : a = 825
    · subst a
      rw [(by decide +kernel : sA 825 20 8).2.2] at hk hs
      exact absurd hs (z_sk20 k)
    by_cases h17 : a = 826
    · subst a
      rw [(by decide +kernel : sA 826 20 28).2.2] at hk hs
      exact absurd hs (z_sk20 k)
    by_cases h18 : a = 827
    · subst a
      rw [(by decide +kernel : sA 827 20 7).2.2] at hk hs
      exact absurd hs (z_sk20 k)
    by_cases h19 : a = 828
    · subst a
      rw [(by decide +kernel : sA 828 20 196).2.2] at hk hs
      exact absurd hs (z_sk20 k)
    by_cases h20 : a = 829
    · subst a
      rw [(by decide +kernel : sA 829 20 8).2.2] at hk hs
      exact absurd hs (z_sk20 k)
    by_cases h21 : a = 830
    · subst a
      rw [(by decide +kernel : sA 830 20 8).2.2] at hk hs
      exact absurd hs (z_sk20 k)
    by_cases h22 : a = 831
    · subst a
      rw [(by decide +kernel : sA 831 20 28).2.2] at hk hs
      exact absurd hs (z_sk20 k)
    by_cases h23 : a = 832
    · subst a
      rw [(by decide +kernel : sA 832 20 7).2.2] at hk hs
      exact absurd hs (z_sk20 k)
    by_cases h24 : a = 833
    · subst a
      rw [(by decide +kernel : sA 833 20 5040).2.2] at hk hs
      exact absurd hs (z_sk20 k)
    by_cases h25 : a = 834
    · subst a
      rw [(by decide +kernel : sA 834 20 7).2.2] at hk hs
      exact absurd hs (z_sk20 k)
    by_cases h26 : a = 835
    · subst a
      rw [(by decide +kernel : sA 835 20 49).2.2] at hk hs
      exact absurd hs (z_sk20 k)
    by_cases h27 : a = 836
    · subst a
      rw [(by decide +kernel : sA 836 20 7).2.2] at hk hs
      exact absurd hs (z_sk20 k)
    by_cases h28 : a = 837
    · subst a
      rw [(by decide +kernel : sA 837 20 7).2.2] at hk hs
      exact absurd hs (z_sk20 k)
    by_cases h29 : a = 838
    · subst a
      rw [(by decide +kernel : sA 838 20 7).2.2] at hk hs
      exact absurd hs (z_sk20 k)
    by_cases h30 : a = 839
    · subst a
      rw [(by decide +kernel : sA 839 20 7).2.2] at hk hs
      exact absurd hs (z_sk20 k)
    by_cases h31 : a = 840
    · subst a
      rw [(by decide +kernel : sA 840 20 154).2.2] at hk hs
      exact absurd hs (z_sk20 k)
    omega
theorem cM_X10 {R : Nat → Nat → Option Nat} {m : zm}   (hR : ∀ a k, 810 ≤ a → R a k = none) (hm : ∀ a, 810 ≤ a → z0 m a) : (wI (wI (wI (wI (m) (810) 2 (-1 : Int32)) (811) 0 (1 : Int32)) (811) 57 (1 : Int32)) (811) 114 (1 : Int32)) = mA m (810) (841) := by
  refine mA_of (fun a k h1 h2 => ?_) (fun a k h => ?_) rfl
  · by_cases h3 : a = 810
    · subst a
      by_cases g0 : k = 2
      · subst g0; exact (wI_ne (by omega)).trans ((wI_ne (by omega)).trans ((wI_ne (by omega)).trans (wI_hit.trans (by decide +kernel))))
      exact (wI_na (by omega)).trans ((wI_na (by omega)).trans ((wI_na (by omega)).trans ((wI_nk (by omega)).trans (((hm (810) (by omega) k).1).trans (i0_810 k (by omega))))))
    by_cases h4 : a = 811
    · subst a
      by_cases g3 : k = 114
      · subst g3; exact wI_hit.trans (by decide +kernel)
      by_cases g2 : k = 57
      · subst g2; exact (wI_ne (by omega)).trans (wI_hit.trans (by decide +kernel))
      by_cases g1 : k = 0
      · subst g1; exact (wI_ne (by omega)).trans ((wI_ne (by omega)).trans (wI_hit.trans (by decide +kernel)))
      exact (wI_nk (by omega)).trans ((wI_nk (by omega)).trans ((wI_nk (by omega)).trans ((wI_na (by omega)).trans (((hm (811) (by omega) k).1).trans (i0_811 k (by omega))))))
    by_cases h5 : a = 812
    · subst a
      exact (wI_na (by omega)).trans ((wI_na (by omega)).trans ((wI_na (by omega)).trans ((wI_na (by omega)).trans (((hm (812) (by omega) k).1).trans ((i0_0 (by decide +kernel : sA 812 20 1368) (by decide) (by decide) (by decide) (by decide)).symm)))))
    by_cases h6 : a = 813
    · subst a
      exact (wI_na (by omega)).trans ((wI_na (by omega)).trans ((wI_na (by omega)).trans ((wI_na (by omega)).trans (((hm (813) (by omega) k).1).trans ((i0_0 (by decide +kernel : sA 813 20 342) (by decide) (by decide) (by decide) (by decide)).symm)))))
    by_cases h7 : a = 814
    · subst a
      exact (wI_na (by omega)).trans ((wI_na (by omega)).trans ((wI_na (by omega)).trans ((wI_na (by omega)).trans (((hm (814) (by omega) k).1).trans ((i0_0 (by decide +kernel : sA 814 22 2) (by decide) (by decide) (by decide) (by decide)).symm)))))
    by_cases h8 : a = 815
    · subst a
      exact (wI_na (by omega)).trans ((wI_na (by omega)).trans ((wI_na (by omega)).trans ((wI_na (by omega)).trans (((hm (815) (by omega) k).1).trans ((i0_0 (by decide +kernel : sA 815 20 400) (by decide) (by decide) (by decide) (by decide)).symm)))))
    by_cases h9 : a = 816
    · subst a
      exact (wI_na (by omega)).trans ((wI_na (by omega)).trans ((wI_na (by omega)).trans ((wI_na (by omega)).trans (((hm (816) (by omega) k).1).trans ((i0_0 (by decide +kernel : sA 816 20 57) (by decide) (by decide) (by decide) (by decide)).symm)))))
    by_cases h10 : a = 817
    · subst a
      exact (wI_na (by omega)).trans ((wI_na (by omega)).trans ((wI_na (by omega)).trans ((wI_na (by omega)).trans (((hm (817) (by omega) k).1).trans ((i0_0 (by decide +kernel : sA 817 20 7) (by decide) (by decide) (by decide) (by decide)).symm)))))
    by_cases h11 : a = 818
    · subst a
      exact (wI_na (by omega)).trans ((wI_na (by omega)).trans ((wI_na (by omega)).trans ((wI_na (by omega)).trans (((hm (818) (by omega) k).1).trans ((i0_0 (by decide +kernel : sA 818 20 49) (by decide) (by decide) (by decide) (by decide)).symm)))))
    by_cases h12 : a = 819
    · subst a
      exact (wI_na (by omega)).trans ((wI_na (by omega)).trans ((wI_na (by omega)).trans ((wI_na (by omega)).trans (((hm (819) (by omega) k).1).trans ((i0_0 (by decide +kernel : sA 819 20 7) (by decide) (by decide) (by decide) (by decide)).symm)))))
    by_cases h13 : a = 820
    · subst a
      exact (wI_na (by omega)).trans ((wI_na (by omega)).trans ((wI_na (by omega)).trans ((wI_na (by omega)).trans (((hm (820) (by omega) k).1).trans ((i0_0 (by decide +kernel : sA 820 20 154) (by decide) (by decide) (by decide) (by decide)).symm)))))
    by_cases h14 : a = 821
    · subst a
      exact (wI_na (by omega)).trans ((wI_na (by omega)).trans ((wI_na (by omega)).trans ((wI_na (by omega)).trans (((hm (821) (by omega) k).1).trans ((i0_0 (by decide +kernel : sA 821 20 7) (by decide) (by decide) (by decide) (by decide)).symm)))))
    by_cases h15 : a = 822
    · subst a
      exact (wI_na (by omega)).trans ((wI_na (by omega)).trans ((wI_na (by omega)).trans ((wI_na (by omega)).trans (((hm (822) (by omega) k).1).trans ((i0_0 (by decide +kernel : sA 822 20 56) (by decide) (by decide) (by decide) (by decide)).symm)))))
    by_cases h16 : a = 823
    · subst a
      exact (wI_na (by omega)).trans ((wI_na (by omega)).trans ((wI_na (by omega)).trans ((wI_na (by omega)).trans (((hm (823) (by omega) k).1).trans ((i0_0 (by decide +kernel : sA 823 20 8) (by decide) (by decide) (by decide) (by decide)).symm)))))
    by_cases h17 : a = 824
    · subst a
      exact (wI_na (by omega)).trans ((wI_na (by omega)).trans ((wI_na (by omega)).trans ((wI_na (by omega)).trans (((hm (824) (by omega) k).1).trans ((i0_0 (by decide +kernel : sA 824 20 28) (by decide) (by decide) (by decide) (by decide)).symm)))))
    by_cases h18 : a = 825
    · subst a
      exact (wI_na (by omega)).trans ((wI_na (by omega)).trans ((wI_na (by omega)).trans ((wI_na (by omega)).trans (((hm (825) (by omega) k).1).trans ((i0_0 (by decide +kernel : sA 825 20 8) (by decide) (by decide) (by decide) (by decide)).symm)))))
    by_cases h19 : a = 826
    · subst a
      exact (wI_na (by omega)).trans ((wI_na (by omega)).trans ((wI_na (by omega)).trans ((wI_na (by omega)).trans (((hm (826) (by omega) k).1).trans ((i0_0 (by decide +kernel : sA 826 20 28) (by decide) (by decide) (by decide) (by decide)).symm)))))
    by_cases h20 : a = 827
    · subst a
      exact (wI_na (by omega)).trans ((wI_na (by omega)).trans ((wI_na (by omega)).trans ((wI_na (by omega)).trans (((hm (827) (by omega) k).1).trans ((i0_0 (by decide +kernel : sA 827 20 7) (by decide) (by decide) (by decide) (by decide)).symm)))))
    by_cases h21 : a = 828
    · subst a
      exact (wI_na (by omega)).trans ((wI_na (by omega)).trans ((wI_na (by omega)).trans ((wI_na (by omega)).trans (((hm (828) (by omega) k).1).trans ((i0_0 (by decide +kernel : sA 828 20 196) (by decide) (by decide) (by decide) (by decide)).symm)))))
    by_cases h22 : a = 829
    · subst a
      exact (wI_na (by omega)).trans ((wI_na (by omega)).trans ((wI_na (by omega)).trans ((wI_na (by omega)).trans (((hm (829) (by omega) k).1).trans ((i0_0 (by decide +kernel : sA 829 20 8) (by decide) (by decide) (by decide) (by decide)).symm)))))
    by_cases h23 : a = 830
    · subst a
      exact (wI_na (by omega)).trans ((wI_na (by omega)).trans ((wI_na (by omega)).trans ((wI_na (by omega)).trans (((hm (830) (by omega) k).1).trans ((i0_0 (by decide +kernel : sA 830 20 8) (by decide) (by decide) (by decide) (by decide)).symm)))))
    by_cases h24 : a = 831
    · subst a
      exact (wI_na (by omega)).trans ((wI_na (by omega)).trans ((wI_na (by omega)).trans ((wI_na (by omega)).trans (((hm (831) (by omega) k).1).trans ((i0_0 (by decide +kernel : sA 831 20 28) (by decide) (by decide) (by decide) (by decide)).symm)))))
    by_cases h25 : a = 832
    · subst a
      exact (wI_na (by omega)).trans ((wI_na (by omega)).trans ((wI_na (by omega)).trans ((wI_na (by omega)).trans (((hm (832) (by omega) k).1).trans ((i0_0 (by decide +kernel : sA 832 20 7) (by decide) (by decide) (by decide) (by decide)).symm)))))
    by_cases h26 : a = 833
    · subst a
      exact (wI_na (by omega)).trans ((wI_na (by omega)).trans ((wI_na (by omega)).trans ((wI_na (by omega)).trans (((hm (833) (by omega) k).1).trans ((i0_0 (by decide +kernel : sA 833 20 5040) (by decide) (by decide) (by decide) (by decide)).symm)))))
    by_cases h27 : a = 834
    · subst a
      exact (wI_na (by omega)).trans ((wI_na (by omega)).trans ((wI_na (by omega)).trans ((wI_na (by omega)).trans (((hm (834) (by omega) k).1).trans ((i0_0 (by decide +kernel : sA 834 20 7) (by decide) (by decide) (by decide) (by decide)).symm)))))
    by_cases h28 : a = 835
    · subst a
      exact (wI_na (by omega)).trans ((wI_na (by omega)).trans ((wI_na (by omega)).trans ((wI_na (by omega)).trans (((hm (835) (by omega) k).1).trans ((i0_0 (by decide +kernel : sA 835 20 49) (by decide) (by decide) (by decide) (by decide)).symm)))))
    by_cases h29 : a = 836
    · subst a
      exact (wI_na (by omega)).trans ((wI_na (by omega)).trans ((wI_na (by omega)).trans ((wI_na (by omega)).trans (((hm (836) (by omega) k).1).trans ((i0_0 (by decide +kernel : sA 836 20 7) (by decide) (by decide) (by decide) (by decide)).symm)))))
    by_cases h30 : a = 837
    · subst a
      exact (wI_na (by omega)).trans ((wI_na (by omega)).trans ((wI_na (by omega)).trans ((wI_na (by omega)).trans (((hm (837) (by omega) k).1).trans ((i0_0 (by decide +kernel : sA 837 20 7) (by decide) (by decide) (by decide) (by decide)).symm)))))
    by_cases h31 : a = 838
    · subst a
      exact (wI_na (by omega)).trans ((wI_na (by omega)).trans ((wI_na (by omega)).trans ((wI_na (by omega)).trans (((hm (838) (by omega) k).1).trans ((i0_0 (by decide +kernel : sA 838 20 7) (by decide) (by decide) (by decide) (by decide)).symm)))))
    by_cases h32 : a = 839
    · subst a
      exact (wI_na (by omega)).trans ((wI_na (by omega)).trans ((wI_na (by omega)).trans ((wI_na (by omega)).trans (((hm (839) (by omega) k).1).trans ((i0_0 (by decide +kernel : sA 839 20 7) (by decide) (by decide) (by decide) (by decide)).symm)))))
    by_cases h33 : a = 840
    · subst a
      exact (wI_na (by omega)).trans ((wI_na (by omega)).trans ((wI_na (by omega)).trans ((wI_na (by omega)).trans (((hm (840) (by omega) k).1).trans ((i0_0 (by decide +kernel : sA 840 20 154) (by decide) (by decide) (by decide) (by decide)).symm)))))
    omega
  · exact (wI_na (by omega)).trans ((wI_na (by omega)).trans ((wI_na (by omega)).trans ((wI_na (by omega)).trans (rfl))))
set_option maxRecDepth 100000 in
set_option maxHeartbeats 4000000 in
theorem c_X10 {g : zG} {d : Nat} {Q : Option Value → zH → Prop} {R : Nat → Nat → Option Nat} {m : zm}   (hR : ∀ a k, 810 ≤ a → R a k = none) (hm : ∀ a, 810 ≤ a → z0 m a) (H : Q none (mkc (841) (RA R (810) (841)) (mA m (810) (841)))) : Ok g true (d + 1) mX10_init 30 8224 [.ref (810)] (mkc (811) R m) Q :=
  Ok_of (ls := [.ref (810), .retAddr 0]) (by decide) rfl (Nat.le_of_ble_eq_true rfl) rfl (r_aload_n 0 dX10_init_0 rfl rfl (r_objInit dX10_init_1 lo_X10_1 (Nat.le_of_ble_eq_true rfl) (Nat.le_of_ble_eq_true rfl) (r_aload_n 0 dX10_init_4 rfl rfl (r_iconst (-1) dX10_init_5 rfl (c_putI dX10_init_6 fp_X10_9_X10 (Or.inl rfl) (zAc (by decide +kernel : sA 810 9 63) (by omega)) (r_aload_n 0 dX10_init_9 rfl rfl (r_sipush (171) dX10_init_10 rfl (r_newarr (C := 29) (S := 8053) (t := 20) (N := 171) (at_ := .int) (M := mX10_init) dX10_init_13 rfl (by decide) ac_int (by decide) rfl (by decide) (by decide +kernel : sA 811 20 171).2.2 (zt (by decide +kernel : sA 811 20 171)) (wI_z0 (by omega) (hm (811) (by omega))) (c_putR dX10_init_15 fp_X10_13_X10 (fun _ => rfl) (zAc (by decide +kernel : sA 810 9 63) (by omega)) (r_aload_n 0 dX10_init_18 rfl rfl (r_sipush (1368) dX10_init_19 rfl (r_newarr (C := 28) (S := 6685) (t := 20) (N := 1368) (at_ := .int) (M := mX10_init) dX10_init_22 rfl (by decide) ac_int (by decide) rfl (by decide) (by decide +kernel : sA 812 20 1368).2.2 (zt (by decide +kernel : sA 812 20 1368)) (wI_z0 (by omega) (hm (812) (by omega))) (c_putR dX10_init_24 fp_X10_17_X10 (fun _ => rfl) (zAc (by decide +kernel : sA 810 9 63) (by omega)) (r_aload_n 0 dX10_init_27 rfl rfl (r_sipush (342) dX10_init_28 rfl (r_newarr (C := 27) (S := 6343) (t := 20) (N := 342) (at_ := .int) (M := mX10_init) dX10_init_31 rfl (by decide) ac_int (by decide) rfl (by decide) (by decide +kernel : sA 813 20 342).2.2 (zt (by decide +kernel : sA 813 20 342)) (wI_z0 (by omega) (hm (813) (by omega))) (c_putR dX10_init_33 fp_X10_20_X10 (fun _ => rfl) (zAc (by decide +kernel : sA 810 9 63) (by omega)) (r_aload_n 0 dX10_init_36 rfl rfl (r_iconst (2) dX10_init_37 rfl (r_newarr (C := 26) (S := 6341) (t := 22) (N := 2) (at_ := .boolean) (M := mX10_init) dX10_init_38 rfl (by decide) ac_boolean (by decide) rfl (by decide) (by decide +kernel : sA 814 22 2).2.2 (zt (by decide +kernel : sA 814 22 2)) (wI_z0 (by omega) (hm (814) (by omega))) (c_putR dX10_init_40 fp_X10_23_X10 (fun _ => rfl) (zAc (by decide +kernel : sA 810 9 63) (by omega)) (r_aload_n 0 dX10_init_43 rfl rfl (r_sipush (400) dX10_init_44 rfl (r_newarr (C := 25) (S := 5941) (t := 20) (N := 400) (at_ := .int) (M := mX10_init) dX10_init_47 rfl (by decide) ac_int (by decide) rfl (by decide) (by decide +kernel : sA 815 20 400).2.2 (zt (by decide +kernel : sA 815 20 400)) (wI_z0 (by omega) (hm (815) (by omega))) (c_putR dX10_init_49 fp_X10_27_X10 (fun _ => rfl) (zAc (by decide +kernel : sA 810 9 63) (by omega)) (r_aload_n 0 dX10_init_52 rfl rfl (r_bipush (57) dX10_init_53 rfl (r_newarr (C := 24) (S := 5884) (t := 20) (N := 57) (at_ := .int) (M := mX10_init) dX10_init_55 rfl (by decide) ac_int (by decide) rfl (by decide) (by decide +kernel : sA 816 20 57).2.2 (zt (by decide +kernel : sA 816 20 57)) (wI_z0 (by omega) (hm (816) (by omega))) (c_putR dX10_init_57 fp_X10_30_X10 (fun _ => rfl) (zAc (by decide +kernel : sA 810 9 63) (by omega)) (r_aload_n 0 dX10_init_60 rfl rfl (r_bipush (7) dX10_init_61 rfl (r_newarr (C := 23) (S := 5877) (t := 20) (N := 7) (at_ := .int) (M := mX10_init) dX10_init_63 rfl (by decide) ac_int (by decide) rfl (by decide) (by decide +kernel : sA 817 20 7).2.2 (zt (by decide +kernel : sA 817 20 7)) (wI_z0 (by omega) (hm (817) (by omega))) (c_putR dX10_init_65 fp_X10_33_X10 (fun _ => rfl) (zAc (by decide +kernel : sA 810 9 63) (by omega)) (r_aload_n 0 dX10_init_68 rfl rfl (r_bipush (49) dX10_init_69 rfl (r_newarr (C := 22) (S := 5828) (t := 20) (N := 49) (at_ := .int) (M := mX10_init) dX10_init_71 rfl (by decide) ac_int (by decide) rfl (by decide) (by decide +kernel : sA 818 20 49).2.2 (zt (by decide +kernel : sA 818 20 49)) (wI_z0 (by omega) (hm (818) (by omega))) (c_putR dX10_init_73 fp_X10_36_X10 (fun _ => rfl) (zAc (by decide +kernel : sA 810 9 63) (by omega)) (r_aload_n 0 dX10_init_76 rfl rfl (r_bipush (7) dX10_init_77 rfl (r_newarr (C := 21) (S := 5821) (t := 20) (N := 7) (at_ := .int) (M := mX10_init) dX10_init_79 rfl (by decide) ac_int (by decide) rfl (by decide) (by decide +kernel : sA 819 20 7).2.2 (zt (by decide +kernel : sA 819 20 7)) (wI_z0 (by omega) (hm (819) (by omega))) (c_putR dX10_init_81 fp_X10_39_X10 (fun _ => rfl) (zAc (by decide +kernel : sA 810 9 63) (by omega)) (r_aload_n 0 dX10_init_84 rfl rfl (r_sipush (154) dX10_init_85 rfl (r_newarr (C := 20) (S := 5667) (t := 20) (N := 154) (at_ := .int) (M := mX10_init) dX10_init_88 rfl (by decide) ac_int (by decide) rfl (by decide) (by decide +kernel : sA 820 20 154).2.2 (zt (by decide +kernel : sA 820 20 154)) (wI_z0 (by omega) (hm (820) (by omega))) (c_putR dX10_init_90 fp_X10_42_X10 (fun _ => rfl) (zAc (by decide +kernel : sA 810 9 63) (by omega)) (r_aload_n 0 dX10_init_93 rfl rfl (r_bipush (7) dX10_init_94 rfl (r_newarr (C := 19) (S := 5660) (t := 20) (N := 7) (at_ := .int) (M := mX10_init) dX10_init_96 rfl (by decide) ac_int (by decide) rfl (by decide) (by decide +kernel : sA 821 20 7).2.2 (zt (by decide +kernel : sA 821 20 7)) (wI_z0 (by omega) (hm (821) (by omega))) (c_putR dX10_init_98 fp_X10_45_X10 (fun _ => rfl) (zAc (by decide +kernel : sA 810 9 63) (by omega)) (r_aload_n 0 dX10_init_101 rfl rfl (r_bipush (56) dX10_init_102 rfl (r_newarr (C := 18) (S := 5604) (t := 20) (N := 56) (at_ := .int) (M := mX10_init) dX10_init_104 rfl (by decide) ac_int (by decide) rfl (by decide) (by decide +kernel : sA 822 20 56).2.2 (zt (by decide +kernel : sA 822 20 56)) (wI_z0 (by omega) (hm (822) (by omega))) (c_putR dX10_init_106 fp_X10_48_X10 (fun _ => rfl) (zAc (by decide +kernel : sA 810 9 63) (by omega)) (r_aload_n 0 dX10_init_109 rfl rfl (r_bipush (8) dX10_init_110 rfl (r_newarr (C := 17) (S := 5596) (t := 20) (N := 8) (at_ := .int) (M := mX10_init) dX10_init_112 rfl (by decide) ac_int (by decide) rfl (by decide) (by decide +kernel : sA 823 20 8).2.2 (zt (by decide +kernel : sA 823 20 8)) (wI_z0 (by omega) (hm (823) (by omega))) (c_putR dX10_init_114 fp_X10_51_X10 (fun _ => rfl) (zAc (by decide +kernel : sA 810 9 63) (by omega)) (r_aload_n 0 dX10_init_117 rfl rfl (r_bipush (28) dX10_init_118 rfl (r_newarr (C := 16) (S := 5568) (t := 20) (N := 28) (at_ := .int) (M := mX10_init) dX10_init_120 rfl (by decide) ac_int (by decide) rfl (by decide) (by decide +kernel : sA 824 20 28).2.2 (zt (by decide +kernel : sA 824 20 28)) (wI_z0 (by omega) (hm (824) (by omega))) (c_putR dX10_init_122 fp_X10_54_X10 (fun _ => rfl) (zAc (by decide +kernel : sA 810 9 63) (by omega)) (r_aload_n 0 dX10_init_125 rfl rfl (r_bipush (8) dX10_init_126 rfl (r_newarr (C := 15) (S := 5560) (t := 20) (N := 8) (at_ := .int) (M := mX10_init) dX10_init_128 rfl (by decide) ac_int (by decide) rfl (by decide) (by decide +kernel : sA 825 20 8).2.2 (zt (by decide +kernel : sA 825 20 8)) (wI_z0 (by omega) (hm (825) (by omega))) (c_putR dX10_init_130 fp_X10_57_X10 (fun _ => rfl) (zAc (by decide +kernel : sA 810 9 63) (by omega)) (r_aload_n 0 dX10_init_133 rfl rfl (r_bipush (28) dX10_init_134 rfl (r_newarr (C := 14) (S := 5532) (t := 20) (N := 28) (at_ := .int) (M := mX10_init) dX10_init_136 rfl (by decide) ac_int (by decide) rfl (by decide) (by decide +kernel : sA 826 20 28).2.2 (zt (by decide +kernel : sA 826 20 28)) (wI_z0 (by omega) (hm (826) (by omega))) (c_putR dX10_init_138 fp_X10_60_X10 (fun _ => rfl) (zAc (by decide +kernel : sA 810 9 63) (by omega)) (r_aload_n 0 dX10_init_141 rfl rfl (r_bipush (7) dX10_init_142 rfl (r_newarr (C := 13) (S := 5525) (t := 20) (N := 7) (at_ := .int) (M := mX10_init) dX10_init_144 rfl (by decide) ac_int (by decide) rfl (by decide) (by decide +kernel : sA 827 20 7).2.2 (zt (by decide +kernel : sA 827 20 7)) (wI_z0 (by omega) (hm (827) (by omega))) (c_putR dX10_init_146 fp_X10_63_X10 (fun _ => rfl) (zAc (by decide +kernel : sA 810 9 63) (by omega)) (r_aload_n 0 dX10_init_149 rfl rfl (r_sipush (196) dX10_init_150 rfl (r_newarr (C := 12) (S := 5329) (t := 20) (N := 196) (at_ := .int) (M := mX10_init) dX10_init_153 rfl (by decide) ac_int (by decide) rfl (by decide) (by decide +kernel : sA 828 20 196).2.2 (zt (by decide +kernel : sA 828 20 196)) (wI_z0 (by omega) (hm (828) (by omega))) (c_putR dX10_init_155 fp_X10_66_X10 (fun _ => rfl) (zAc (by decide +kernel : sA 810 9 63) (by omega)) (r_aload_n 0 dX10_init_158 rfl rfl (r_bipush (8) dX10_init_159 rfl (r_newarr (C := 11) (S := 5321) (t := 20) (N := 8) (at_ := .int) (M := mX10_init) dX10_init_161 rfl (by decide) ac_int (by decide) rfl (by decide) (by decide +kernel : sA 829 20 8).2.2 (zt (by decide +kernel : sA 829 20 8)) (wI_z0 (by omega) (hm (829) (by omega))) (c_putR dX10_init_163 fp_X10_69_X10 (fun _ => rfl) (zAc (by decide +kernel : sA 810 9 63) (by omega)) (r_aload_n 0 dX10_init_166 rfl rfl (r_bipush (8) dX10_init_167 rfl (r_newarr (C := 10) (S := 5313) (t := 20) (N := 8) (at_ := .int) (M := mX10_init) dX10_init_169 rfl (by decide) ac_int (by decide) rfl (by decide) (by decide +kernel : sA 830 20 8).2.2 (zt (by decide +kernel : sA 830 20 8)) (wI_z0 (by omega) (hm (830) (by omega))) (c_putR dX10_init_171 fp_X10_72_X10 (fun _ => rfl) (zAc (by decide +kernel : sA 810 9 63) (by omega)) (r_aload_n 0 dX10_init_174 rfl rfl (r_bipush (28) dX10_init_175 rfl (r_newarr (C := 9) (S := 5285) (t := 20) (N := 28) (at_ := .int) (M := mX10_init) dX10_init_177 rfl (by decide) ac_int (by decide) rfl (by decide) (by decide +kernel : sA 831 20 28).2.2 (zt (by decide +kernel : sA 831 20 28)) (wI_z0 (by omega) (hm (831) (by omega))) (c_putR dX10_init_179 fp_X10_75_X10 (fun _ => rfl) (zAc (by decide +kernel : sA 810 9 63) (by omega)) (r_aload_n 0 dX10_init_182 rfl rfl (r_bipush (7) dX10_init_183 rfl (r_newarr (C := 8) (S := 5278) (t := 20) (N := 7) (at_ := .int) (M := mX10_init) dX10_init_185 rfl (by decide) ac_int (by decide) rfl (by decide) (by decide +kernel : sA 832 20 7).2.2 (zt (by decide +kernel : sA 832 20 7)) (wI_z0 (by omega) (hm (832) (by omega))) (c_putR dX10_init_187 fp_X10_78_X10 (fun _ => rfl) (zAc (by decide +kernel : sA 810 9 63) (by omega)) (r_aload_n 0 dX10_init_190 rfl rfl (r_sipush (5040) dX10_init_191 rfl (r_newarr (C := 7) (S := 238) (t := 20) (N := 5040) (at_ := .int) (M := mX10_init) dX10_init_194 rfl (by decide) ac_int (by decide) rfl (by decide) (by decide +kernel : sA 833 20 5040).2.2 (zt (by decide +kernel : sA 833 20 5040)) (wI_z0 (by omega) (hm (833) (by omega))) (c_putR dX10_init_196 fp_X10_81_X10 (fun _ => rfl) (zAc (by decide +kernel : sA 810 9 63) (by omega)) (r_aload_n 0 dX10_init_199 rfl rfl (r_bipush (7) dX10_init_200 rfl (r_newarr (C := 6) (S := 231) (t := 20) (N := 7) (at_ := .int) (M := mX10_init) dX10_init_202 rfl (by decide) ac_int (by decide) rfl (by decide) (by decide +kernel : sA 834 20 7).2.2 (zt (by decide +kernel : sA 834 20 7)) (wI_z0 (by omega) (hm (834) (by omega))) (c_putR dX10_init_204 fp_X10_84_X10 (fun _ => rfl) (zAc (by decide +kernel : sA 810 9 63) (by omega)) (r_aload_n 0 dX10_init_207 rfl rfl (r_bipush (49) dX10_init_208 rfl (r_newarr (C := 5) (S := 182) (t := 20) (N := 49) (at_ := .int) (M := mX10_init) dX10_init_210 rfl (by decide) ac_int (by decide) rfl (by decide) (by decide +kernel : sA 835 20 49).2.2 (zt (by decide +kernel : sA 835 20 49)) (wI_z0 (by omega) (hm (835) (by omega))) (c_putR dX10_init_212 fp_X10_87_X10 (fun _ => rfl) (zAc (by decide +kernel : sA 810 9 63) (by omega)) (r_aload_n 0 dX10_init_215 rfl rfl (r_bipush (7) dX10_init_216 rfl (r_newarr (C := 4) (S := 175) (t := 20) (N := 7) (at_ := .int) (M := mX10_init) dX10_init_218 rfl (by decide) ac_int (by decide) rfl (by decide) (by decide +kernel : sA 836 20 7).2.2 (zt (by decide +kernel : sA 836 20 7)) (wI_z0 (by omega) (hm (836) (by omega))) (c_putR dX10_init_220 fp_X10_90_X10 (fun _ => rfl) (zAc (by decide +kernel : sA 810 9 63) (by omega)) (r_aload_n 0 dX10_init_223 rfl rfl (r_bipush (7) dX10_init_224 rfl (r_newarr (C := 3) (S := 168) (t := 20) (N := 7) (at_ := .int) (M := mX10_init) dX10_init_226 rfl (by decide) ac_int (by decide) rfl (by decide) (by decide +kernel : sA 837 20 7).2.2 (zt (by decide +kernel : sA 837 20 7)) (wI_z0 (by omega) (hm (837) (by omega))) (c_putR dX10_init_228 fp_X10_93_X10 (fun _ => rfl) (zAc (by decide +kernel : sA 810 9 63) (by omega)) (r_aload_n 0 dX10_init_231 rfl rfl (r_bipush (7) dX10_init_232 rfl (r_newarr (C := 2) (S := 161) (t := 20) (N := 7) (at_ := .int) (M := mX10_init) dX10_init_234 rfl (by decide) ac_int (by decide) rfl (by decide) (by decide +kernel : sA 838 20 7).2.2 (zt (by decide +kernel : sA 838 20 7)) (wI_z0 (by omega) (hm (838) (by omega))) (c_putR dX10_init_236 fp_X10_96_X10 (fun _ => rfl) (zAc (by decide +kernel : sA 810 9 63) (by omega)) (r_aload_n 0 dX10_init_239 rfl rfl (r_bipush (7) dX10_init_240 rfl (r_newarr (C := 1) (S := 154) (t := 20) (N := 7) (at_ := .int) (M := mX10_init) dX10_init_242 rfl (by decide) ac_int (by decide) rfl (by decide) (by decide +kernel : sA 839 20 7).2.2 (zt (by decide +kernel : sA 839 20 7)) (wI_z0 (by omega) (hm (839) (by omega))) (c_putR dX10_init_244 fp_X10_99_X10 (fun _ => rfl) (zAc (by decide +kernel : sA 810 9 63) (by omega)) (r_aload_n 0 dX10_init_247 rfl rfl (r_sipush (154) dX10_init_248 rfl (r_newarr (C := 0) (S := 0) (t := 20) (N := 154) (at_ := .int) (M := mX10_init) dX10_init_251 rfl (by decide) ac_int (by decide) rfl (by decide) (by decide +kernel : sA 840 20 154).2.2 (zt (by decide +kernel : sA 840 20 154)) (wI_z0 (by omega) (hm (840) (by omega))) (c_putR dX10_init_253 fp_X10_102_X10 (fun _ => rfl) (zAc (by decide +kernel : sA 810 9 63) (by omega)) (r_iconst (0) dX10_init_256 rfl (r_istore_n 1 dX10_init_257 rfl (Nat.le_of_ble_eq_true rfl) rfl (r_iload_n 1 dX10_init_258 rfl rfl (r_iconst (3) dX10_init_259 rfl (r_icmp_ge 279 dX10_init_260 rfl (fun hn => absurd hn (by decide)) (fun _ => (r_aload_n 0 dX10_init_263 rfl rfl (c_getR dX10_init_264 fl_X10_13_X10 (zAc (by decide +kernel : sA 810 9 63) (by omega)) (Eq.trans (zu_ne (a := 810) (k := 61) (b := 810) (j := 4) (by decide)) (Eq.trans (zu_ne (a := 810) (k := 60) (b := 810) (j := 4) (by decide)) (Eq.trans (zu_ne (a := 810) (k := 55) (b := 810) (j := 4) (by decide)) (Eq.trans (zu_ne (a := 810) (k := 54) (b := 810) (j := 4) (by decide)) (Eq.trans (zu_ne (a := 810) (k := 53) (b := 810) (j := 4) (by decide)) (Eq.trans (zu_ne (a := 810) (k := 52) (b := 810) (j := 4) (by decide)) (Eq.trans (zu_ne (a := 810) (k := 51) (b := 810) (j := 4) (by decide)) (Eq.trans (zu_ne (a := 810) (k := 48) (b := 810) (j := 4) (by decide)) (Eq.trans (zu_ne (a := 810) (k := 47) (b := 810) (j := 4) (by decide)) (Eq.trans (zu_ne (a := 810) (k := 46) (b := 810) (j := 4) (by decide)) (Eq.trans (zu_ne (a := 810) (k := 45) (b := 810) (j := 4) (by decide)) (Eq.trans (zu_ne (a := 810) (k := 43) (b := 810) (j := 4) (by decide)) (Eq.trans (zu_ne (a := 810) (k := 39) (b := 810) (j := 4) (by decide)) (Eq.trans (zu_ne (a := 810) (k := 38) (b := 810) (j := 4) (by decide)) (Eq.trans (zu_ne (a := 810) (k := 37) (b := 810) (j := 4) (by decide)) (Eq.trans (zu_ne (a := 810) (k := 36) (b := 810) (j := 4) (by decide)) (Eq.trans (zu_ne (a := 810) (k := 34) (b := 810) (j := 4) (by decide)) (Eq.trans (zu_ne (a := 810) (k := 29) (b := 810) (j := 4) (by decide)) (Eq.trans (zu_ne (a := 810) (k := 28) (b := 810) (j := 4) (by decide)) (Eq.trans (zu_ne (a := 810) (k := 27) (b := 810) (j := 4) (by decide)) (Eq.trans (zu_ne (a := 810) (k := 26) (b := 810) (j := 4) (by decide)) (Eq.trans (zu_ne (a := 810) (k := 24) (b := 810) (j := 4) (by decide)) (Eq.trans (zu_ne (a := 810) (k := 23) (b := 810) (j := 4) (by decide)) (Eq.trans (zu_ne (a := 810) (k := 22) (b := 810) (j := 4) (by decide)) (Eq.trans (zu_ne (a := 810) (k := 19) (b := 810) (j := 4) (by decide)) (Eq.trans (zu_ne (a := 810) (k := 9) (b := 810) (j := 4) (by decide)) (Eq.trans (zu_ne (a := 810) (k := 8) (b := 810) (j := 4) (by decide)) (Eq.trans (zu_ne (a := 810) (k := 7) (b := 810) (j := 4) (by decide)) (Eq.trans (zu_ne (a := 810) (k := 5) (b := 810) (j := 4) (by decide)) (zu_eq)))))))))))))))))))))))))))))) (r_bipush (57) dX10_init_267 rfl (r_iload_n 1 dX10_init_269 rfl rfl (r_imul dX10_init_270 (r_iconst (1) dX10_init_271 rfl (c_iastore 0 dX10_init_272 (zAc (by decide +kernel : sA 811 20 171) (by omega)) (z_lit rfl) rfl (r_iinc 1 (1) dX10_init_273 rfl rfl (Nat.le_of_ble_eq_true rfl) rfl (r_goto 258 dX10_init_276 rfl (r_iload_n 1 dX10_init_258 rfl rfl (r_iconst (3) dX10_init_259 rfl (r_icmp_ge 279 dX10_init_260 rfl (fun hn => absurd hn (by decide)) (fun _ => (r_aload_n 0 dX10_init_263 rfl rfl (c_getR dX10_init_264 fl_X10_13_X10 (zAc (by decide +kernel : sA 810 9 63) (by omega)) (Eq.trans (zu_ne (a := 810) (k := 61) (b := 810) (j := 4) (by decide)) (Eq.trans (zu_ne (a := 810) (k := 60) (b := 810) (j := 4) (by decide)) (Eq.trans (zu_ne (a := 810) (k := 55) (b := 810) (j := 4) (by decide)) (Eq.trans (zu_ne (a := 810) (k := 54) (b := 810) (j := 4) (by decide)) (Eq.trans (zu_ne (a := 810) (k := 53) (b := 810) (j := 4) (by decide)) (Eq.trans (zu_ne (a := 810) (k := 52) (b := 810) (j := 4) (by decide)) (Eq.trans (zu_ne (a := 810) (k := 51) (b := 810) (j := 4) (by decide)) (Eq.trans (zu_ne (a := 810) (k := 48) (b := 810) (j := 4) (by decide)) (Eq.trans (zu_ne (a := 810) (k := 47) (b := 810) (j := 4) (by decide)) (Eq.trans (zu_ne (a := 810) (k := 46) (b := 810) (j := 4) (by decide)) (Eq.trans (zu_ne (a := 810) (k := 45) (b := 810) (j := 4) (by decide)) (Eq.trans (zu_ne (a := 810) (k := 43) (b := 810) (j := 4) (by decide)) (Eq.trans (zu_ne (a := 810) (k := 39) (b := 810) (j := 4) (by decide)) (Eq.trans (zu_ne (a := 810) (k := 38) (b := 810) (j := 4) (by decide)) (Eq.trans (zu_ne (a := 810) (k := 37) (b := 810) (j := 4) (by decide)) (Eq.trans (zu_ne (a := 810) (k := 36) (b := 810) (j := 4) (by decide)) (Eq.trans (zu_ne (a := 810) (k := 34) (b := 810) (j := 4) (by decide)) (Eq.trans (zu_ne (a := 810) (k := 29) (b := 810) (j := 4) (by decide)) (Eq.trans (zu_ne (a := 810) (k := 28) (b := 810) (j := 4) (by decide)) (Eq.trans (zu_ne (a := 810) (k := 27) (b := 810) (j := 4) (by decide)) (Eq.trans (zu_ne (a := 810) (k := 26) (b := 810) (j := 4) (by decide)) (Eq.trans (zu_ne (a := 810) (k := 24) (b := 810) (j := 4) (by decide)) (Eq.trans (zu_ne (a := 810) (k := 23) (b := 810) (j := 4) (by decide)) (Eq.trans (zu_ne (a := 810) (k := 22) (b := 810) (j := 4) (by decide)) (Eq.trans (zu_ne (a := 810) (k := 19) (b := 810) (j := 4) (by decide)) (Eq.trans (zu_ne (a := 810) (k := 9) (b := 810) (j := 4) (by decide)) (Eq.trans (zu_ne (a := 810) (k := 8) (b := 810) (j := 4) (by decide)) (Eq.trans (zu_ne (a := 810) (k := 7) (b := 810) (j := 4) (by decide)) (Eq.trans (zu_ne (a := 810) (k := 5) (b := 810) (j := 4) (by decide)) (zu_eq)))))))))))))))))))))))))))))) (r_bipush (57) dX10_init_267 rfl (r_iload_n 1 dX10_init_269 rfl rfl (r_imul dX10_init_270 (r_iconst (1) dX10_init_271 rfl (c_iastore 57 dX10_init_272 (zAc (by decide +kernel : sA 811 20 171) (by omega)) (z_lit rfl) rfl (r_iinc 1 (1) dX10_init_273 rfl rfl (Nat.le_of_ble_eq_true rfl) rfl (r_goto 258 dX10_init_276 rfl (r_iload_n 1 dX10_init_258 rfl rfl (r_iconst (3) dX10_init_259 rfl (r_icmp_ge 279 dX10_init_260 rfl (fun hn => absurd hn (by decide)) (fun _ => (r_aload_n 0 dX10_init_263 rfl rfl (c_getR dX10_init_264 fl_X10_13_X10 (zAc (by decide +kernel : sA 810 9 63) (by omega)) (Eq.trans (zu_ne (a := 810) (k := 61) (b := 810) (j := 4) (by decide)) (Eq.trans (zu_ne (a := 810) (k := 60) (b := 810) (j := 4) (by decide)) (Eq.trans (zu_ne (a := 810) (k := 55) (b := 810) (j := 4) (by decide)) (Eq.trans (zu_ne (a := 810) (k := 54) (b := 810) (j := 4) (by decide)) (Eq.trans (zu_ne (a := 810) (k := 53) (b := 810) (j := 4) (by decide)) (Eq.trans (zu_ne (a := 810) (k := 52) (b := 810) (j := 4) (by decide)) (Eq.trans (zu_ne (a := 810) (k := 51) (b := 810) (j := 4) (by decide)) (Eq.trans (zu_ne (a := 810) (k := 48) (b := 810) (j := 4) (by decide)) (Eq.trans (zu_ne (a := 810) (k := 47) (b := 810) (j := 4) (by decide)) (Eq.trans (zu_ne (a := 810) (k := 46) (b := 810) (j := 4) (by decide)) (Eq.trans (zu_ne (a := 810) (k := 45) (b := 810) (j := 4) (by decide)) (Eq.trans (zu_ne (a := 810) (k := 43) (b := 810) (j := 4) (by decide)) (Eq.trans (zu_ne (a := 810) (k := 39) (b := 810) (j := 4) (by decide)) (Eq.trans (zu_ne (a := 810) (k := 38) (b := 810) (j := 4) (by decide)) (Eq.trans (zu_ne (a := 810) (k := 37) (b := 810) (j := 4) (by decide)) (Eq.trans (zu_ne (a := 810) (k := 36) (b := 810) (j := 4) (by decide)) (Eq.trans (zu_ne (a := 810) (k := 34) (b := 810) (j := 4) (by decide)) (Eq.trans (zu_ne (a := 810) (k := 29) (b := 810) (j := 4) (by decide)) (Eq.trans (zu_ne (a := 810) (k := 28) (b := 810) (j := 4) (by decide)) (Eq.trans (zu_ne (a := 810) (k := 27) (b := 810) (j := 4) (by decide)) (Eq.trans (zu_ne (a := 810) (k := 26) (b := 810) (j := 4) (by decide)) (Eq.trans (zu_ne (a := 810) (k := 24) (b := 810) (j := 4) (by decide)) (Eq.trans (zu_ne (a := 810) (k := 23) (b := 810) (j := 4) (by decide)) (Eq.trans (zu_ne (a := 810) (k := 22) (b := 810) (j := 4) (by decide)) (Eq.trans (zu_ne (a := 810) (k := 19) (b := 810) (j := 4) (by decide)) (Eq.trans (zu_ne (a := 810) (k := 9) (b := 810) (j := 4) (by decide)) (Eq.trans (zu_ne (a := 810) (k := 8) (b := 810) (j := 4) (by decide)) (Eq.trans (zu_ne (a := 810) (k := 7) (b := 810) (j := 4) (by decide)) (Eq.trans (zu_ne (a := 810) (k := 5) (b := 810) (j := 4) (by decide)) (zu_eq)))))))))))))))))))))))))))))) (r_bipush (57) dX10_init_267 rfl (r_iload_n 1 dX10_init_269 rfl rfl (r_imul dX10_init_270 (r_iconst (1) dX10_init_271 rfl (c_iastore 114 dX10_init_272 (zAc (by decide +kernel : sA 811 20 171) (by omega)) (z_lit rfl) rfl (r_iinc 1 (1) dX10_init_273 rfl rfl (Nat.le_of_ble_eq_true rfl) rfl (r_goto 258 dX10_init_276 rfl (r_iload_n 1 dX10_init_258 rfl rfl (r_iconst (3) dX10_init_259 rfl (r_icmp_ge 279 dX10_init_260 rfl (fun _ => (r_commit (m := wI (wI (wI (wI (m) (810) 2 (-1 : Int32)) (811) 0 (1 : Int32)) (811) 57 (1 : Int32)) (811) 114 (1 : Int32)) (R := z_u (z_u (z_u (z_u (z_u (z_u (z_u (z_u (z_u (z_u (z_u (z_u (z_u (z_u (z_u (z_u (z_u (z_u (z_u (z_u (z_u (z_u (z_u (z_u (z_u (z_u (z_u (z_u (z_u (z_u (R) (810) 4 (some (811))) (810) 5 (some (812))) (810) 7 (some (813))) (810) 8 (some (814))) (810) 9 (some (815))) (810) 19 (some (816))) (810) 22 (some (817))) (810) 23 (some (818))) (810) 24 (some (819))) (810) 26 (some (820))) (810) 27 (some (821))) (810) 28 (some (822))) (810) 29 (some (823))) (810) 34 (some (824))) (810) 36 (some (825))) (810) 37 (some (826))) (810) 38 (some (827))) (810) 39 (some (828))) (810) 43 (some (829))) (810) 45 (some (830))) (810) 46 (some (831))) (810) 47 (some (832))) (810) 48 (some (833))) (810) 51 (some (834))) (810) 52 (some (835))) (810) 53 (some (836))) (810) 54 (some (837))) (810) 55 (some (838))) (810) 60 (some (839))) (810) 61 (some (840))) (R' := RA R (810) (841)) (cR_X10 hR hm) (fun a q0 q1 q2 => z_okT_ok a q0 (by omega) q2) (r_same (m := wI (wI (wI (wI (m) (810) 2 (-1 : Int32)) (811) 0 (1 : Int32)) (811) 57 (1 : Int32)) (811) 114 (1 : Int32)) (m' := mA m (810) (841)) (cM_X10 hR hm) (r_vret dX10_init_279 rfl H)))) (fun hn => absurd (by decide) hn))))))))))))))))))))))))))))))))))))))))))))))))))))))))))))))))))))))))))))))))))))))))))))))))))))))))))))))))))))))))))))))))))))))))))))))))))))))))))))))))))))))))))
