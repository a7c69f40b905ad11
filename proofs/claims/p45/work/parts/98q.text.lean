/-! text(): its walk -/
section ZText
variable {g : zG} {d pc : Nat} {ls st : List Value} {h : zH} {Q : Option Value → zH → Prop} {m : zm} {a0 t : Nat} {L : List Nat}
/-- a small text appended that is made of a blank and a digit -/
theorem t_temp {k : Nat} (i : tI m a0 t h L) (ht : t + 5 < 600) (hk : k < 10) (hL : L.length + 2 ≤ 300) (hl9 : ls[9]? = some (.int (nI k))) (K : ∀ h', tI m a0 (t + 5) h' (L ++ [32, 48 + k]) → WT g d (t + 5) 248 ls [.ref 811] h' Q) : WT g d t 225 ls [.ref 811] h Q := by
  obtain ⟨y, n, a, s, ag, h1, h2⟩ := i
  have hzt : z_top = 1000000 := rfl
  have hx := s.2.2.2.1.2.1
  have hyz := s.2.2.2.2.2.2.2.1.2.1
  have hy8 := s.2.2.1.2.1
  refine WP_mono (C := (B1 (t + 5) + 7) + 1) (S := (B2 (t + 5) + 3400) + 4) (by unfold B1; omega) (by unfold B2; omega) ?_
  refine r_newG dL_text_225 nw_L_32 ag.1 (by omega) ?_
  refine r_dup dL_text_228 rfl ?_
  refine r_callI (d := d + 11) (C1 := 1) (S1 := 600) (C2 := B1 (t + 5) + 6) (S2 := B2 (t + 5) + 2800) [] [.ref (z_z h), .ref 811] 0 dL_text_229 lk_L_61 md_J4_init_da8c8 rfl rfl (Nat.le_of_ble_eq_true rfl) (by omega) (by omega) (u_sbInit (by omega) (hnew_isA ag.1) ag.1 (by rw [hnew_I, if_pos rfl]) (by rw [hnew_z]; omega) (by rw [hnew_z]; omega) (fun h2 y2 s2 k2 => ?_))
  have e2 := k2.2.1
  have e2' := k2.2.2.1
  have y2z := s2.2.2.2.2.2.2.2.1.2.1
  rw [hnew_z] at e2 e2'
  have m2 := sBx_hkp (sBx_new s (t := 11) (m := 4)) k2 (by omega) (by omega) (by omega) (by omega)
  have g2 := zag_hkp (zag_new (u := 11) (n := 4) ag) k2 ag.1 ag.1
  refine r_ldcS (i := 10) (by decide) rfl dL_text_232 ?_
  refine r_callV (d := d + 11) (C1 := 1) (S1 := 600) (C2 := B1 (t + 5) + 5) (S2 := B2 (t + 5) + 2200) [.ref (z_top + 10)] [.ref 811] 1 dL_text_234 lk_L_45 md_J4_append_15ec4 (ci := 11) rfl rfl (by decide) s2.2.2.2.1 rfl rfl (Nat.le_of_ble_eq_true rfl) (by omega) (by omega) (u_appS (by omega) s2 (tS_con (i := 10) (by decide)) (by omega) (by decide) g2.1 (by omega) (fun h3 y3 n3 s3 k3 => ?_))
  have e3 := k3.2.1
  have e3' := k3.2.2.1
  have e3z := k3.1
  have m3 := sBx_hkp m2 k3 (by omega) (by omega) (by omega) (by omega)
  have g3 := zag_hkp g2 k3 ag.1 (by omega)
  refine r_iload dL_text_237 hl9 ?_
  refine r_callV (d := d + 11) (C1 := 1) (S1 := 600) (C2 := B1 (t + 5) + 4) (S2 := B2 (t + 5) + 1600) [.int (nI k)] [.ref 811] 1 dL_text_239 lk_L_39 md_J4_append_bf812 (ci := 11) rfl rfl (by decide) s3.2.2.2.1 rfl rfl (Nat.le_of_ble_eq_true rfl) (by omega) (by omega) (u_appI (by omega) s3 hk (by rw [List.nil_append]; exact (show (tC 10).length + 1 ≤ 300 by decide)) g3.1 (by omega) (fun h4 y4 n4 s4 k4 => ?_))
  have e4 := k4.2.1
  have e4' := k4.2.2.1
  have e4z := k4.1
  have m4 := sBx_hkp m3 k4 (by omega) (by omega) (by omega) (by omega)
  have g4 := zag_hkp g3 k4 ag.1 (by omega)
  refine r_callV (d := d + 11) (C1 := 1 + 1) (S1 := 600 + 4) (C2 := B1 (t + 5) + 2) (S2 := B2 (t + 5) + 996) [] [.ref 811] 0 dL_text_242 lk_L_53 md_J4_toString_0e30d (ci := 11) rfl rfl (by decide) s4.2.2.2.1 rfl rfl (Nat.le_of_ble_eq_true rfl) (by omega) (by omega) (u_toString (by omega) s4 g4.1 (by omega) (fun h5 t5 k5 => ?_))
  have e5 := k5.2.1
  have m5 := sBx_keep m4 k5
  have g5 := zag_keep g4 k5
  have el : ([] ++ tC 10) ++ [48 + k] = [32, 48 + k] := rfl
  rw [el] at t5
  refine r_callV (d := d + 11) (C1 := 1) (S1 := 600) (C2 := B1 (t + 5) + 1) (S2 := B2 (t + 5) + 396) [.ref (z_z h4)] [] 1 dL_text_245 lk_L_45 md_J4_append_15ec4 (ci := 11) rfl rfl (by decide) m5.2.2.2.1 rfl rfl (Nat.le_of_ble_eq_true rfl) (by omega) (by omega) (u_appS (by omega) m5 t5 (by omega) hL g5.1 (by omega) (fun h6 y6 n6 s6 k6 => ?_))
  exact WP_mono (by omega) (by omega) (K _ ⟨y6, n6, a, s6, zag_hkp g5 k6 (Nat.le_refl _) hy8, by omega, by have := k6.2.1; omega⟩)
/-- what a text that was drawn is -/
def TP (n : Nat) (L : List Nat) : Prop := 2 ≤ n ∧ n ≤ 6 ∧ L.length ≤ 300 ∧ (∀ c ∈ L, c < 128) ∧ ∀ b : Nat → Nat, (∀ i, i < L.length → b i = L.getD i 0) → ∃ τ, rAll b L.length = .inr τ ∧ gn (s_G τ) = n
theorem t_fin {n : Nat} (i : tI m a0 t h L) (ht : t < 600) (hT : 2 ≤ n ∧ n ≤ 6 ∧ L.length ≤ 300 ∧ ∀ b : Nat → Nat, (∀ i, i < L.length → b i = L.getD i 0) → ∃ τ, rAll b L.length = .inr τ ∧ gn (s_G τ) = n) (hd : decode cL_text pc = .ok (.invokevirtual 53, 3)) (hd2 : decode cL_text (pc + 3) = .ok (.areturn, 1)) (K : ∀ h s L n a, TP n L → tS h s (s + 1) L → 811 ≤ s → zag h (wI m 810 1 (nI a)) → a ≤ a0 + 600 → z_z h ≤ 3000 → Q (some (.ref s)) h) : WT g d t pc ls [.ref 811] h Q := by
  obtain ⟨y, nn, a, s, ag, h1, h2⟩ := i
  have hzt : z_top = 1000000 := rfl
  refine r_callV (d := d + 11) (C1 := 1 + 1) (S1 := 600 + 4) (C2 := B1 t - 2) (S2 := B2 t - 604) [] [] 0 hd lk_L_53 md_J4_toString_0e30d (ci := 11) rfl rfl (by decide) s.2.2.2.1 rfl rfl (Nat.le_of_ble_eq_true rfl) (by unfold B1; omega) (by unfold B2; omega) (u_toString (by omega) s ag.1 (by omega) (fun h5 t5 k5 => ?_))
  exact r_aret hd2 rfl (K h5 _ L n a ⟨hT.1, hT.2.1, hT.2.2.1, s.1, hT.2.2.2⟩ t5 ag.1 (zag_keep ag k5) (by omega) (by have := k5.2.1; omega))
def pd (a : Nat) : Nat := [0, 5, 9, 12, 14, 15, 15].getD a 15
theorem pd_step : ∀ a, a < 6 → pd (a + 1) = pd a + (5 - a) ∧ pd (a + 1) ≤ 15 := by decide

theorem t_ring {n thick kinds colours : Nat} (hn : 2 ≤ n ∧ n ≤ 6) (hth : 1 ≤ thick ∧ thick ≤ 3) (hki : 1 ≤ kinds ∧ kinds ≤ 3) (hco : colours ≤ 2) (hN : g_N g < 2 ^ 31) (ha : a0 + 700 < 2 ^ 31) (K : ∀ h s L n a, TP n L → tS h s (s + 1) L → 811 ≤ s → zag h (wI m 810 1 (nI a)) → a ≤ a0 + 600 → z_z h ≤ 3000 → Q (some (.ref s)) h) {L : List Nat} (hL : L.length ≤ 66) (h3 : 3 ≤ n) (hT : tPP n L (Zp n)) : ∀ v, v ≤ n → ∀ h, tI m a0 (60 + 2 * v) h (L ++ (wRing0 ++ wRing v)) → WT g d (60 + 2 * v) 122 [.ref 810, .int (nI 6), .int (nI n), .int (nI thick), .int (nI kinds), .int (nI colours), .ref 811, .int (nI v), .retAddr 0, .retAddr 0] [] h Q := by
  have hlen : ∀ v, (L ++ (wRing0 ++ wRing v)).length = L.length + (5 + 2 * v) := fun v => by rw [List.length_append, List.length_append, wRing_len]; rfl
  refine up_to ?_ ?_
  · intro h i
    refine r_iload dL_text_122 rfl ?_
    refine r_iload_n 2 dL_text_124 rfl rfl ?_
    refine r_icmp_ge 147 dL_text_125 rfl (fun _ => ?_) (fun q => absurd (Int32.le_refl _) q)
    refine r_aload dL_text_147 rfl ?_
    refine t_fin i (by omega) ⟨hn.1, hn.2, by rw [hlen]; omega, fun b hb => ?_⟩ dL_text_149 dL_text_152 K
    exact tPP_ring hT (by omega) h3 (by omega) hb
  · intro v hv ih h i
    refine r_iload dL_text_122 rfl ?_
    refine r_iload_n 2 dL_text_124 rfl rfl ?_
    refine r_icmp_ge 147 dL_text_125 rfl (fun q => absurd q (nI_ge hv (by omega))) (fun _ => ?_)
    refine r_aload dL_text_128 rfl ?_
    refine r_bipush (nI 32) dL_text_130 rfl ?_
    refine t_appC i (by omega) (by rw [hlen]; omega) (by decide) dL_text_132 (Nat.le_of_ble_eq_true rfl) (fun h2 i2 => ?_)
    refine r_iload dL_text_135 rfl ?_
    refine t_appI i2 (by omega) (by rw [List.length_append, hlen]; simp only [List.length_singleton]; omega) (by omega) dL_text_137 (Nat.le_of_ble_eq_true rfl) (fun h3 i3 => ?_)
    refine r_pop dL_text_140 rfl ?_
    refine r_iinc 7 (nI 1) dL_text_141 rfl rfl (Nat.le_of_ble_eq_true rfl) rfl ?_
    rw [nI_add]
    refine r_goto 122 dL_text_144 rfl ?_
    have eL : ((L ++ (wRing0 ++ wRing v)) ++ [32]) ++ [48 + v] = L ++ (wRing0 ++ wRing (v + 1)) := by
      show _ = L ++ (wRing0 ++ (wRing v ++ [32, 48 + v]))
      simp only [List.append_assoc]
      rfl
    rw [eL] at i3
    exact ih h3 i3

theorem t_inner {n thick kinds colours : Nat} (hn : 2 ≤ n ∧ n ≤ 6) (hth : 1 ≤ thick ∧ thick ≤ 3) (hki : 1 ≤ kinds ∧ kinds ≤ 3) (hco : colours ≤ 2) (hN : g_N g < 2 ^ 31) (ha : a0 + 700 < 2 ^ 31) (K : ∀ h s L n a, TP n L → tS h s (s + 1) L → 811 ≤ s → zag h (wI m 810 1 (nI a)) → a ≤ a0 + 600 → z_z h ≤ 3000 → Q (some (.ref s)) h) {a : Nat} (haN : a < n) (OUT : ∀ h L, tI m a0 (62 + 12 * (6 * a + n)) h L → L.length ≤ 66 + 11 * pd (a + 1) → tPP n L (Zl (a + 1) (a + 2)) → WT g d (62 + 12 * (6 * a + n)) 255 [.ref 810, .int (nI 6), .int (nI n), .int (nI thick), .int (nI kinds), .int (nI colours), .ref 811, .int (nI a), .retAddr 0, .retAddr 0] [] h Q) : ∀ c, c ≤ n → a < c → ∀ h L, tI m a0 (62 + 12 * (6 * a + c)) h L → L.length ≤ 66 + 11 * (pd a + (c - a - 1)) → tPP n L (Zl a c) → WT g d (62 + 12 * (6 * a + c)) 168 [.ref 810, .int (nI 6), .int (nI n), .int (nI thick), .int (nI kinds), .int (nI colours), .ref 811, .int (nI a), .int (nI c), .retAddr 0] [] h Q := by
  have hpd := pd_step a (by omega)
  refine up_to ?_ ?_
  · intro hac h L i hL hT
    refine r_iload dL_text_168 rfl ?_
    refine r_iload_n 2 dL_text_170 rfl rfl ?_
    refine r_icmp_ge 255 dL_text_171 rfl (fun _ => ?_) (fun q => absurd (Int32.le_refl _) q)
    refine r_forget [true, true, true, true, true, true, true, true, false, false] rfl ?_
    exact OUT h L i (by omega) (tPP_mono hT (fun G P z => Zl_next z))
  · intro c hc ih hac h L i hL hT
    have ih2 : ∀ h L, tI m a0 (62 + 12 * (6 * a + (c + 1))) h L → L.length ≤ 66 + 11 * (pd a + (c + 1 - a - 1)) → tPP n L (Zl a (c + 1)) → ∀ k, WT g d (62 + 12 * (6 * a + (c + 1))) 249 [.ref 810, .int (nI 6), .int (nI n), .int (nI thick), .int (nI kinds), .int (nI colours), .ref 811, .int (nI a), .int (nI c), .int k] [] h Q := fun h L i hL hT k => by
      refine r_iinc 8 (nI 1) dL_text_249 rfl rfl (Nat.le_of_ble_eq_true rfl) rfl ?_
      rw [nI_add]
      refine r_goto 168 dL_text_252 rfl ?_
      refine r_forget [true, true, true, true, true, true, true, true, true, false] rfl ?_
      exact ih (by omega) h L i hL hT
    refine r_iload dL_text_168 rfl ?_
    refine r_iload_n 2 dL_text_170 rfl rfl ?_
    refine r_icmp_ge 255 dL_text_171 rfl (fun q => absurd q (nI_ge hc (by omega))) (fun _ => ?_)
    refine r_aload_n 0 dL_text_174 rfl rfl ?_
    refine r_iconst (nI 1) dL_text_175 rfl ?_
    refine r_iload dL_text_176 rfl ?_
    refine t_draw i hN (by omega) hki.1 (by omega) dL_text_178 (Nat.le_of_ble_eq_true rfl) (fun h1 k i1 k1 k2 => ?_)
    refine r_istore dL_text_181 (Nat.le_of_ble_eq_true rfl) rfl ?_
    refine r_aload_n 0 dL_text_183 rfl rfl ?_
    refine r_iconst (nI 0) dL_text_184 rfl ?_
    refine r_iload_n 3 dL_text_185 rfl rfl ?_
    refine t_draw i1 hN (by omega) (Nat.zero_le _) (by omega) dL_text_186 (Nat.le_of_ble_eq_true rfl) (fun h2 u i2 u1 u2 => ?_)
    refine r_if_ne 249 dL_text_189 rfl (fun _ => WT_le (by omega) (ih2 h2 L (tI_le i2 (by omega)) (by omega) (tPP_mono hT (fun G P z x y hxy hz => z x y hxy (by omega))) _)) (fun _ => ?_)
    have hp15 : pd a + (c - a - 1) ≤ 14 := by omega
    refine r_aload dL_text_192 rfl ?_
    refine r_ldcS (i := 8) (by decide) rfl dL_text_194 ?_
    refine t_appK i2 (by omega) (by decide) (by rw [show (tC 8).length = 6 from rfl]; omega) dL_text_196 (Nat.le_of_ble_eq_true rfl) (fun h3 i3 => ?_)
    refine r_iload dL_text_199 rfl ?_
    refine t_appI i3 (by omega) (by simp only [List.length_append, List.length_singleton, show (tC 8).length = 6 from rfl]; omega) (by omega) dL_text_201 (Nat.le_of_ble_eq_true rfl) (fun h4 i4 => ?_)
    refine r_bipush (nI 32) dL_text_204 rfl ?_
    refine t_appC i4 (by omega) (by simp only [List.length_append, List.length_singleton, show (tC 8).length = 6 from rfl]; omega) (by decide) dL_text_206 (Nat.le_of_ble_eq_true rfl) (fun h5 i5 => ?_)
    refine r_iload dL_text_209 rfl ?_
    refine t_appI i5 (by omega) (by simp only [List.length_append, List.length_singleton, show (tC 8).length = 6 from rfl]; omega) (by omega) dL_text_211 (Nat.le_of_ble_eq_true rfl) (fun h6 i6 => ?_)
    have eL : (((L ++ tC 8) ++ [48 + a]) ++ [32]) ++ [48 + c] = L ++ wLink a c := by
      simp only [List.append_assoc]
      rfl
    rw [eL] at i6
    have hl6 : (L ++ wLink a c).length = L.length + 9 := by rw [List.length_append]; rfl
    have hT2 := tPP_link hT (by omega) hac hc (by omega) (k := k) (by omega)
    refine r_iload dL_text_214 rfl ?_
    refine r_iconst (nI 1) dL_text_216 rfl ?_
    refine r_icmp_ne 225 dL_text_217 rfl (fun z => ?_) (fun z => ?_)
    · have hk1 : k ≠ 1 := fun e => z (by rw [e])
      refine t_temp i6 (by omega) (by omega) (by omega) rfl (fun h7 i7 => ?_)
      refine r_pop dL_text_248 rfl ?_
      have eK : wKind k = [32, 48 + k] := if_neg hk1
      rw [eK, ← List.append_assoc] at hT2
      exact WT_le (by omega) (ih2 h7 _ (tI_le i7 (by omega)) (by rw [List.length_append, hl6]; simp only [List.length_cons, List.length_nil]; omega) hT2 _)
    · have hk1 : k = 1 := (nI_eq (by omega) (by decide)).mp z
      subst hk1
      refine r_ldcS (i := 9) (by decide) rfl dL_text_220 ?_
      refine r_goto 245 dL_text_222 rfl ?_
      refine t_appK i6 (by omega) (by decide) (by rw [hl6, show (tC 9).length = 0 from rfl]; omega) dL_text_245 (Nat.le_of_ble_eq_true rfl) (fun h7 i7 => ?_)
      refine r_pop dL_text_248 rfl ?_
      rw [show tC 9 = [] from rfl, List.append_nil] at i7
      rw [show wKind 1 = [] from rfl, List.append_nil] at hT2
      exact WT_le (by omega) (ih2 h7 _ (tI_le i7 (by omega)) (by rw [hl6]; omega) hT2 _)

theorem t_outer {n thick kinds colours : Nat} (hn : 2 ≤ n ∧ n ≤ 6) (hth : 1 ≤ thick ∧ thick ≤ 3) (hki : 1 ≤ kinds ∧ kinds ≤ 3) (hco : colours ≤ 2) (hN : g_N g < 2 ^ 31) (ha : a0 + 700 < 2 ^ 31) (K : ∀ h s L n a, TP n L → tS h s (s + 1) L → 811 ≤ s → zag h (wI m 810 1 (nI a)) → a ≤ a0 + 600 → z_z h ≤ 3000 → Q (some (.ref s)) h) : ∀ a, a ≤ n → ∀ h L, tI m a0 (62 + 12 * (6 * a + a + 1)) h L → L.length ≤ 66 + 11 * pd a → tPP n L (Zl a (a + 1)) → WT g d (62 + 12 * (6 * a + a + 1)) 156 [.ref 810, .int (nI 6), .int (nI n), .int (nI thick), .int (nI kinds), .int (nI colours), .ref 811, .int (nI a), .retAddr 0, .retAddr 0] [] h Q := by
  refine up_to ?_ ?_
  · intro h L i hL hT
    have hp : pd n ≤ 15 := by have h9 : ∀ a, a ≤ 6 → pd a ≤ 15 := by decide
                              exact h9 n hn.2
    refine r_iload dL_text_156 rfl ?_
    refine r_iload_n 2 dL_text_158 rfl rfl ?_
    refine r_icmp_ge 261 dL_text_159 rfl (fun _ => ?_) (fun q => absurd (Int32.le_refl _) q)
    refine r_aload dL_text_261 rfl ?_
    refine t_fin i (by omega) ⟨hn.1, hn.2, by omega, fun b hb => ?_⟩ dL_text_263 dL_text_266 K
    exact tPP_end hT hb
  · intro a haN ih h L i hL hT
    refine r_iload dL_text_156 rfl ?_
    refine r_iload_n 2 dL_text_158 rfl rfl ?_
    refine r_icmp_ge 261 dL_text_159 rfl (fun q => absurd q (nI_ge haN (by omega))) (fun _ => ?_)
    refine r_iload dL_text_162 rfl ?_
    refine r_iconst (nI 1) dL_text_164 rfl ?_
    refine r_iadd dL_text_165 ?_
    rw [nI_add]
    refine r_istore dL_text_166 (Nat.le_of_ble_eq_true rfl) rfl ?_
    refine t_inner hn hth hki hco hN ha K haN (fun h2 L2 i2 hL2 hT2 => ?_) (a + 1) (by omega) (by omega) h L i (by omega) hT
    refine r_iinc 7 (nI 1) dL_text_255 rfl rfl (Nat.le_of_ble_eq_true rfl) rfl ?_
    rw [nI_add]
    refine r_goto 156 dL_text_258 rfl ?_
    exact WT_le (by omega) (ih h2 L2 (tI_le i2 (by omega)) hL2 hT2)

theorem t_97 {n thick kinds colours : Nat} (hn : 2 ≤ n ∧ n ≤ 6) (hth : 1 ≤ thick ∧ thick ≤ 3) (hki : 1 ≤ kinds ∧ kinds ≤ 3) (hco : colours ≤ 2) (hN : g_N g < 2 ^ 31) (ha : a0 + 700 < 2 ^ 31) (K : ∀ h s L n a, TP n L → tS h s (s + 1) L → 811 ≤ s → zag h (wI m 810 1 (nI a)) → a ≤ a0 + 600 → z_z h ≤ 3000 → Q (some (.ref s)) h) {L : List Nat} (i : tI m a0 (10 + 6 * n) h L) (hL : L.length ≤ 66) (hT : tPP n L (Zp n)) : WT g d (10 + 6 * n) 97 [.ref 810, .int (nI 6), .int (nI n), .int (nI thick), .int (nI kinds), .int (nI colours), .ref 811, .int (nI n), .retAddr 0, .retAddr 0] [] h Q := by
  have L153 : ∀ h, tI m a0 58 h L → ∀ x, WT g d 58 153 [.ref 810, .int (nI 6), .int (nI n), .int (nI thick), .int (nI kinds), .int (nI colours), .ref 811, .int x, .retAddr 0, .retAddr 0] [] h Q := fun h i x => by
    refine r_iconst (nI 0) dL_text_153 rfl ?_
    refine r_istore dL_text_154 (Nat.le_of_ble_eq_true rfl) rfl ?_
    exact WT_le (by omega) (t_outer hn hth hki hco hN ha K 0 (Nat.zero_le _) h L (tI_le i (by omega)) (by have : pd 0 = 0 := rfl; omega) (tPP_mono hT (fun G P z => Zp_l z)))
  refine WT_le (t2 := 46) (by omega) ?_
  have i := tI_le (t2 := 46) i (by omega)
  refine r_iload_n 2 dL_text_97 rfl rfl ?_
  refine r_iconst (nI 2) dL_text_98 rfl ?_
  refine r_icmp_le 153 dL_text_99 rfl (fun _ => WT_le (by omega) (L153 h (tI_le i (by omega)) _)) (fun z => ?_)
  have h3 : 3 ≤ n := by
    rcases Nat.lt_or_ge 2 n with q | q
    · exact q
    · exact absurd (nI_le q (by decide)) z
  refine r_aload_n 0 dL_text_102 rfl rfl ?_
  refine r_iconst (nI 0) dL_text_103 rfl ?_
  refine r_iconst (nI 3) dL_text_104 rfl ?_
  refine t_draw i hN (by omega) (Nat.zero_le _) (by decide) dL_text_105 (Nat.le_of_ble_eq_true rfl) (fun h1 u i1 u1 u2 => ?_)
  refine r_if_ne 153 dL_text_108 rfl (fun _ => WT_le (by omega) (L153 h1 (tI_le i1 (by omega)) _)) (fun _ => ?_)
  refine r_aload dL_text_111 rfl ?_
  refine r_ldcS (i := 7) (by decide) rfl dL_text_113 ?_
  refine t_appK i1 (by omega) (by decide) (by rw [show (tC 7).length = 5 from rfl]; omega) dL_text_115 (Nat.le_of_ble_eq_true rfl) (fun h2 i2 => ?_)
  refine r_pop dL_text_118 rfl ?_
  refine r_iconst (nI 0) dL_text_119 rfl ?_
  refine r_istore dL_text_120 (Nat.le_of_ble_eq_true rfl) rfl ?_
  refine WT_le (t := 46 + 1 + 1) (t2 := 60 + 2 * 0) (by omega) (t_ring hn hth hki hco hN ha K hL h3 hT 0 (Nat.zero_le _) h2 (tI_le (t := 46 + 1 + 1) (show tI m a0 (46 + 1 + 1) h2 (L ++ (wRing0 ++ wRing 0)) from i2) (by omega)))

theorem t_paint {n thick kinds colours : Nat} (hn : 2 ≤ n ∧ n ≤ 6) (hth : 1 ≤ thick ∧ thick ≤ 3) (hki : 1 ≤ kinds ∧ kinds ≤ 3) (hco : colours ≤ 2) (hN : g_N g < 2 ^ 31) (ha : a0 + 700 < 2 ^ 31) (K : ∀ h s L n a, TP n L → tS h s (s + 1) L → 811 ≤ s → zag h (wI m 810 1 (nI a)) → a ≤ a0 + 600 → z_z h ≤ 3000 → Q (some (.ref s)) h) : ∀ v, v ≤ n → ∀ h L, tI m a0 (10 + 6 * v) h L → L.length ≤ 6 + 10 * v → tPP n L (Zp v) → WT g d (10 + 6 * v) 48 [.ref 810, .int (nI 6), .int (nI n), .int (nI thick), .int (nI kinds), .int (nI colours), .ref 811, .int (nI v), .retAddr 0, .retAddr 0] [] h Q := by
  refine up_to ?_ ?_
  · intro h L i hL hT
    refine r_iload dL_text_48 rfl ?_
    refine r_iload_n 2 dL_text_50 rfl rfl ?_
    refine r_icmp_ge 97 dL_text_51 rfl (fun _ => ?_) (fun q => absurd (Int32.le_refl _) q)
    exact t_97 hn hth hki hco hN ha K i (by omega) hT
  · intro v hv ih h L i hL hT
    have ih2 : ∀ h L, tI m a0 (10 + 6 * (v + 1)) h L → L.length ≤ 6 + 10 * (v + 1) → tPP n L (Zp (v + 1)) → WT g d (10 + 6 * (v + 1)) 91 [.ref 810, .int (nI 6), .int (nI n), .int (nI thick), .int (nI kinds), .int (nI colours), .ref 811, .int (nI v), .retAddr 0, .retAddr 0] [] h Q := fun h L i hL hT => by
      refine r_iinc 7 (nI 1) dL_text_91 rfl rfl (Nat.le_of_ble_eq_true rfl) rfl ?_
      rw [nI_add]
      refine r_goto 48 dL_text_94 rfl ?_
      exact ih h L i hL hT
    refine r_iload dL_text_48 rfl ?_
    refine r_iload_n 2 dL_text_50 rfl rfl ?_
    refine r_icmp_ge 97 dL_text_51 rfl (fun q => absurd q (nI_ge hv (by omega))) (fun _ => ?_)
    refine r_aload_n 0 dL_text_54 rfl rfl ?_
    refine r_iconst (nI 0) dL_text_55 rfl ?_
    refine r_iconst (nI 2) dL_text_56 rfl ?_
    refine t_draw i hN (by omega) (Nat.zero_le _) (by decide) dL_text_57 (Nat.le_of_ble_eq_true rfl) (fun h1 u i1 u1 u2 => ?_)
    refine r_if_ne 91 dL_text_60 rfl (fun _ => WT_le (by omega) (ih2 h1 L (tI_le i1 (by omega)) (by omega) (tPP_mono hT (fun G P z => ⟨z.1, fun w hw => z.2 w (by omega)⟩)))) (fun _ => ?_)
    refine r_aload dL_text_63 rfl ?_
    refine r_ldcS (i := 6) (by decide) rfl dL_text_65 ?_
    refine t_appK i1 (by omega) (by decide) (by rw [show (tC 6).length = 7 from rfl]; omega) dL_text_67 (Nat.le_of_ble_eq_true rfl) (fun h2 i2 => ?_)
    refine r_iload dL_text_70 rfl ?_
    refine t_appI i2 (by omega) (by simp only [List.length_append, show (tC 6).length = 7 from rfl]; omega) (by omega) dL_text_72 (Nat.le_of_ble_eq_true rfl) (fun h3 i3 => ?_)
    refine r_bipush (nI 32) dL_text_75 rfl ?_
    refine t_appC i3 (by omega) (by simp only [List.length_append, List.length_singleton, show (tC 6).length = 7 from rfl]; omega) (by decide) dL_text_77 (Nat.le_of_ble_eq_true rfl) (fun h4 i4 => ?_)
    refine r_aload_n 0 dL_text_80 rfl rfl ?_
    refine r_iconst (nI 0) dL_text_81 rfl ?_
    refine r_iload dL_text_82 rfl ?_
    refine t_draw i4 hN (by omega) (Nat.zero_le _) (by omega) dL_text_84 (Nat.le_of_ble_eq_true rfl) (fun h5 c i5 c1 c2 => ?_)
    refine t_appI i5 (by omega) (by simp only [List.length_append, List.length_singleton, show (tC 6).length = 7 from rfl]; omega) (by omega) dL_text_87 (Nat.le_of_ble_eq_true rfl) (fun h6 i6 => ?_)
    have eL : (((L ++ tC 6) ++ [48 + v]) ++ [32]) ++ [48 + c] = L ++ wPaint v c := by
      simp only [List.append_assoc]
      rfl
    rw [eL] at i6
    have hl6 : (L ++ wPaint v c).length = L.length + 10 := by rw [List.length_append]; rfl
    refine r_pop dL_text_90 rfl ?_
    exact WT_le (by omega) (ih2 h6 _ (tI_le i6 (by omega)) (by omega) (tPP_paint hT (by omega) hv (by omega) (by omega)))

/-- text(): a text that is read without a fault -/
theorem k_text {e : Nat} (he : 11 ≤ e) (hN : g_N g < 2 ^ 31) (ha : a0 + 800 < 2 ^ 31) (hD : m.1 810 1 = nI a0) (K : ∀ h s L n a, TP n L → tS h s (s + 1) L → 811 ≤ s → zag h (wI m 810 1 (nI a)) → a ≤ a0 + 610 → z_z h ≤ 3000 → Q (some (.ref s)) h) : Ok g true (e + 1) mL_text (B1 0) (B2 0) [.ref 810, .int (nI 6)] (mk m) Q := by
  obtain ⟨d, rfl⟩ := dn he
  refine Ok_of (ls := [.ref 810, .int (nI 6), .retAddr 0, .retAddr 0, .retAddr 0, .retAddr 0, .retAddr 0, .retAddr 0, .retAddr 0, .retAddr 0]) (by decide) rfl (Nat.le_of_ble_eq_true rfl) rfl ?_
  refine r_aload_n 0 dL_text_0 rfl rfl ?_
  refine r_iconst (nI 2) dL_text_1 rfl ?_
  refine r_iload_n 1 dL_text_2 rfl rfl ?_
  refine r_callV (d := d + 11) (C1 := 0) (S1 := 0) (C2 := B1 0) (S2 := B2 0) [.int (nI 2), .int (nI 6)] [] 2 dL_text_3 lk_L_27 md_X10_next (ci := 9) rfl rfl (by decide) (zag_isA zag_mk a_810) rfl rfl (Nat.le_of_ble_eq_true rfl) rfl rfl (k_next (a := a0 + 0) hN (by omega) (by decide) (by decide) hD (fun n l0 u0 => ?_))
  refine r_istore_n 2 dL_text_6 rfl (Nat.le_of_ble_eq_true rfl) rfl ?_
  refine r_aload_n 0 dL_text_7 rfl rfl ?_
  refine r_iconst (nI 1) dL_text_8 rfl ?_
  refine r_iconst (nI 3) dL_text_9 rfl ?_
  refine r_callV (d := d + 11) (C1 := 0) (S1 := 0) (C2 := B1 0) (S2 := B2 0) [.int (nI 1), .int (nI 3)] [] 2 dL_text_10 lk_L_27 md_X10_next (ci := 9) rfl rfl (by decide) (zag_isA zag_mk a_810) rfl rfl (Nat.le_of_ble_eq_true rfl) rfl rfl (k_next (a := a0 + 1) hN (by omega) (by decide) (by decide) r_810_1 (fun thick l1 u1 => ?_))
  rw [wI_wI]
  refine r_istore_n 3 dL_text_13 rfl (Nat.le_of_ble_eq_true rfl) rfl ?_
  refine r_aload_n 0 dL_text_14 rfl rfl ?_
  refine r_iconst (nI 1) dL_text_15 rfl ?_
  refine r_iconst (nI 3) dL_text_16 rfl ?_
  refine r_callV (d := d + 11) (C1 := 0) (S1 := 0) (C2 := B1 0) (S2 := B2 0) [.int (nI 1), .int (nI 3)] [] 2 dL_text_17 lk_L_27 md_X10_next (ci := 9) rfl rfl (by decide) (zag_isA zag_mk a_810) rfl rfl (Nat.le_of_ble_eq_true rfl) rfl rfl (k_next (a := a0 + 2) hN (by omega) (by decide) (by decide) r_810_1 (fun kinds l2 u2 => ?_))
  rw [wI_wI]
  refine r_istore dL_text_20 (Nat.le_of_ble_eq_true rfl) rfl ?_
  refine r_aload_n 0 dL_text_22 rfl rfl ?_
  refine r_iconst (nI 0) dL_text_23 rfl ?_
  refine r_iconst (nI 2) dL_text_24 rfl ?_
  refine r_callV (d := d + 11) (C1 := 0) (S1 := 0) (C2 := B1 0) (S2 := B2 0) [.int (nI 0), .int (nI 2)] [] 2 dL_text_25 lk_L_27 md_X10_next (ci := 9) rfl rfl (by decide) (zag_isA zag_mk a_810) rfl rfl (Nat.le_of_ble_eq_true rfl) rfl rfl (k_next (a := a0 + 3) hN (by omega) (by decide) (by decide) r_810_1 (fun colours l3 u3 => ?_))
  rw [wI_wI]
  refine r_istore dL_text_28 (Nat.le_of_ble_eq_true rfl) rfl ?_
  refine WP_mono (C := (B1 1 + 2) + 1) (S := (B2 1 + 700) + 4) (by decide) (by decide) ?_
  refine r_newG dL_text_30 nw_L_32 (Nat.le_refl _) (by show 811 + 1 < 1000000; decide) ?_
  refine r_dup dL_text_33 rfl ?_
  refine r_ldcS (i := 5) (by decide) rfl dL_text_34 ?_
  refine r_callI (d := d + 11) (C1 := 2) (S1 := 700) (C2 := B1 1) (S2 := B2 1) [.ref (z_top + 5)] [.ref 811] 1 dL_text_36 lk_L_36 md_J4_init_a7421 rfl rfl (Nat.le_of_ble_eq_true rfl) (by decide) (by decide) (u_sbInitS (by omega) (by decide) (hnew_isA (h := mk (wI m 810 1 (nI (a0 + 3 + 1)))) (Nat.le_refl _)) (Nat.le_refl _) (by rw [hnew_I]; exact if_pos rfl) (by show 811 ≤ 811 + 1; decide) (by show 811 + 1 + 2 < 1000000; decide) (fun h2 y2 n2 s2 k2 => ?_))
  have i2 : tI m (a0 + 4) 1 h2 (tC 5) := ⟨y2, n2, a0 + 4, s2, zag_hkp (zag_new zag_mk) k2 (Nat.le_refl _) (Nat.le_refl _), by omega, by have := k2.2.1; rw [hnew_z] at this; show _ ≤ 812 + 3 * 1; have e : z_z (mk (wI m 810 1 (nI (a0 + 3 + 1)))) = 811 := rfl; omega⟩
  refine r_iload_n 2 dL_text_39 rfl rfl ?_
  refine t_appI i2 (by decide) (by decide) (by omega) dL_text_40 (Nat.le_of_ble_eq_true rfl) (fun h3 i3 => ?_)
  refine r_astore dL_text_43 (Nat.le_of_ble_eq_true rfl) rfl ?_
  refine r_iconst (nI 0) dL_text_45 rfl ?_
  refine r_istore dL_text_46 (Nat.le_of_ble_eq_true rfl) rfl ?_
  refine WT_le (t2 := 10 + 6 * 0) (by decide) (t_paint (a0 := a0 + 4) ⟨l0, u0⟩ ⟨l1, u1⟩ ⟨l2, u2⟩ u3 hN (by omega) (fun h s L n a c1 c2 c3 c4 c5 c6 => K h s L n a c1 c2 c3 c4 (by omega) c6) 0 (Nat.zero_le _) h3 _ (tI_le i3 (by decide)) (show 6 ≤ 6 from Nat.le_refl 6) ?_)
  exact tPP_size (by omega) (by omega)

end ZText
