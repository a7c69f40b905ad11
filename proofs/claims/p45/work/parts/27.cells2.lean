/-! the class Cells: a round divides, till nothing is divided -/
theorem lN_max : (9223372036854775807 : Int64) = lN (2 ^ 63 - 1) := rfl
theorem i_andn {p q : Nat → Bool} {n : Nat} (hn : n ≤ 7) : nI (bm p n) &&& (nI (bm q n) ^^^ (-1 : Int32)) = nI (bm (fun i => p i && !(q i)) n) := by
  rw [i_clr _ (bm_7 hn) _ (bm_7 hn)]
  congr 1
  refine bits_eq (n := 7) (Nat.and_lt_two_pow _ (show 127 - bm q n < 2 ^ 7 by have := bm_7 (p := q) hn; omega)) (bm_7 hn) fun i hi => ?_
  have key : ∀ b, b < 128 → ∀ i, i < 7 → (127 - b).testBit i = !(b.testBit i) := by decide +kernel
  rw [Nat.testBit_and, bm_bit, bm_bit, key _ (bm_7 hn) i hi, bm_bit]
  by_cases h : i < n <;> simp [h]
section ZCl
variable {g : zG} {gr : Bool} {e : Nat} {m : zm} {Q : Option Value → zH → Prop}
/-- one cell is divided: ranks pc .. pc' less 1 are its -/
theorem k_split {o q j pc : Nat} {G : Gr} {c : Nat → Nat} (ho : sX0 o) (hG : gWF G) (hc : cwf (gn G) c q) (hj : j < q)
    (hown : ∀ v, v < gn G → m.2 (o + 3) v = lN (sg G c v (3 * q)))
    (h1 : ∀ v, v < gn G → (c v < j ↔ rd G c v < pc)) (hpc : pc ≤ rq G c)
    (hP : m.1 o 6 = nI pc) (hR : ∀ i, i < pc → m.1 (o + 4) i = nI (bm (fun v => rd G c v == i) (gn G)))
    (hS : ∀ v, v < gn G → rd G c v < pc → m.2 (o + 2) (rd G c v) = lN (sg G c v (3 * q)))
    (H : ∀ m' pc', (∀ v, v < gn G → (c v < j + 1 ↔ rd G c v < pc')) → pc' ≤ rq G c → m'.1 o 6 = nI pc' → (∀ i, i < pc' → m'.1 (o + 4) i = nI (bm (fun v => rd G c v == i) (gn G))) → (∀ v, v < gn G → rd G c v < pc' → m'.2 (o + 2) (rd G c v) = lN (sg G c v (3 * q))) → (∀ a k, ¬ (a = o ∧ k = 6) → a ≠ o + 4 → m'.1 a k = m.1 a k) → (∀ a, a ≠ o + 2 → m'.2 a = m.2 a) → Q none (mk m')) :
    Ok g gr e mX0_split 0 0 [.ref o, .int (nI (bm (fun v => c v == j) (gn G)))] (mk m) Q := by
  have h7 := hG.2.1.2
  have hD := rd_Dn G c
  have hrq : rq G c ≤ 7 := by have := cwf_le (rd_cwf G c); omega
  have cmp : ∀ u v, u < gn G → v < gn G → (rd G c u < rd G c v ↔ c u < c v ∨ (c u = c v ∧ sg G c u (3 * q) < sg G c v (3 * q))) := fun u v hu hv => (hD.1 u v hu hv).trans (sS_cmp hG hc)
  have hq7 : q ≤ 7 := by have := cwf_le hc; omega
  have b63 : ∀ v, sg G c v (3 * q) < 2 ^ 63 := fun v => sg_63 h7 (by omega)
  refine b_X0_split_0 (d := e) ho ?_
  -- the outer loop, by how many ranks are left
  have key : ∀ t p m', p + t = rq G c → (∀ v, v < gn G → c v < j → rd G c v < p) → (∀ v, v < gn G → rd G c v < p → c v < j + 1) → m'.1 o 6 = nI p → (∀ i, i < p → m'.1 (o + 4) i = nI (bm (fun v => rd G c v == i) (gn G))) → (∀ v, v < gn G → rd G c v < p → m'.2 (o + 2) (rd G c v) = lN (sg G c v (3 * q))) → (∀ a k, ¬ (a = o ∧ k = 6) → a ≠ o + 4 → m'.1 a k = m.1 a k) → (∀ a, a ≠ o + 2 → m'.2 a = m.2 a) → WP g gr e mX0_split 0 0 2 [.ref o, .retAddr 0, .int (nI (bm (fun v => c v == j && decide (p ≤ rd G c v)) (gn G))), .retAddr 0, .retAddr 0, .retAddr 0, .retAddr 0] [] (mk m') Q := by
    intro t
    induction t with
    | zero =>
      intro p m' hp a1 a2 a3 a4 a5 a6 a7
      have hz : bm (fun v => c v == j && decide (p ≤ rd G c v)) (gn G) = 0 := bm_0 fun v hv => by
        have := hD.2.1 v hv
        have : ¬ p ≤ rd G c v := by omega
        simp [this]
      rw [hz]
      refine b_X0_split_2 (d := e) ho (pk_eq 0 0 (fun _ => H m' p (fun v hv => ⟨fun _ => by have := hD.2.1 v hv; omega, a2 v hv⟩) (by omega) a3 a4 a5 a6 a7) (fun z => absurd rfl z))
    | succ t ih =>
      intro p m' hp a1 a2 a3 a4 a5 a6 a7
      have hplt : p < rq G c := by omega
      have hb := bm_31 (p := fun v => c v == j && decide (p ≤ rd G c v)) (n := gn G) (by omega)
      by_cases hem : ∃ v, v < gn G ∧ c v = j ∧ p ≤ rd G c v
      · -- the one of rank p lies in this cell
        obtain ⟨w, hw, hwj, hwp⟩ := hem
        obtain ⟨u, hu, eu⟩ := hD.2.2 p hplt
        have huj : c u = j := by
          rcases Nat.lt_trichotomy (c u) j with z | z | z
          · have := a1 u hu z; omega
          · exact z
          · have := (cmp w u hw hu).mpr (Or.inl (by omega)); omega
        have hne : ¬ bm (fun v => c v == j && decide (p ≤ rd G c v)) (gn G) = 0 := bm_ne0 hw (by simp [hwj, hwp])
        have own' : ∀ v, v < gn G → m'.2 (o + 3) v = lN (sg G c v (3 * q)) := fun v hv => by rw [a7 (o + 3) (by omega)]; exact hown v hv
        -- least of all of them
        have least : ∀ v, v < gn G → c v = j → p ≤ rd G c v → sg G c u (3 * q) ≤ sg G c v (3 * q) := fun v hv h2 h3 => by
          apply Classical.byContradiction
          intro hlt
          have := (cmp v u hv hu).mpr (Or.inr ⟨by omega, by omega⟩)
          omega
        have same : ∀ v, v < gn G → (rd G c v == p) = (c v == j && decide (p ≤ rd G c v) && (sg G c v (3 * q) == sg G c u (3 * q))) := fun v hv => by
          by_cases h2 : c v = j ∧ p ≤ rd G c v
          · have := least v hv h2.1 h2.2
            have e1 : (c v == j && decide (p ≤ rd G c v)) = true := by simp [h2.1, h2.2]
            rw [e1, Bool.true_and]
            by_cases h3 : sg G c v (3 * q) = sg G c u (3 * q)
            · have : rd G c v = p := by
                have k1 := cmp u v hu hv
                have k2 := cmp v u hv hu
                omega
              rw [bq_t this, bq_t h3]
            · have : rd G c v ≠ p := by
                have k1 := cmp u v hu hv
                omega
              rw [bq_f this, bq_f h3]
          · have e1 : (c v == j && decide (p ≤ rd G c v)) = false := by
              by_cases h3 : c v = j
              · have : ¬ p ≤ rd G c v := fun z => h2 ⟨h3, z⟩
                simp [this]
              · simp [h3]
            rw [e1, Bool.false_and, beq_eq_false_iff_ne]
            intro h4
            apply h2
            refine ⟨?_, by omega⟩
            have k1 := cmp u v hu hv
            have k2 := cmp v u hv hu
            omega
        refine b_X0_split_2 (d := e) ho (pk_eq _ 0 (fun z => absurd z hne) (fun _ => pk_le 7 p (fun z => by omega) (fun _ => ?_) rfl a3))
        let lf : Nat → Bool := fun v => decide (v < gn G) && (c v == j && decide (p ≤ rd G c v))
        have hlf : bm (fun v => c v == j && decide (p ≤ rd G c v)) (gn G) = bm lf 7 := bm_w h7
        have hb7 := bm_31 (p := lf) (n := 7) (by decide)
        rw [hlf]
        refine up_to (n := 7) (P := fun i => ∀ L, L < 2 ^ 63 → (∀ v, v < i → lf v = true → L ≤ sg G c v (3 * q)) → (L = 2 ^ 63 - 1 ∨ ∃ v, v < i ∧ lf v = true ∧ sg G c v (3 * q) = L) → WP g gr e mX0_split 0 0 25 [.ref o, .retAddr 0, .int (nI (bm lf 7)), .long (lN L), .retAddr 1, .int (nI (bm (fun v => lf v && (sg G c v (3 * q) == L)) i)), .int (nI i)] [] (mk m') Q) ?_ ?_ 0 (Nat.zero_le _) (2 ^ 63 - 1) (by decide) (fun v hv => absurd hv (Nat.not_lt_zero _)) (Or.inl rfl)
        · intro L l0 l1 l2
          have hlfu : lf u = true := by simp [lf, hu, huj, eu]
          have eL : L = sg G c u (3 * q) := by
            have := l1 u (by omega) hlfu
            have := b63 u
            rcases l2 with z | ⟨v, v1, v2, v3⟩
            · omega
            · simp [lf] at v2
              have := least v v2.1 v2.2.1 v2.2.2
              omega
          have epart : bm (fun v => lf v && (sg G c v (3 * q) == L)) 7 = bm (fun v => rd G c v == p) (gn G) := by
            rw [bm_w (p := fun v => rd G c v == p) h7]
            refine bm_cong fun v hv => ?_
            by_cases z : v < gn G
            · rw [same v z, eL]; simp [lf, z]
            · simp [lf, z]
          refine b_X0_split_25 (d := e) ho (pk_le 7 7 (fun _ => ?_) (fun z => absurd z (Nat.lt_irrefl _)))
          rw [a3, nI_clamp (show p < 2 ^ 31 by omega)]
          refine ⟨pk_in p 7 (by omega), ?_⟩
          intro m1 e1
          have r1 : m1.1 o 6 = nI p := by rw [e1, rI_n (by omega)]; exact a3
          rw [r1, nI_clamp (show p < 2 ^ 31 by omega)]
          refine ⟨pk_in p 7 (by omega), ?_⟩
          intro m2 e2
          have r2 : m2.1 o 6 = nI p := by rw [e2, wL_1]; exact r1
          rw [r2, nI_1, i_andn (Nat.le_refl 7)]
          have enext : bm (fun i => lf i && !(lf i && (sg G c i (3 * q) == L))) 7 = bm (fun v => c v == j && decide (p + 1 ≤ rd G c v)) (gn G) := by
            rw [bm_w (p := fun v => c v == j && decide (p + 1 ≤ rd G c v)) h7]
            refine bm_cong fun v hv => ?_
            by_cases z : v < gn G
            · have s := same v z
              rw [← eL] at s
              have e3 : lf v = (c v == j && decide (p ≤ rd G c v)) := by simp [lf, z]
              rw [e3, ← s]
              by_cases z2 : rd G c v = p
              · have h8 : decide (p + 1 ≤ rd G c v) = false := decide_eq_false (by omega)
                rw [bq_t z2, h8]; simp [z]
              · have h8 : decide (p ≤ rd G c v) = decide (p + 1 ≤ rd G c v) := decide_eq_decide.mpr (by omega)
                rw [bq_f z2, h8]; simp [z]
            · simp [lf, z]
          rw [enext]
          refine ih (p + 1) _ (by omega) (fun v hv z => by have := a1 v hv z; omega) (fun v hv z => ?_) rI_s (fun i hi => ?_) (fun v hv z => ?_) (fun a k z1 z2 => ?_) (fun a z => ?_)
          · by_cases z2 : rd G c v < p
            · exact a2 v hv z2
            · have : (rd G c v == p) = true := by rw [beq_iff_eq]; omega
              rw [same v hv] at this
              simp at this
              omega
          · rw [rI_n (by omega), e2, wL_1, e1]
            by_cases z : i = p
            · subst z; rw [rI_s, epart]
            · rw [rI_n (fun w => z w.2)]; exact a4 i (by omega)
          · rw [wI_2, e2]
            by_cases z2 : rd G c v = p
            · rw [z2, rL_s, eL]
              have : (rd G c v == p) = true := by simp [z2]
              rw [same v hv] at this
              simp at this
              rw [this.2]
            · rw [rL_n (fun w => z2 w.2), e1, wI_2]; exact a5 v hv (by omega)
          · rw [rI_n z1, e2, wL_1, e1, rI_n (fun w => z2 w.1)]; exact a6 a k z1 z2
          · rw [wI_2, e2]
            have : (wL m1 (o + 2) p (lN L)).2 a = m1.2 a := funext fun k => rL_n (fun w => z w.1)
            rw [this, e1, wI_2]; exact a7 a z
        · intro i hi ih2 L l0 l1 l2
          refine b_X0_split_25 (d := e) ho (pk_le 7 i (fun z => by omega) (fun _ => ⟨fun hz => ?_, fun hz => ⟨pk_in i 7 hi, ?_⟩⟩))
          · rw [i_tst hb7 (by omega), bm_bit] at hz
            have hz : lf i = false := by simpa [hi] using hz
            rw [nI_1, ← bm_skip (p := fun v => lf v && (sg G c v (3 * q) == L)) (by simp [hz])]
            refine ih2 L l0 (fun v hv z => ?_) (l2.imp id (fun ⟨v, v1, v2⟩ => ⟨v, by omega, v2⟩))
            by_cases z2 : v = i
            · subst z2; rw [hz] at z; cases z
            · exact l1 v (by omega) z
          · rw [i_tst hb7 (by omega), bm_bit] at hz
            have hz : lf i = true := by simpa [hi] using hz
            have hin : i < gn G := by simp [lf] at hz; exact hz.1
            rw [nI_clamp (show i < 2 ^ 31 by omega), own' i hin, lg_cmp_gt, lg_cmp_ge, pk_lLT l0 (b63 i), pk_lLE l0 (b63 i), nI_1]
            have hbp := bm_31 (p := fun v => lf v && (sg G c v (3 * q) == L)) (n := i) (by omega)
            refine ⟨fun hgt => ?_, fun hle => ⟨fun hge => ?_, fun hlt => ?_⟩⟩
            · have hne : sg G c i (3 * q) ≠ L := by omega
              rw [← bm_skip (p := fun v => lf v && (sg G c v (3 * q) == L)) (by show (lf i && (sg G c i (3 * q) == L)) = false; rw [bq_f hne]; simp)]
              refine ih2 L l0 (fun v hv z => ?_) (l2.imp id (fun ⟨v, v1, v2⟩ => ⟨v, by omega, v2⟩))
              by_cases z2 : v = i
              · subst z2; omega
              · exact l1 v (by omega) z
            · have eL : sg G c i (3 * q) = L := by omega
              rw [eL, i_sh1 (by omega), fa_or, bm_put (p := fun v => lf v && (sg G c v (3 * q) == L)) (by simp [hz, eL])]
              refine ih2 L l0 (fun v hv z => ?_) (l2.imp id (fun ⟨v, v1, v2⟩ => ⟨v, by omega, v2⟩))
              by_cases z2 : v = i
              · subst z2; omega
              · exact l1 v (by omega) z
            · have hlt' : sg G c i (3 * q) < L := by omega
              have e5 : bm (fun v => lf v && (sg G c v (3 * q) == sg G c i (3 * q))) (i + 1) = 2 ^ i := by
                rw [← bm_one (v := i) (n := i + 1) (Nat.lt_succ_self _)]
                refine bm_cong fun v hv => ?_
                by_cases z2 : v = i
                · subst z2; simp [hz]
                · have : (lf v && (sg G c v (3 * q) == sg G c i (3 * q))) = false := by
                    cases h9 : lf v with
                    | false => rfl
                    | true =>
                      have := l1 v (by omega) h9
                      have : sg G c v (3 * q) ≠ sg G c i (3 * q) := by omega
                      simp [this]
                  rw [this]; simp [z2]
              rw [i_sh1 (by omega), ← e5]
              refine ih2 (sg G c i (3 * q)) (b63 i) (fun v hv z => ?_) (Or.inr ⟨i, Nat.lt_succ_self _, hz, rfl⟩)
              by_cases z2 : v = i
              · subst z2; exact Nat.le_refl _
              · have := l1 v (by omega) z; omega
      · have hz : bm (fun v => c v == j && decide (p ≤ rd G c v)) (gn G) = 0 := bm_0 fun v hv => by
          by_cases z : c v = j
          · have : ¬ p ≤ rd G c v := fun w => hem ⟨v, hv, z, w⟩
            simp [this]
          · simp [z]
        rw [hz]
        refine b_X0_split_2 (d := e) ho (pk_eq 0 0 (fun _ => H m' p (fun v hv => ⟨fun z => ?_, a2 v hv⟩) (by omega) a3 a4 a5 a6 a7) (fun z => absurd rfl z))
        by_cases z2 : c v = j
        · apply Classical.byContradiction
          intro z3
          exact hem ⟨v, hv, z2, by omega⟩
        · exact a1 v hv (by omega)
  have e0 : bm (fun v => c v == j) (gn G) = bm (fun v => c v == j && decide (pc ≤ rd G c v)) (gn G) := bm_cong fun v hv => by
    by_cases z : c v = j
    · have : pc ≤ rd G c v := by have := h1 v hv; omega
      simp [z, this]
    · simp [z]
  rw [e0]
  exact key (rq G c - pc) pc m (by omega) (fun v hv z => (h1 v hv).mp z) (fun v hv z => by have := (h1 v hv).mpr z; omega) hP hR hS (fun _ _ _ _ => rfl) (fun _ _ => rfl)
end ZCl
