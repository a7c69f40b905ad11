/-! the model: maps and changes -/
def pMP (m : zm) (n stay : Nat) (L : List (Nat → Nat)) : Prop := m.1 810 56 = nI L.length ∧ m.1 810 57 = nI (L.filter (lvp n stay)).length ∧ m.1 810 58 = nI stay ∧ (∀ v, v < n → m.1 838 v = nI (rch L v)) ∧ ∀ p, L.head? = some p → ∀ v, v < n → m.1 837 v = nI (p v)
theorem pMP_fM {F A : List Nat} {m m' : zm} {n stay : Nat} {L : List (Nat → Nat)} (h : pMP m n stay L) (f : fM F A m m') (h1 : 837 ∉ A ∧ 838 ∉ A := by decide) (h4 : 56 ∉ F ∧ 57 ∉ F ∧ 58 ∉ F := by decide) : pMP m' n stay L := by
  have q1 := f.1 837 (by decide) h1.1
  have q2 := f.1 838 (by decide) h1.2
  exact ⟨by rw [fM_2 f h4.1]; exact h.1, by rw [fM_2 f h4.2.1]; exact h.2.1, by rw [fM_2 f h4.2.2]; exact h.2.2.1, fun v hv => by rw [q2]; exact h.2.2.2.1 v hv, fun p hp v hv => by rw [q1]; exact h.2.2.2.2 p hp v hv⟩
def fMP (v : Nat) (m m' : zm) : Prop := fM [56, 57] [836, 837, 838] m m' ∧ ∀ u, u < v → m'.1 836 u = m.1 836 u
theorem fMP_refl (v : Nat) (m : zm) : fMP v m m := ⟨fM_refl _ _ _, fun _ _ => rfl⟩
theorem fMP_trans {v : Nat} {m m' m'' : zm} (h1 : fMP v m m') (h2 : fMP v m' m'') : fMP v m m'' := ⟨fM_trans h1.1 h2.1, fun u hu => (h2.2 u hu).trans (h1.2 u hu)⟩
theorem fMP_mono {v v' : Nat} {m m' : zm} (h : fMP v' m m') (hv : v ≤ v') : fMP v m m' := ⟨h.1, fun u hu => h.2 u (by omega)⟩
theorem fitb_0 {G H : Gr} {s : Nat → Nat} {v w : Nat} : fitb G H 0 s v w = (!(usd s v w) && cst G H s v w == 0) := by unfold fitb; rw [Nat.zero_testBit]; simp
theorem cst_0 {G H : Gr} {s : Nat → Nat} {v w : Nat} : cst G H s v w = 0 ↔ gc G v = gc H w ∧ ∀ u, u < v → gk G u v = gk H (s u) w := by
  unfold cst dff
  constructor
  · intro h
    refine ⟨?_, fun u hu => ?_⟩
    · apply Classical.byContradiction
      intro hne
      rw [if_neg hne] at h; omega
    · apply Classical.byContradiction
      intro hne
      have : 0 < fb_ct (fun u => !(gk G u v == gk H (s u) w)) v := fb_ct_pos.mpr ⟨u, hu, by rw [bq_f hne]; rfl⟩
      omega
  · rintro ⟨h1, h2⟩
    rw [if_pos h1, ct_0 fun u hu => by rw [bq_t (h2 u hu)]; rfl]
section ZMo
variable {g : zG} {gr : Bool}
theorem d_fits {G H : Gr} {s : Nat → Nat} {v w e : Nat} {m : zm} {Q : Option Value → zH → Prop} (hG : gWF G) (hH : gWF H) (hGH : gn G = gn H) (hp : pD m G) (hq : pO m H) (hv : v < gn G) (hw : w < gn G) (hs : ∀ u, u < v → m.1 836 u = nI (s u) ∧ s u < gn G) (K1 : fitb G H 0 s v w = true → Q (some (.int 1)) (mk m)) (K0 : fitb G H 0 s v w = false → Q (some (.int 0)) (mk m)) : Ok g gr e mX10_fits 0 0 [.ref 810, .int (nI v), .int (nI w)] (mk m) Q := by
  have h7 := hG.2.1.2
  have c1 := hG.1.1 v
  have c2 := hH.1.1 w
  refine b_X10_fits_0 (d := e) ⟨pk_in v 7 (by omega), pk_in w 7 (by omega), ?_⟩
  rw [nI_clamp (show v < 2 ^ 31 by omega), nI_clamp (show w < 2 ^ 31 by omega), hp.2.1 v hv, hq.2.1 w (by omega)]
  refine pk_eq (gc G v) (gc H w) (fun z => ?_) (fun z => K0 ?_)
  · refine up_to (n := v) (P := fun i => (∀ u, u < i → s u ≠ w ∧ gk G u v = gk H (s u) w) → WP g gr e mX10_fits 0 0 19 [.ref 810, .int (nI v), .int (nI w), .int (nI i)] [] (mk m) Q) ?_ ?_ 0 (Nat.zero_le _) (fun u hu => absurd hu (Nat.not_lt_zero _))
    · intro hi
      refine b_X10_fits_19 (d := e) (pk_le v v (fun _ => K1 ?_) (fun y => absurd y (Nat.lt_irrefl _)))
      have h1 : usd s v w = false := by
        cases h : usd s v w with
        | false => rfl
        | true => obtain ⟨u, u1, u2⟩ := usd_iff.mp h; exact absurd u2 (hi u u1).1
      rw [fitb_0, h1, bq_t (cst_0.mpr ⟨z, fun u hu => (hi u hu).2⟩)]; rfl
    · intro i hi ih hu
      obtain ⟨s1, s2⟩ := hs i hi
      refine b_X10_fits_19 (d := e) (pk_le v i (fun y => by omega) (fun _ => ⟨pk_in i 7 (by omega), ?_⟩))
      rw [nI_clamp (show i < 2 ^ 31 by omega), s1]
      refine pk_eq (s i) w (fun y => K0 ?_) (fun y => ?_)
      · rw [fitb_0, usd_iff.mpr ⟨i, hi, y⟩]; rfl
      · rw [show (7 : Int32) = nI 7 from rfl, pk_mul, pk_mul, nI_add, nI_add, nI_clamp (show 7 * v + i < 2 ^ 31 by omega), nI_clamp (show 7 * w + s i < 2 ^ 31 by omega), hp.2.2 v i hv (by omega), hq.2.2 w (s i) (by omega) (by omega), nI_1]
        have k1 := hG.1.2.1 v i
        have k2 := hH.1.2.1 w (s i)
        refine ⟨pk_in (7 * v + i) 49 (by omega), pk_in (7 * w + s i) 49 (by omega), pk_eq (gk G v i) (gk H w (s i)) (fun y2 => ih fun u hu2 => ?_) (fun y2 => K0 ?_)⟩
        · by_cases x : u = i
          · subst x; exact ⟨y, by rw [hG.1.2.2.1 u v, hH.1.2.2.1 (s u) w]; exact y2⟩
          · exact hu u (by omega)
        · have : ¬ cst G H s v w = 0 := fun x => y2 (by have := (cst_0.mp x).2 i hi; rw [hG.1.2.2.1 i v, hH.1.2.2.1 (s i) w] at this; exact this)
          rw [fitb_0, bq_f this]; simp
  · have : ¬ cst G H s v w = 0 := fun x => z (cst_0.mp x).1
    rw [fitb_0, bq_f this]; simp
theorem d_mapsLeaf {n stay e : Nat} {s : Nat → Nat} {L : List (Nat → Nat)} {m : zm} {Q : Option Value → zH → Prop} (hn7 : n ≤ 7) (hst : stay < 128) (hn : m.1 810 21 = nI n) (hs : ∀ u, u < n → m.1 836 u = nI (s u) ∧ s u < 7) (hL : L.length + 1 < 2 ^ 31) (hp : pMP m n stay L) (hb : ∀ p ∈ L, ∀ v, v < n → p v < 7) (K : ∀ m', pMP m' n stay (L ++ [s]) → fM [56, 57] [837, 838] m m' → Q none (mk m')) : WP g gr (e + 1) mX10_mapsFrom 0 0 12 [.ref 810, .retAddr 0, .int 1, .int 0] [] (mk m) Q := by
  obtain ⟨p1, p2, p3, p4, p5⟩ := hp
  have hf1 : (L.filter (lvp n stay)).length ≤ L.length := List.length_filter_le _ _
  refine up_to (n := n) (P := fun i => ∀ m' (lf : Int32), ((lf = 1 ∧ ∀ k, k < i → stay.testBit k = true → s k = k) ∨ (lf = 0 ∧ ∃ k, k < i ∧ stay.testBit k = true ∧ s k ≠ k)) → (∀ v, v < i → m'.1 838 v = nI (rch (L ++ [s]) v)) → (∀ v, i ≤ v → v < n → m'.1 838 v = nI (rch L v)) → (∀ p, L.head? = some p → ∀ v, v < n → m'.1 837 v = nI (p v)) → (L = [] → ∀ v, v < i → m'.1 837 v = nI (s v)) → fM [] [837, 838] m m' → WP g gr (e + 1) mX10_mapsFrom 0 0 12 [.ref 810, .retAddr 0, .int lf, .int (nI i)] [] (mk m') Q) ?_ ?_ 0 (Nat.zero_le _) m 1 (Or.inl ⟨rfl, fun k hk => absurd hk (Nat.not_lt_zero _)⟩) (fun v hv => absurd hv (Nat.not_lt_zero _)) (fun v _ hv => p4 v hv) p5 (fun _ v hv => absurd hv (Nat.not_lt_zero _)) (fM_refl _ _ _)
  · intro m' lf h1 h2 h3 h4 h5 f
    refine b_X10_mapsFrom_12 (pk_le n n (fun _ => ?_) (fun z => absurd z (Nat.lt_irrefl _)) (by rw [fM_2 f]; exact hn))
    intro m1 e1
    rw [fM_2 f, p1, nI_1] at e1
    have f1 : fM [56] [] m' m1 := by rw [e1]; exact fM_f
    have r57 : m1.1 810 57 = nI (L.filter (lvp n stay)).length := by rw [fM_2 f1, fM_2 f]; exact p2
    have fin : ∀ b : Nat, (lvp n stay s = true ∧ b = 1 ∨ lvp n stay s = false ∧ b = 0) → Q none (mk (wI m1 810 57 (nI ((L.filter (lvp n stay)).length + b)))) := by
      intro b hb2
      have f2 : fM [57] [] m1 (wI m1 810 57 (nI ((L.filter (lvp n stay)).length + b))) := fM_f
      have f12 : fM [56, 57] [] m' (wI m1 810 57 (nI ((L.filter (lvp n stay)).length + b))) := fM_trans (fM_mono f1) (fM_mono f2)
      refine K _ ⟨?_, ?_, ?_, fun v hv => ?_, fun p hp v hv => ?_⟩ (fM_trans (fM_mono f) (fM_mono f12))
      · rw [fM_2 f2, e1, rI_s, List.length_append]; rfl
      · rw [rI_s, List.filter_append, List.length_append]
        rcases hb2 with ⟨a, rfl⟩ | ⟨a, rfl⟩
        · rw [show [s].filter (lvp n stay) = [s] by rw [List.filter_cons, if_pos a]; rfl]; rfl
        · rw [show [s].filter (lvp n stay) = [] by rw [List.filter_cons, if_neg (by rw [a]; decide)]; rfl]; rfl
      · rw [fM_2 f12, fM_2 f]; exact p3
      · rw [fM_1 f12]; exact h2 v hv
      · rw [fM_1 f12]
        cases L with
        | nil =>
          have : p = s := (Option.some.inj hp).symm
          rw [this]; exact h5 rfl v hv
        | cons a b => exact h4 p hp v hv
    rw [r57, nI_1, show (0 : Int32) = nI 0 from rfl, nI_add]
    rcases h1 with ⟨rfl, h1⟩ | ⟨rfl, h1⟩
    · exact ⟨fun z => absurd z (by decide), fun _ => fin 1 (Or.inl ⟨lvp_iff.mpr h1, rfl⟩)⟩
    · refine ⟨fun _ => fin 0 (Or.inr ⟨?_, rfl⟩), fun z => absurd rfl z⟩
      cases hh : lvp n stay s with
      | false => rfl
      | true => obtain ⟨k, k1, k2, k3⟩ := h1; exact absurd (lvp_iff.mp hh k k1 k2) k3
  · intro i hi ih m' lf h1 h2 h3 h4 h5 f
    obtain ⟨s1, s2⟩ := hs i hi
    have r836 : m'.1 836 i = nI (s i) := by rw [fM_1 f]; exact s1
    -- one step, with the flag that comes out
    have one : ∀ lf' : Int32, ((lf' = 1 ∧ ∀ k, k < i + 1 → stay.testBit k = true → s k = k) ∨ (lf' = 0 ∧ ∃ k, k < i + 1 ∧ stay.testBit k = true ∧ s k ≠ k)) → ∀ mA, mA = wI m' 838 i (nI (rch (L ++ [s]) i)) → (¬ mA.1 810 56 = 0 → WP g gr (e + 1) mX10_mapsFrom 0 0 12 [.ref 810, .retAddr 0, .int lf', .int (nI (i + 1))] [] (mk (wI mA 837 i (mA.1 837 i))) Q) ∧ (mA.1 810 56 = 0 → WP g gr (e + 1) mX10_mapsFrom 0 0 12 [.ref 810, .retAddr 0, .int lf', .int (nI (i + 1))] [] (mk (wI mA 837 i (mA.1 836 i))) Q) := by
      intro lf' hf mA eA
      have fA : fM [] [837, 838] m' mA := by rw [eA]; exact fM_r
      have rA : ∀ v, v < i + 1 → mA.1 838 v = nI (rch (L ++ [s]) v) := fun v hv => by
        rw [eA]
        by_cases z : v = i
        · subst z; exact rI_s
        · rw [rI_n (fun q => z q.2)]; exact h2 v (by omega)
      have rB : ∀ v, i + 1 ≤ v → v < n → mA.1 838 v = nI (rch L v) := fun v x1 x2 => by rw [eA, rI_n (by omega)]; exact h3 v (by omega) x2
      have r56 : mA.1 810 56 = nI L.length := by rw [fM_2 fA, fM_2 f]; exact p1
      have q837 : ∀ v, mA.1 837 v = m'.1 837 v := fun v => by rw [eA]; exact rI_n (by omega)
      refine ⟨fun z => ?_, fun z => ?_⟩
      · have hne : L ≠ [] := fun w => z (by rw [r56, w]; rfl)
        refine ih _ lf' hf (fun v hv => by rw [rI_n (by omega)]; exact rA v hv) (fun v x1 x2 => by rw [rI_n (by omega)]; exact rB v x1 x2) (fun p hp v hv => ?_) (fun w => absurd w hne) (fM_trans f (fM_trans fA fM_r))
        by_cases w : v = i
        · subst w; rw [rI_s, q837]; exact h4 p hp v hv
        · rw [rI_n (fun q => w q.2), q837]; exact h4 p hp v hv
      · have hl0 : L = [] := by
          rw [r56, show (0 : Int32) = nI 0 from rfl, nI_eq (by omega) (by decide)] at z
          exact List.eq_nil_of_length_eq_zero z
        refine ih _ lf' hf (fun v hv => by rw [rI_n (by omega)]; exact rA v hv) (fun v x1 x2 => by rw [rI_n (by omega)]; exact rB v x1 x2) (fun p hp => by rw [hl0] at hp; cases hp) (fun _ v hv => ?_) (fM_trans f (fM_trans fA fM_r))
        by_cases w : v = i
        · subst w; rw [rI_s, eA, rI_n (by omega)]; exact r836
        · rw [rI_n (fun q => w q.2), q837]; exact h5 hl0 v (by omega)
    refine b_X10_mapsFrom_12 (pk_le n i (fun z => by omega) (fun _ => ?_) (by rw [fM_2 f]; exact hn))
    have e838 : m'.1 838 i ||| ((1 : Int32) <<< (nI (s i) &&& 31)) = nI (rch (L ++ [s]) i) := by rw [h3 i (Nat.le_refl _) hi, i_sh1 (by omega), fa_or, ← rch_app]
    rw [nI_clamp (show i < 2 ^ 31 by omega), r836, e838, fM_2 f, p3, i_has (by omega) (by omega), nI_1]
    rcases h1 with ⟨rfl, h1⟩ | ⟨rfl, h1⟩
    · refine ⟨fun z => absurd z (by decide), fun _ => ⟨fun z => ⟨pk_in i 7 (by omega), fun z2 => one 0 (Or.inr ⟨rfl, i, Nat.lt_succ_self _, z, fun w => z2 (by rw [w])⟩), fun z2 => one 1 (Or.inl ⟨rfl, fun k hk hb2 => ?_⟩)⟩, fun z => ⟨pk_in i 7 (by omega), one 1 (Or.inl ⟨rfl, fun k hk hb2 => ?_⟩)⟩⟩⟩
      · by_cases w : k = i
        · subst w; exact (nI_eq (by omega) (by omega)).mp z2
        · exact h1 k (by omega) hb2
      · by_cases w : k = i
        · subst w; exact absurd hb2 z
        · exact h1 k (by omega) hb2
    · obtain ⟨k, k1, k2, k3⟩ := h1
      exact ⟨fun _ => ⟨pk_in i 7 (by omega), one 0 (Or.inr ⟨rfl, k, by omega, k2, k3⟩)⟩, fun z => absurd rfl z⟩
theorem d_mapsFrom {G H : Gr} {stay : Nat} (hG : gWF G) (hH : gWF H) (hGH : gn G = gn H) (hst : stay < 128) : ∀ (k e v : Nat) (s : Nat → Nat) (L : List (Nat → Nat)) (m : zm) (Q : Option Value → zH → Prop), v + k = gn G → k + 1 ≤ e → pD m G → pO m H → (∀ u, u < v → m.1 836 u = nI (s u) ∧ s u < gn G) → pMP m (gn G) stay L → (∀ p ∈ L, ∀ v, v < gn G → p v < 7) → L.length + 7 ^ k < 2 ^ 31 →
    (∀ m', pMP m' (gn G) stay (L ++ mp G H 0 k v s) → fMP v m m' → Q none (mk m')) → Ok g gr e mX10_mapsFrom 0 0 [.ref 810, .int (nI v)] (mk m) Q := by
  have h7 := hG.2.1.2
  intro k
  induction k with
  | zero =>
    intro e v s L m Q hv he hp hq hs hL hb hl K
    obtain ⟨d, rfl⟩ : ∃ d, e = d + 1 := ⟨e - 1, by omega⟩
    have hv : v = gn G := hv
    subst hv
    refine b_X10_mapsFrom_0 (pk_eq (gn G) (gn G) (fun _ => ?_) (fun z => absurd rfl z) rfl hp.1 |> fun h => ⟨h.2, h.1⟩)
    refine d_mapsLeaf h7 hst hp.1 (fun u hu => ⟨(hs u hu).1, by have := (hs u hu).2; omega⟩) (by have : (7 : Nat) ^ 0 = 1 := rfl; omega) hL hb (fun m' a1 a2 => K m' a1 ⟨fM_mono a2, fun u _ => fM_1 a2 u⟩)
  | succ k ih =>
    intro e v s L m Q hv he hp hq hs hL hb hl K
    obtain ⟨d, rfl⟩ : ∃ d, e = d + 1 := ⟨e - 1, by omega⟩
    refine b_X10_mapsFrom_0 (pk_eq v (gn G) (fun z => by omega) (fun _ => ?_) rfl hp.1 |> fun h => ⟨h.2, h.1⟩)
    let B := fun w (L : List (Nat → Nat)) => if fitb G H 0 s v w = true then L ++ mp G H 0 k (v + 1) (ups s v w) else L
    have hlen : ∀ w, (it B w []).length ≤ w * 7 ^ k := by
      intro w
      induction w with
      | zero => exact Nat.zero_le _
      | succ w ih2 =>
        rw [it_succ, Nat.succ_mul]
        show (if _ then _ else _ : List (Nat → Nat)).length ≤ _
        split
        · rw [List.length_append]; have := mp_len (G := G) (H := H) (stay := 0) h7 k (v + 1) (ups s v w); omega
        · exact Nat.le_trans ih2 (Nat.le_add_right _ _)
    refine up_to (n := gn G) (P := fun w => ∀ m', pMP m' (gn G) stay (L ++ it B w []) → (∀ p ∈ L ++ it B w [], ∀ v, v < gn G → p v < 7) → fMP v m m' → WP g gr (d + 1) mX10_mapsFrom 0 0 133 [.ref 810, .int (nI v), .int (nI w), .retAddr 0] [] (mk m') Q) ?_ ?_ 0 (Nat.zero_le _) m (by show pMP m (gn G) stay (L ++ []); rw [List.append_nil]; exact hL) (by show ∀ p ∈ L ++ [], _; rw [List.append_nil]; exact hb) (fMP_refl _ _)
    · intro m' a1 _ a2
      exact b_X10_mapsFrom_133 (pk_le (gn G) (gn G) (fun _ => K m' a1 a2) (fun z => absurd z (Nat.lt_irrefl _)) (by rw [fM_2 a2.1]; exact hp.1))
    · intro w hw ihw m' a1 a3 a2
      have hp' := pD_fM hp a2.1
      have hq' := pO_fM hq a2.1
      have hs' : ∀ u, u < v → m'.1 836 u = nI (s u) ∧ s u < gn G := fun u hu => ⟨by rw [a2.2 u hu]; exact (hs u hu).1, (hs u hu).2⟩
      refine b_X10_mapsFrom_133 (pk_le (gn G) w (fun z => by omega) (fun _ => ?_) hp'.1)
      refine d_fits hG hH hGH hp' hq' (by omega) hw hs' (fun hf => ?_) (fun hf => ?_)
      · refine b_X10_mapsFrom_147 ⟨fun z => absurd z (by decide), fun _ => ⟨pk_in v 7 (by omega), ?_⟩⟩
        rw [nI_clamp (show v < 2 ^ 31 by omega), nI_1]
        intro m2 e2
        have f2 : fM [] [836] m' m2 := by rw [e2]; exact fM_r
        have eB : it B (w + 1) [] = it B w [] ++ mp G H 0 k (v + 1) (ups s v w) := by show (if _ then _ else _) = _; rw [if_pos hf]
        rw [eB, ← List.append_assoc] at ihw
        have hl2 := hlen w
        have hl3 : w * 7 ^ k + 7 ^ k ≤ 7 ^ (k + 1) := by
          rw [Nat.pow_succ, Nat.mul_comm (7 ^ k) 7, ← Nat.succ_mul]
          exact Nat.mul_le_mul_right _ (by omega)
        refine ih d (v + 1) (ups s v w) (L ++ it B w []) m2 _ (by omega) (by omega) (pD_fM hp' f2) (pO_fM hq' f2) (fun u hu => ?_) (pMP_fM a1 f2) a3 (by rw [List.length_append]; omega) (fun m3 b1 b2 => ?_)
        · unfold ups
          by_cases z : u = v
          · subst z; rw [if_pos rfl, e2, rI_s]; exact ⟨rfl, hw⟩
          · rw [if_neg z, e2, rI_n (fun q => z q.2)]; exact hs' u (by omega)
        · refine b_X10_mapsFrom_164 ?_
          rw [nI_1]
          refine ihw m3 b1 (fun p hp2 x hx => ?_) (fMP_trans a2 (fMP_trans ⟨fM_mono f2, fun u hu => by rw [e2]; exact rI_n (by omega)⟩ (fMP_mono b2 (by omega))))
          rcases List.mem_append.mp hp2 with z | z
          · exact a3 p z x hx
          · refine mp_lt h7 k (v + 1) (ups s v w) (fun u hu => ?_) (by omega) p z x hx
            unfold ups
            by_cases q : u = v
            · rw [if_pos q]; omega
            · rw [if_neg q]; have := (hs' u (by omega)).2; omega
      · refine b_X10_mapsFrom_147 ⟨fun _ => ?_, fun z => absurd rfl z⟩
        rw [nI_1]
        have eB : it B (w + 1) [] = it B w [] := by show (if _ then _ else _) = _; rw [if_neg (by rw [hf]; decide)]
        rw [eB] at ihw
        exact ihw m' a1 a3 a2
theorem d_mapsAll {G H : Gr} {stay e : Nat} {m : zm} {Q : Option Value → zH → Prop} (he : 10 ≤ e) (hG : gWF G) (hH : gWF H) (hst : stay < 128) (hp : pD m G) (hq : pO m H) (K : ∀ m', pMP m' (gn G) stay (mps G H 0) → fM [56, 57, 58] [836, 837, 838] m m' → Q none (mk m')) : Ok g gr e mX10_mapsAll 0 0 [.ref 810, .int (nI stay)] (mk m) Q := by
  obtain ⟨d, rfl⟩ := dn he
  have h7 := hG.2.1.2
  have h7' := hH.2.1.2
  have hpw : ([] : List (Nat → Nat)).length + 7 ^ gn G < 2 ^ 31 := by
    have h3 : 7 ^ gn G ≤ 7 ^ 7 := Nat.pow_le_pow_right (by decide) h7
    have h4 : (7 : Nat) ^ 7 = 823543 := by decide
    show 0 + 7 ^ gn G < 2 ^ 31
    omega
  refine b_X10_mapsAll_0 ?_
  intro m1 e1 m2 e2
  have f1 : fM [56, 57, 58] [] m m1 := by rw [e1]; exact fM_f
  have f2 : fM [56, 57, 58] [] m1 m2 := by rw [e2]; exact fM_f
  have f3 : fM [56, 57, 58] [] m2 (wI m2 810 58 (nI stay)) := fM_f
  have f13 := fM_trans f1 (fM_trans f2 f3)
  refine up_to (n := 7) (P := fun i => ∀ m', m'.1 810 56 = nI 0 → m'.1 810 57 = nI 0 → m'.1 810 58 = nI stay → (∀ v, v < i → m'.1 838 v = nI 0) → fM [56, 57, 58] [838] m m' → WP g gr (d + 10) mX10_mapsAll 0 0 17 [.ref 810, .retAddr 0, .int (nI i)] [] (mk m') Q) ?_ ?_ 0 (Nat.zero_le _) _ (by rw [rI_n (by omega), e2, rI_n (by omega), e1, rI_s]; rfl) (by rw [rI_n (by omega), e2, rI_s]; rfl) rI_s (fun v hv => absurd hv (Nat.not_lt_zero _)) (fM_mono f13)
  · intro m' a1 a2 a3 a4 a5
    have hp' := pD_fM hp a5
    have hq' := pO_fM hq a5
    have hL : pMP m' (gn G) stay [] := ⟨a1, a2, a3, fun v hv => a4 v (by omega), fun p hp2 => by cases hp2⟩
    refine b_X10_mapsAll_17 (pk_le 7 7 (fun _ => ?_) (fun z => absurd z (Nat.lt_irrefl _)))
    refine (pk_eq (gn G) (gn H) (fun z => ?_) (fun z => ?_) hp'.1 hq'.1 |> fun h => ⟨h.2, h.1⟩)
    · refine d_mapsFrom hG hH z hst (gn G) (d + 9) 0 (fun _ => 0) [] m' _ (Nat.zero_add _) (by omega) hp' hq' (fun u hu => absurd hu (Nat.not_lt_zero _)) hL (fun p hp2 => by cases hp2) hpw (fun m2 b1 b2 => ?_)
      refine b_X10_mapsAll_52 (K m2 ?_ (fM_trans (fM_mono a5) (fM_mono b2.1)))
      have : mps G H 0 = mp G H 0 (gn G) 0 (fun _ => 0) := by unfold mps; rw [if_pos z]
      rw [this]; exact b1
    · refine K m' ?_ (fM_mono a5)
      have : mps G H 0 = [] := by unfold mps; rw [if_neg z]
      rw [this]; exact hL
  · intro i hi ih m' a1 a2 a3 a4 a5
    refine b_X10_mapsAll_17 (pk_le 7 i (fun z => by omega) (fun _ => ⟨pk_in i 7 (by omega), ?_⟩))
    rw [nI_clamp (show i < 2 ^ 31 by omega), nI_1]
    refine ih _ (by rw [rI_n (by omega)]; exact a1) (by rw [rI_n (by omega)]; exact a2) (by rw [rI_n (by omega)]; exact a3) (fun v hv => ?_) (fM_trans a5 fM_r)
    by_cases z : v = i
    · subst z; exact rI_s
    · rw [rI_n (fun q => z q.2)]; exact a4 v (by omega)
theorem d_laysMaps {G H : Gr} {w1 w2 stay e : Nat} {m : zm} {Q : Option Value → zH → Prop} (he : 11 ≤ e) (hG : gWF G) (hH : gWF H) (h1 : w1 < 3) (h2 : w2 < 3) (hst : stay < 128) (hp : pW m w1 G) (hq : pW m w2 H) (K : ∀ m', pMP m' (gn G) stay (mps G H 0) → m'.1 810 21 = nI (gn G) → fM [21, 50, 56, 57, 58] [817, 818, 834, 835, 836, 837, 838] m m' → Q none (mk m')) : Ok g gr e mX10_laysMaps 0 0 [.ref 810, .int (nI w1), .int (nI w2), .int (nI stay)] (mk m) Q := by
  obtain ⟨d, rfl⟩ := dn he
  refine b_X10_laysMaps_0 (d_lays (by omega) hH h2 hq (fun m1 a1 a2 => ?_))
  refine b_X10_laysMaps_5 (d_laysOther hH a1 (fun m2 b1 b2 => ?_))
  refine b_X10_laysMaps_9 (d_lays (by omega) hG h1 (pW_fM (pW_fM hp a2) b2) (fun m3 c1 c2 => ?_))
  refine b_X10_laysMaps_14 (d_mapsAll (by omega) hG hH hst c1 (pO_fM b1 c2) (fun m4 g1 g2 => ?_))
  exact b_X10_laysMaps_19 (K m4 g1 (by rw [fM_2 g2]; exact c1.1) (fM_trans (fM_mono a2) (fM_trans (fM_mono b2) (fM_trans (fM_mono c2) (fM_mono g2)))))
def fCH (v : Nat) (m m' : zm) : Prop := fM [59] [836] m m' ∧ ∀ u, u < v → m'.1 836 u = m.1 836 u
theorem d_changesFrom {G H : Gr} (hG : gWF G) (hH : gWF H) (hGH : gn G = gn H) : ∀ (k e v ub : Nat) (s : Nat → Nat) (cost b : Nat) (m : zm) (Q : Option Value → zH → Prop), v + k = gn G → k + 1 ≤ e → pD m G → pO m H → (∀ u, u < v → m.1 836 u = nI (s u) ∧ s u < gn G) → ub < 128 → (∀ w, w < 7 → ub.testBit w = usd s v w) → cost ≤ 7 * v → b ≤ 1000 → m.1 810 59 = nI b →
    (∀ m', m'.1 810 59 = nI (wg G H k v s cost b) → fCH v m m' → Q none (mk m')) → Ok g gr e mX10_changesFrom 0 0 [.ref 810, .int (nI v), .int (nI ub), .int (nI cost)] (mk m) Q := by
  have h7 := hG.2.1.2
  intro k
  induction k with
  | zero =>
    intro e v ub s cost b m Q hv he hp hq hs hub hub2 hc hb h59 K
    obtain ⟨d, rfl⟩ := dn he
    have hv : v = gn G := hv
    subst hv
    refine b_X10_changesFrom_0 (pk_lt cost b (fun z => ?_) (fun z => K m ?_ ⟨fM_refl _ _ _, fun _ _ => rfl⟩) rfl h59)
    · refine (pk_eq (gn G) (gn G) (fun _ => K _ ?_ ⟨fM_f, fun u hu => rI_n (by omega)⟩) (fun z => absurd rfl z) rfl hp.1 |> fun h => ⟨h.2, h.1⟩)
      rw [rI_s]
      show _ = nI (if b ≤ cost then b else cost)
      rw [if_neg (by omega)]
    · show _ = nI (if b ≤ cost then b else cost)
      rw [if_pos z]; exact h59
  | succ k ih =>
    intro e v ub s cost b m Q hv he hp hq hs hub hub2 hc hb h59 K
    obtain ⟨d, rfl⟩ := dn (show 1 ≤ e by omega)
    have ew : wg G H (k + 1) v s cost b = if b ≤ cost then b else it (fun w b => if usd s v w = true then b else wg G H k (v + 1) (ups s v w) (cost + cst G H s v w) b) (gn G) b := rfl
    refine b_X10_changesFrom_0 (pk_lt cost b (fun z => ?_) (fun z => K m ?_ ⟨fM_refl _ _ _, fun _ _ => rfl⟩) rfl h59)
    · refine (pk_eq v (gn G) (fun z => by omega) (fun _ => ?_) rfl hp.1 |> fun h => ⟨h.2, h.1⟩)
      let B := fun w b => if usd s v w = true then b else wg G H k (v + 1) (ups s v w) (cost + cst G H s v w) b
      have hB : ∀ w, it B w b ≤ 1000 := fun w => by
        refine it_inv (f := B) (n := w) (s := b) (fun _ b => b ≤ 1000) hb (fun x b _ hb2 => ?_)
        show (if _ then _ else _) ≤ 1000
        split
        · exact hb2
        · exact Nat.le_trans (wg_le hb2) hb2
      refine up_to (n := gn G) (P := fun w => ∀ m', m'.1 810 59 = nI (it B w b) → fCH v m m' → WP g gr (d + 1) mX10_changesFrom 0 0 26 [.ref 810, .int (nI v), .int (nI ub), .int (nI cost), .int (nI w), .retAddr 0, .retAddr 0] [] (mk m') Q) ?_ ?_ 0 (Nat.zero_le _) m h59 ⟨fM_refl _ _ _, fun _ _ => rfl⟩
      · intro m' a1 a2
        refine b_X10_changesFrom_26 (pk_le (gn G) (gn G) (fun _ => K m' ?_ a2) (fun z => absurd z (Nat.lt_irrefl _)) (by rw [fM_2 a2.1]; exact hp.1))
        rw [ew, if_neg (by omega)]
        exact a1
      · intro w hw ihw m' a1 a2
        have hp' := pD_fM hp a2.1
        have hq' := pO_fM hq a2.1
        have hs' : ∀ u, u < v → m'.1 836 u = nI (s u) ∧ s u < gn G := fun u hu => ⟨by rw [a2.2 u hu]; exact (hs u hu).1, (hs u hu).2⟩
        refine b_X10_changesFrom_26 (pk_le (gn G) w (fun z => by omega) (fun _ => ?_) hp'.1)
        rw [i_has (by omega) (by omega), hub2 w (by omega), nI_1]
        refine ⟨fun hu => ?_, fun hu => ?_⟩
        · have : it B (w + 1) b = it B w b := by show (if _ then _ else _) = _; rw [if_pos hu]
          rw [this] at ihw
          exact ihw m' a1 a2
        · have eB : it B (w + 1) b = wg G H k (v + 1) (ups s v w) (cost + cst G H s v w) (it B w b) := by show (if _ then _ else _) = _; rw [if_neg hu]
          rw [eB] at ihw
          have c1 := hG.1.1 v
          have c2 := hH.1.1 w
          have hcl := cst_lt (G := G) (H := H) (s := s) (w := w) (show v < 7 by omega)
          -- the kinds, one behind another
          have kinds : ∀ x0 : Nat, x0 = (if gc G v = gc H w then 0 else 1) → WP g gr (d + 1) mX10_changesFrom 0 0 73 [.ref 810, .int (nI v), .int (nI ub), .int (nI cost), .int (nI w), .int (nI x0), .int (nI 0)] [] (mk m') Q := by
            intro x0 hx0
            have hx1 : x0 ≤ 1 := by rw [hx0]; split <;> omega
            refine up_to (n := v) (P := fun i => WP g gr (d + 1) mX10_changesFrom 0 0 73 [.ref 810, .int (nI v), .int (nI ub), .int (nI cost), .int (nI w), .int (nI (x0 + fb_ct (fun u => !(gk G u v == gk H (s u) w)) i)), .int (nI i)] [] (mk m') Q) ?_ ?_ 0 (Nat.zero_le _)
            · refine b_X10_changesFrom_73 (pk_le v v (fun _ => ⟨pk_in v 7 (by omega), ?_⟩) (fun z => absurd z (Nat.lt_irrefl _)))
              have ecs : x0 + fb_ct (fun u => !(gk G u v == gk H (s u) w)) v = cst G H s v w := by rw [hx0]; rfl
              rw [ecs, nI_clamp (show v < 2 ^ 31 by omega), nI_1, i_sh1 (by omega), fa_or, nI_add]
              intro m2 e2
              have f2 : fM [] [836] m' m2 := by rw [e2]; exact fM_r
              refine ih d (v + 1) (ub ||| 2 ^ w) (ups s v w) (cost + cst G H s v w) (it B w b) m2 _ (by omega) (by omega) (pD_fM hp' f2) (pO_fM hq' f2) (fun u hu => ?_) (or_128 hub (p2_7 (by omega))) (fun x hx => ?_) (by omega) (hB w) (by rw [fM_2 f2]; exact a1) (fun m3 c1 c2 => ?_)
              · unfold ups
                by_cases z : u = v
                · subst z; rw [if_pos rfl, e2, rI_s]; exact ⟨rfl, by omega⟩
                · rw [if_neg z, e2, rI_n (fun q => z q.2)]; exact hs' u (by omega)
              · rw [Nat.testBit_or, Nat.testBit_two_pow, hub2 x hx]
                rw [Bool.eq_iff_iff, Bool.or_eq_true, usd_iff, usd_iff, decide_eq_true_iff]
                unfold ups
                constructor
                · rintro (⟨u, u1, u2⟩ | z)
                  · exact ⟨u, by omega, by rw [if_neg (by omega)]; exact u2⟩
                  · exact ⟨v, by omega, by rw [if_pos rfl]; exact z⟩
                · rintro ⟨u, u1, u2⟩
                  by_cases z : u = v
                  · rw [if_pos z] at u2; exact Or.inr u2
                  · rw [if_neg z] at u2; exact Or.inl ⟨u, by omega, u2⟩
              · refine b_X10_changesFrom_153 ?_
                rw [nI_1]
                refine ihw m3 c1 ⟨fM_trans a2.1 (fM_trans (fM_mono f2) c2.1), fun u hu => ?_⟩
                rw [c2.2 u (by omega), e2, rI_n (by omega)]; exact a2.2 u hu
            · intro i hi ihi
              obtain ⟨s1, s2⟩ := hs' i hi
              have es : fb_ct (fun u => !(gk G u v == gk H (s u) w)) (i + 1) = fb_ct (fun u => !(gk G u v == gk H (s u) w)) i + (if (!(gk G i v == gk H (s i) w)) = true then 1 else 0) := fb_ct_succ _ _
              refine b_X10_changesFrom_73 (pk_le v i (fun y => by omega) (fun _ => ?_))
              have k1 := hG.1.2.1 v i
              have k2 := hH.1.2.1 w (s i)
              rw [nI_clamp (show i < 2 ^ 31 by omega), s1, show (7 : Int32) = nI 7 from rfl, pk_mul, pk_mul, nI_add, nI_add, nI_clamp (show 7 * v + i < 2 ^ 31 by omega), nI_clamp (show 7 * w + s i < 2 ^ 31 by omega), hp'.2.2 v i (by omega) (by omega), hq'.2.2 w (s i) (by omega) (by omega), nI_1, nI_1, show (0 : Int32) = nI 0 from rfl, nI_add]
              refine ⟨pk_in (7 * v + i) 49 (by omega), pk_in i 7 (by omega), pk_in (7 * w + s i) 49 (by omega), ?_⟩
              refine (pk_eq (gk G v i) (gk H w (s i)) (fun y2 => ?_) (fun y2 => ?_) |> fun h => ⟨h.2, h.1⟩)
              · rw [es, bq_t (show gk G i v = gk H (s i) w by rw [hG.1.2.2.1 i v, hH.1.2.2.1 (s i) w]; exact y2)] at ihi
                exact ihi
              · rw [es, bq_f (show gk G i v ≠ gk H (s i) w by rw [hG.1.2.2.1 i v, hH.1.2.2.1 (s i) w]; exact y2), ← Nat.add_assoc] at ihi
                exact ihi
          refine ⟨pk_in v 7 (by omega), pk_in w 7 (by omega), ?_⟩
          rw [nI_clamp (show v < 2 ^ 31 by omega), nI_clamp (show w < 2 ^ 31 by omega), hp'.2.1 v (by omega), hq'.2.1 w (by omega)]
          refine (pk_eq (gc G v) (gc H w) (fun y => kinds 0 (by rw [if_pos y])) (fun y => kinds 1 (by rw [if_neg y])) |> fun h => ⟨h.2, h.1⟩)
    · rw [ew, if_pos z]; exact h59
end ZMo
