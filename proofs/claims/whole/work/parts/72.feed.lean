/-! feed: bytes laid onto the tape -/
theorem sh_z : ∀ i, i < 32 → 8 ≤ i → (255#32).getLsbD i = false := by decide
theorem sh_b (x : Int32) : ∀ s, s = 24 ∨ s = 16 ∨ s = 8 ∨ s = 0 → (x >>> (nI s &&& (31 : Int32))) &&& (255 : Int32) = fUshr x (nI s) &&& (255 : Int32) := by
  have key : ∀ s i, s ≤ 24 → i < 32 → (x.toBitVec.sshiftRight s &&& 255#32).getLsbD i = (x.toBitVec >>> s &&& 255#32).getLsbD i := fun s i hs hi => by
    rw [BitVec.getLsbD_and, BitVec.getLsbD_and]
    by_cases h8 : i < 8
    · congr 1
      rw [BitVec.getLsbD_sshiftRight, BitVec.getLsbD_ushiftRight]
      have : s + i < 32 := by omega
      simp [this]
      omega
    · rw [sh_z i hi (by omega), Bool.and_false, Bool.and_false]
  rintro s (rfl | rfl | rfl | rfl)
  · exact Int32.toBitVec_inj.mp (BitVec.eq_of_getLsbD_eq fun i hi => key 24 i (by decide) hi)
  · exact Int32.toBitVec_inj.mp (BitVec.eq_of_getLsbD_eq fun i hi => key 16 i (by decide) hi)
  · exact Int32.toBitVec_inj.mp (BitVec.eq_of_getLsbD_eq fun i hi => key 8 i (by decide) hi)
  · exact Int32.toBitVec_inj.mp (BitVec.eq_of_getLsbD_eq fun i hi => key 0 i (by decide) hi)
def by1 (x : Int32) (s : Nat) : Nat := (fUshr x (nI s)).toBitVec.toNat % 2 ^ 8
theorem by1_lt (x : Int32) (s : Nat) : by1 x s < 256 := Nat.mod_lt _ (by decide)
theorem by1_c (x : Int32) (s : Nat) : fUshr x (nI s) &&& (255 : Int32) = nI (by1 x s) := pk_and _ 8 (by decide)
theorem by1_m (x : Int32) (s : Nat) (hs : s = 24 ∨ s = 16 ∨ s = 8 ∨ s = 0) : (x >>> (nI s &&& (31 : Int32))) &&& (255 : Int32) = nI (by1 x s) := (sh_b x s hs).trans (by1_c x s)
def by4 (L : List Nat) (x : Int32) : List Nat := L ++ [by1 x 24] ++ [by1 x 16] ++ [by1 x 8] ++ [by1 x 0]
theorem by4_len (L : List Nat) (x : Int32) : (by4 L x).length = L.length + 4 := by simp [by4]
theorem by4_lt {L : List Nat} {x : Int32} (h : ∀ b ∈ L, b < 256) : ∀ b ∈ by4 L x, b < 256 := fun b hb => by
  simp [by4] at hb
  rcases hb with hb | rfl | rfl | rfl | rfl
  · exact h b hb
  all_goals exact by1_lt _ _
/-- the class's tape -/
def pT (m : zm) (L : List Nat) : Prop := m.1 5 0 = nI L.length ∧ rowL (m.1 21) L
def fTp (m m' : zm) : Prop := (∀ a, a ≠ 5 → a ≠ 21 → m'.1 a = m.1 a) ∧ (∀ k, k ≠ 0 → m'.1 5 k = m.1 5 k) ∧ m'.2 = m.2
theorem fTp_trans {m m' m'' : zm} (h1 : fTp m m') (h2 : fTp m' m'') : fTp m m'' := ⟨fun a x y => (h2.1 a x y).trans (h1.1 a x y), fun k x => (h2.2.1 k x).trans (h1.2.1 k x), h2.2.2.trans h1.2.2⟩
section ZFd
variable {g : zG} {gr : Bool} {e : Nat} {Q : Option Value → zH → Prop} {m : zm}
theorem k_put1 {L : List Nat} {x : Int32} {s : Nat} (hs : s ≤ 24) (hL : L.length < 400) (h : pT m L) (K : ∀ m', pT m' (L ++ [by1 x s]) → fTp m m' → WP g gr (e + 0) mX5_put 0 0 3 [.ref 5, .int x, .int (nI s + (-8 : Int32))] [] (mk m') Q) : WP g gr (e + 0) mX5_put 0 0 3 [.ref 5, .int x, .int (nI s)] [] (mk m) Q := by
  refine b_X5_put_3 ⟨fun z => absurd z (i_nn (by omega)), fun _ => ?_⟩
  rw [h.1]
  refine pk_le 400 L.length (fun z => by omega) (fun _ => ⟨pk_in _ 400 hL, ?_⟩)
  rintro m1 rfl
  rw [cw (show L.length < 2 ^ 31 by omega), by1_c]
  refine K _ ⟨?_, ?_⟩ ⟨fun a h1 h2 => funext fun j => by rw [rI_n (fun q => h1 q.1), rI_n (fun q => h2 q.1)], fun k hk => by rw [rI_n (fun q => hk q.2), rI_n (fun q => by omega)], rfl⟩
  · rw [rI_s, rI_n (by omega), h.1, nI_1, List.length_append]; rfl
  · refine rowL_app h.2 ?_ (fun i hi => ?_)
    · rw [rI_n (by omega), rI_s]
    · rw [rI_n (by omega), rI_n (by omega)]
theorem k_put {L : List Nat} {x : Int32} (hL : L.length + 4 ≤ 400) (h : pT m L) (K : ∀ m', pT m' (by4 L x) → fTp m m' → Q none (mk m')) : Ok g gr e mX5_put 0 0 [.ref 5, .int x] (mk m) Q := by
  refine b_X5_put_0 (d := e) (k_put1 (s := 24) (by omega) (by omega) h (fun m1 a1 f1 => ?_))
  show WP _ _ _ _ _ _ _ [.ref 5, .int x, .int (nI 16)] _ _ _
  refine k_put1 (s := 16) (by omega) (by simp; omega) a1 (fun m2 a2 f2 => ?_)
  show WP _ _ _ _ _ _ _ [.ref 5, .int x, .int (nI 8)] _ _ _
  refine k_put1 (s := 8) (by omega) (by simp; omega) a2 (fun m3 a3 f3 => ?_)
  show WP _ _ _ _ _ _ _ [.ref 5, .int x, .int (nI 0)] _ _ _
  refine k_put1 (s := 0) (by omega) (by simp; omega) a3 (fun m4 a4 f4 => ?_)
  exact b_X5_put_3 ⟨fun _ => K m4 a4 (fTp_trans f1 (fTp_trans f2 (fTp_trans f3 f4))), fun z => absurd (by decide) z⟩
/-- the model's: which number a byte is of -/
def fdx (l1 l2 l3 l4 l5 : Int32) (k : Nat) : Int32 := if k < 4 then l1 else if k < 8 then l2 else if k < 12 then l3 else if k < 16 then l4 else l5
def fdb (l1 l2 l3 l4 l5 : Int32) (k : Nat) : Nat := by1 (fdx l1 l2 l3 l4 l5 k) (24 - 8 * (k % 4))
theorem fdb_all (L : List Nat) (l1 l2 l3 l4 l5 : Int32) : L ++ (List.range 20).map (fdb l1 l2 l3 l4 l5) = by4 (by4 (by4 (by4 (by4 L l1) l2) l3) l4) l5 := by
  have : (List.range 20).map (fdb l1 l2 l3 l4 l5) = [by1 l1 24, by1 l1 16, by1 l1 8, by1 l1 0, by1 l2 24, by1 l2 16, by1 l2 8, by1 l2 0, by1 l3 24, by1 l3 16, by1 l3 8, by1 l3 0, by1 l4 24, by1 l4 16, by1 l4 8, by1 l4 0, by1 l5 24, by1 l5 16, by1 l5 8, by1 l5 0] := rfl
  rw [this]
  simp [by4]
theorem d_feed {d : Nat} {L : List Nat} {l1 l2 l3 l4 l5 : Int32} (hL : L.length + 20 ≤ 400) (h0 : m.1 810 10 = nI L.length) (h : rowL (m.1 815) L) (K : ∀ m', m'.1 810 10 = nI (L.length + 20) → rowL (m'.1 815) (by4 (by4 (by4 (by4 (by4 L l1) l2) l3) l4) l5) → fM [10] [815] m m' → Q (some (.int (nI (L.length + 20)))) (mk m')) : WP g gr (d + 0) mX10_feed 0 0 23 [.ref 810, .int l1, .int l2, .int l3, .int l4, .int l5, .int 0, .retAddr 0] [] (mk m) Q := by
  refine up_to (n := 20) (P := fun k => ∀ m', rowL (m'.1 815) (L ++ (List.range k).map (fdb l1 l2 l3 l4 l5)) → fM [] [815] m m' → WP g gr (d + 0) mX10_feed 0 0 23 [.ref 810, .int l1, .int l2, .int l3, .int l4, .int l5, .int (nI k), .retAddr 0] [] (mk m') Q) ?_ (fun k hk ih => ?_) 0 (Nat.zero_le _) m (by simpa using h) (fM_refl _ _ _)
  · intro m' a1 f1
    rw [fdb_all] at a1
    have h1 : m'.1 810 10 = nI L.length := by rw [fM_2 f1]; exact h0
    refine b_X10_feed_23 (pk_le 20 20 (fun _ => ?_) (fun z => absurd z (Nat.lt_irrefl _)))
    rintro m2 rfl
    rw [rI_s, h1, show (20 : Int32) = nI 20 from rfl, nI_add]
    exact K _ rI_s a1 (fM_trans (fM_mono f1) fM_f)
  · intro m' a1 f1
    have h1 : m'.1 810 10 = nI L.length := by rw [fM_2 f1]; exact h0
    have es : (24 : Int32) - ((8 : Int32) * (nI k - nI k / (4 : Int32) * (4 : Int32))) = nI (24 - 8 * (k % 4)) := by
      have : k % 4 < 4 := Nat.mod_lt _ (by decide)
      rw [show (4 : Int32) = nI 4 from rfl, pk_rem (by omega) (by decide) (by decide), show (8 : Int32) = nI 8 from rfl, pk_mul, show (24 : Int32) = nI 24 from rfl, pk_sub (by omega)]
    have hsh : 24 - 8 * (k % 4) = 24 ∨ 24 - 8 * (k % 4) = 16 ∨ 24 - 8 * (k % 4) = 8 ∨ 24 - 8 * (k % 4) = 0 := by omega
    have fin : ∀ x, fdx l1 l2 l3 l4 l5 k = x → WP g gr (d + 0) mX10_feed 0 0 23 [.ref 810, .int l1, .int l2, .int l3, .int l4, .int l5, .int (nI k + 1), .retAddr 0] [] (mk (wI m' 815 (L.length + k) (nI (by1 x (24 - 8 * (k % 4)))))) Q := by
      intro x hx
      rw [nI_1]
      refine ih _ ?_ (fM_trans f1 fM_r)
      rw [List.range_succ, List.map_append, ← List.append_assoc]
      refine rowL_app (x := fdb l1 l2 l3 l4 l5 k) a1 ?_ (fun i hi => rI_n (fun q => by simp at hi; omega))
      rw [show (L ++ (List.range k).map (fdb l1 l2 l3 l4 l5)).length = L.length + k by simp, rI_s]
      unfold fdb
      rw [hx]
    have cl : (nI (L.length + k)).toNatClampNeg = L.length + k := nI_clamp (by omega)
    have ins : vp_in (nI (L.length + k)) 400 := pk_in (L.length + k) 400 (by omega)
    refine b_X10_feed_23 (pk_le 20 k (fun z => by omega) (fun _ => ?_))
    rw [h1, nI_add, cl, es, by1_m _ _ hsh, by1_m _ _ hsh, by1_m _ _ hsh, by1_m _ _ hsh, by1_m _ _ hsh]
    refine pk_le 4 k (fun z4 => pk_le 8 k (fun z8 => pk_le 12 k (fun z12 => pk_le 16 k (fun z16 => ⟨ins, ?_⟩) (fun z16 => ⟨ins, ?_⟩)) (fun z12 => ⟨ins, ?_⟩)) (fun z8 => ⟨ins, ?_⟩)) (fun z4 => ⟨ins, ?_⟩)
    · exact fin _ (by unfold fdx; rw [if_neg (by omega), if_neg (by omega), if_neg (by omega), if_neg (by omega)])
    · exact fin _ (by unfold fdx; rw [if_neg (by omega), if_neg (by omega), if_neg (by omega), if_pos (by omega)])
    · exact fin _ (by unfold fdx; rw [if_neg (by omega), if_neg (by omega), if_pos (by omega)])
    · exact fin _ (by unfold fdx; rw [if_neg (by omega), if_pos (by omega)])
    · exact fin _ (by unfold fdx; rw [if_pos (by omega)])
end ZFd
def Ts (s : Sg) (T : List Nat) : Sg := (y_W s, y_P s, y_I s, y_K s, T, y_f s, y_w s, y_t s)
theorem CR_T {s : Sg} {m m' : zm} {T : List Nat} (h : CR s m) (hT : pT m' T) (f : fTp m m') : CR (Ts s T) m' := by
  obtain ⟨⟨a1, ⟨a2, a, a3, a4, a5⟩, a6, ⟨a7, a8, R, a9, a10⟩, a11, a12, a13, a14⟩, cs⟩ := h
  refine ⟨⟨fun w hw => pG_eq (a1 w hw) fun b h1 h2 => f.1 b (by omega) (by omega), ⟨by rw [f.1 22 (by decide) (by decide)]; exact a2, a, a3, by rw [f.1 22 (by decide) (by decide)]; exact a4, fun i p hp => ⟨by rw [f.1 23 (by decide) (by decide)]; exact (a5 i p hp).1, pG_eq (a5 i p hp).2 fun b h1 h2 => f.1 b (by omega) (by omega)⟩⟩, fun i hi => ⟨by rw [f.1 146 (by decide) (by decide)]; exact (a6 i hi).1, fun hk w hw => pG_eq ((a6 i hi).2 hk w hw) fun b h1 h2 => f.1 b (by omega) (by omega)⟩, ⟨hT.1, hT.2, R, a9, pG_eq a10 fun b h1 h2 => f.1 b (by omega) (by omega)⟩, by rw [f.2.1 1 (by decide)]; exact a11, fun z => by rw [f.2.1 2 (by decide)]; exact a12 z, a13, by rw [f.1 1 (by decide) (by decide)]; exact a14⟩, CS_eq cs fun b hb => ⟨f.1 b (by omega) (by omega), by rw [f.2.2]⟩⟩
theorem sOK_T {s : Sg} (h : sOK s) {T : List Nat} (h1 : T.length ≤ 400) (h2 : ∀ b ∈ T, b < 256) : sOK (Ts s T) := ⟨h.1, h.2.1, h.2.2.1, h.2.2.2.1, h1, h2⟩
theorem MR_T {s : Sg} {m m' : zm} {T : List Nat} (h : MR s m) (t1 : m'.1 810 10 = nI T.length) (t2 : rowL (m'.1 815) T) (f : fM [10] [815] m m') : MR (Ts s T) m' := by
  obtain ⟨b1, ⟨b2, b3⟩, b4, ⟨b5, b6⟩, b7, b8, b9⟩ := h
  refine ⟨fun w hw => pR_eq (b1 w hw) (f.1 811 (by decide) (by decide)), ⟨?_, fun i hi w hw => pR_eq (b3 i hi w hw) (f.1 812 (by decide) (by decide))⟩, fun i hi => ⟨?_, fun hk w hw => pR_eq ((b4 i hi).2 hk w hw) (f.1 813 (by decide) (by decide))⟩, ⟨t1, t2⟩, ?_, ?_, ?_⟩
  · rw [fM_2 f (k := 6)]; exact b2
  · rw [f.1 814 (by decide) (by decide)]; exact (b4 i hi).1
  · rw [fM_2 f (k := 3)]; exact b7
  · rw [fM_2 f (k := 2)]; exact b8
  · rw [fM_2 f (k := 1)]; exact b9
theorem fC_T {m m' : zm} (f : fTp m m') : fC m m' := fun a ha => ⟨f.1 a (by omega) (by omega), by rw [f.2.2]⟩
section ZAc
theorem x_feed {s : Sg} (hs : sOK s) (l1 l2 l3 l4 l5 : Int32) : BX s mX9_feed mX10_feed [.int l1, .int l2, .int l3, .int l4, .int l5] := by
  have hT := hs.2.2.2.2.1
  have hB := hs.2.2.2.2.2
  by_cases hf : (y_T s).length ≤ 380
  · have hl : (by4 (by4 (by4 (by4 (by4 (y_T s) l1) l2) l3) l4) l5).length = (y_T s).length + 20 := by simp only [by4_len]
    have hlt : ∀ b ∈ by4 (by4 (by4 (by4 (by4 (y_T s) l1) l2) l3) l4) l5, b < 256 := by4_lt (by4_lt (by4_lt (by4_lt (by4_lt hB))))
    refine ⟨Ts s (by4 (by4 (by4 (by4 (by4 (y_T s) l1) l2) l3) l4) l5), nI ((y_T s).length + 20), sOK_T hs (by omega) hlt, fun g gr e m Q he hc K => ?_, fun g gr e m Q he hm K => ?_⟩
    · obtain ⟨d, rfl⟩ := dn (show 1 ≤ e by omega)
      have h0 : pT m (y_T s) := ⟨hc.1.2.2.2.1.1, hc.1.2.2.2.1.2.1⟩
      refine b_X9_feed_0 ?_
      rw [h0.1]
      refine pk_le (y_T s).length 380 (fun _ => ?_) (fun z => by omega)
      refine k_put (by omega) h0 (fun m1 a1 f1 => b_X9_feed_23 ?_)
      refine k_put (by simp only [by4_len]; omega) a1 (fun m2 a2 f2 => b_X9_feed_31 ?_)
      refine k_put (by simp only [by4_len]; omega) a2 (fun m3 a3 f3 => b_X9_feed_39 ?_)
      refine k_put (by simp only [by4_len]; omega) a3 (fun m4 a4 f4 => b_X9_feed_48 ?_)
      refine k_put (by simp only [by4_len]; omega) a4 (fun m5 a5 f5 => b_X9_feed_57 ?_)
      have f := fTp_trans f1 (fTp_trans f2 (fTp_trans f3 (fTp_trans f4 f5)))
      rw [a5.1, hl]
      exact K m5 (CR_T hc a5 f) (fC_T f)
    · have f0 : fM [0] [] m (wI m 810 0 (0 : Int32)) := fM_f
      have h1 := MR_fM hm f0
      refine b_X10_feed_0 (d := e) ?_
      rintro m1 rfl
      rw [h1.2.2.2.1.1, show (20 : Int32) = nI 20 from rfl, nI_add]
      refine pk_le ((y_T s).length + 20) 400 (fun _ => ?_) (fun z => by omega)
      refine d_feed (by omega) h1.2.2.2.1.1 h1.2.2.2.1.2 (fun m' a1 a2 a3 => ?_)
      refine K m' ?_ (fX_trans (fX_fM f0) (fX_fM a3))
      exact MR_T h1 (a1.trans (congrArg nI hl.symm)) a2 a3
  · refine ⟨s, -1, hs, fun g gr e m Q he hc K => ?_, fun g gr e m Q he hm K => ?_⟩
    · obtain ⟨d, rfl⟩ := dn (show 1 ≤ e by omega)
      refine b_X9_feed_0 ?_
      rw [hc.1.2.2.2.1.1]
      exact pk_le (y_T s).length 380 (fun z => by omega) (fun _ => K m hc (fC_refl m))
    · have f0 : fM [0] [] m (wI m 810 0 (0 : Int32)) := fM_f
      have h1 := MR_fM hm f0
      refine b_X10_feed_0 (d := e) ?_
      rintro m1 rfl
      rw [h1.2.2.2.1.1, show (20 : Int32) = nI 20 from rfl, nI_add]
      exact pk_le ((y_T s).length + 20) 400 (fun z => by omega) (fun _ => K _ h1 (fX_fM f0))
end ZAc
