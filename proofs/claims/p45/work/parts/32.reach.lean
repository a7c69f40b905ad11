/-! the classes Search and Tree: a leaf is come to -/
/-- ahead of a leaf: one more leaf is counted already -/
def pSR (m : zm) (o n : Nat) (s : SS) : Prop := m.1 o 4 = nI (S_n s) ∧ m.1 o 5 = nI (S_l s + 1) ∧ m.1 o 6 = nI (S_c s) ∧ m.1 o 7 = nI (S_k s) ∧ m.1 o 10 = nI (S_b s) ∧ m.1 o 9 = nI (S_g s).length ∧ rowL (m.1 (o + 60)) (S_g s) ∧ (S_l s ≠ 0 → pF m (o + 61) n (S_f s) ∧ pF m (o + 21) n (S_t s))
def sfn (n : Nat) (s : SS) : Prop := (S_l s ≠ 0 → (lmk n (S_f s) ∧ lcd n (S_f s)) ∧ lmk n (S_t s) ∧ lcd n (S_t s) ∧ pe n (l_a (S_f s)) ∧ pe n (l_a (S_t s))) ∧ ∀ g ∈ S_g s, g < 2 ^ 24
def fR (o : Nat) (m m' : zm) : Prop := (∀ a, a ≠ o → (a < o + 21 ∨ (o + 25 ≤ a ∧ a < o + 60) ∨ o + 65 ≤ a) → m'.1 a = m.1 a ∧ m'.2 a = m.2 a) ∧ ∀ k, k ≠ 9 → k ≠ 10 → m'.1 o k = m.1 o k
theorem fR_trans {o : Nat} {m m' m'' : zm} (h1 : fR o m m') (h2 : fR o m' m'') : fR o m m'' := ⟨fun a h h' => ⟨(h2.1 a h h').1.trans (h1.1 a h h').1, (h2.1 a h h').2.trans (h1.1 a h h').2⟩, fun k h h' => (h2.2 k h h').trans (h1.2 k h h')⟩
theorem fR_fz {o lo hi : Nat} {m m' : zm} (h : fz lo hi m m') (h1 : (o + 21 ≤ lo ∧ hi ≤ o + 25) ∨ (o + 60 ≤ lo ∧ hi ≤ o + 65)) : fR o m m' := ⟨fun a _ h' => h a (by omega), fun k _ _ => fz_1 h (by omega) k⟩
theorem fR_wI {o k : Nat} {v : Int32} {m : zm} (h : k = 9 ∨ k = 10) : fR o m (wI m o k v) := ⟨fun a ha _ => ⟨funext fun j => rI_n (fun q => ha q.1), rfl⟩, fun j h1 h2 => rI_n (fun q => by omega)⟩
theorem sX6_21 {o : Nat} (ho : sX6 o) : sX2 (o + 21) := sX6_s3 ho
theorem sX6_17 {o : Nat} (ho : sX6 o) : sX2 (o + 17) := sX6_s2 ho
theorem sX6_61 {o : Nat} (ho : sX6 o) : sX2 (o + 61) := sX6_s12 ho
section ZRe
variable {g : zG} {gr : Bool} {e : Nat} {m : zm} {Q : Option Value → zH → Prop}
theorem k_reach6 {o n : Nat} {l : Lf} {s : SS} (ho : sX6 o) (he : 3 ≤ e) (hn : n ≤ 7) (hc : m.1 (o + 1) 0 = nI n) (hp : pSR m o n s) (hh : pF m (o + 17) n l) (hl : lmk n l) (hlc : lcd n l) (hla : pe n (l_a l)) (hs : sfn n s) (hg : sgo s) (hb : S_l s + 1 ≤ 5040)
    (H : ∀ m', pSS m' o n (sl n l s) → fR o m m' → Q none (mk m')) : Ok g gr e mX6_reach 0 0 [.ref o] (mk m) Q := by
  obtain ⟨d, rfl⟩ := dn he
  have x17 := sX6_17 ho
  have x21 := sX6_21 ho
  have x61 := sX6_61 ho
  -- best becomes the leaf that is here
  have best : ∀ (m0 : zm) (f : Lf), fR o m m0 → pF m0 (o + 61) n f → m0.1 o 4 = nI (S_n s) → m0.1 o 5 = nI (S_l s + 1) → m0.1 o 6 = nI (S_c s) → m0.1 o 7 = nI (S_k s) → m0.1 o 10 = nI (S_b s) → m0.1 o 9 = nI (S_g s).length → rowL (m0.1 (o + 60)) (S_g s) → (∀ m', pSS m' o n (S_n s, S_l s + 1, S_c s, S_k s, S_b s + 1, S_g s, f, l) → fR o m m' → Q none (mk m')) → ∀ m1, m1 = wI m0 (o + 21) 0 (m0.1 (o + 17) 0) → ∀ m2, m2 = wI m1 (o + 21) 1 (m1.1 (o + 17) 1) → ∀ m3, m3 = wC m2 ((o + 21) + 1) ((o + 17) + 1) 7 → ∀ m4, m4 = wC m3 ((o + 21) + 2) ((o + 17) + 2) 28 → ∀ m5, m5 = wC m4 ((o + 21) + 3) ((o + 17) + 3) 7 → Q none (mk (wI m5 o 10 ((m5.1 o 10) + (1 : Int32)))) := by
    intro m0 f f0 hf b4 b5 b6 b7 b10 b9 br HH m1 e1 m2 e2 m3 e3 m4 e4 m5 e5
    have hh0 : pF m0 (o + 17) n l := ⟨by rw [(f0.1 (o + 17) (by omega) (by omega)).1]; exact hh.1, by rw [(f0.1 (o + 17) (by omega) (by omega)).1]; exact hh.2.1, fun i hi => by rw [(f0.1 (o + 17 + 1) (by omega) (by omega)).1]; exact hh.2.2.1 i hi, fun i hi => by rw [(f0.1 (o + 17 + 2) (by omega) (by omega)).1]; exact hh.2.2.2.1 i hi, fun i hi => by rw [(f0.1 (o + 17 + 3) (by omega) (by omega)).1]; exact hh.2.2.2.2 i hi⟩
    obtain ⟨c1, c2⟩ := pF_copy (o := o + 21) (x := o + 17) hn hl.1 hh0 (by omega) e1 e2 e3 e4
    rw [← e5] at c1 c2
    have q : ∀ k, m5.1 o k = m0.1 o k := fun k => fz_1 c2 (by omega) k
    rw [q 10, b10, nI_1]
    refine HH _ ⟨?_, ?_, ?_, ?_, rI_s, ?_, ?_, fun _ => ⟨?_, ?_⟩⟩ (fR_trans f0 (fR_trans (fR_fz c2 (Or.inl ⟨by omega, by omega⟩)) (fR_wI (Or.inr rfl))))
    · rw [rI_n (by omega), q]; exact b4
    · rw [rI_n (by omega), q]; exact b5
    · rw [rI_n (by omega), q]; exact b6
    · rw [rI_n (by omega), q]; exact b7
    · rw [rI_n (by omega), q]; exact b9
    · intro i hi; rw [rI_n (by omega), fz_1 c2 (by omega)]; exact br i hi
    · exact pF_fz (pF_fz hf c2 (by omega)) (fz_wI (lo := o) (hi := o + 1)) (by omega)
    · exact pF_fz c1 (fz_wI (lo := o) (hi := o + 1)) (by omega)
  obtain ⟨p4, p5, p6, p7, p10, p9, pr, pl⟩ := hp
  by_cases h0 : S_l s = 0
  · -- the first one
    have h51 : m.1 o 5 = 1 := by rw [p5, h0]; rfl
    refine b_X6_reach_0 ho ⟨fun z => absurd h51 z, fun _ => ?_⟩
    intro m1 e1 m2 e2 m3 e3 m4 e4 m5 e5
    obtain ⟨c1, c2⟩ := pF_copy (o := o + 61) (x := o + 17) hn hl.1 hh (by omega) e1 e2 e3 e4
    rw [← e5] at c1 c2
    have q : ∀ k, m5.1 o k = m.1 o k := fun k => fz_1 c2 (by omega) k
    refine ⟨fun z => absurd (by rw [q]; exact h51) z, fun _ => ?_⟩
    refine best m5 l (fR_fz c2 (Or.inr ⟨by omega, by omega⟩)) c1 (by rw [q]; exact p4) (by rw [q]; exact p5) (by rw [q]; exact p6) (by rw [q]; exact p7) (by rw [q]; exact p10) (by rw [q]; exact p9) (fun i hi => by rw [fz_1 c2 (by omega)]; exact pr i hi) (fun m' a1 a2 => H m' ?_ a2)
    unfold sl
    rw [if_pos h0]
    rw [h0] at a1
    exact a1
  · obtain ⟨⟨f1, f2⟩, t1, t2, f3, t3⟩ := hs.1 h0
    obtain ⟨pf, pt⟩ := pl h0
    have hlen : (S_g s).length < 5040 := by have := hg.2 h0; omega
    have hn1 : ¬ m.1 o 5 = 1 := by rw [p5, show (1 : Int32) = nI 1 from rfl, nI_eq (by omega) (by decide)]; omega
    have a7 : ∀ f : Lf, pe n (l_a f) → ∀ j, j < n → l_a f j < 7 := fun f hf j hj => by have := hf.1 j hj; omega
    -- a generator
    have gen : ∀ (Q' : Option Value → zH → Prop) (x : Nat) (f : Lf), sX2 x → pF m x n f → pe n (l_a f) → (∀ m', pSS m' o n (S_n s, S_l s + 1, S_c s, S_k s, S_b s, S_g s ++ [gnum (l_a l) (l_a f) n], S_f s, S_t s) → fR o m m' → Q' none (mk m')) → Ok g gr (d + 2) mX6_note 0 0 [.ref o, .ref x] (mk m) Q' := fun Q' x f hx hf hfa HH => by
      refine k_note ho hx hn hc p9 pr hlen hh.2.2.2.2 hf.2.2.2.2 (a7 l hla) (a7 f hfa) (fun m' b1 b2 b3 b4 => HH m' ?_ ?_)
      · have q : ∀ k, k ≠ 9 → m'.1 o k = m.1 o k := fun k hk => b3 o k (fun w => hk w.2) (by omega)
        have r : ∀ a k, a ≠ o → a ≠ o + 60 → m'.1 a k = m.1 a k := fun a k h1 h2 => b3 a k (fun w => h1 w.1) h2
        refine ⟨by rw [q 4 (by decide)]; exact p4, by rw [q 5 (by decide)]; exact p5, by rw [q 6 (by decide)]; exact p6, by rw [q 7 (by decide)]; exact p7, by rw [q 10 (by decide)]; exact p10, b1, b2, fun _ => ⟨⟨?_, ?_, fun i hi => ?_, fun i hi => ?_, fun i hi => ?_⟩, ⟨?_, ?_, fun i hi => ?_, fun i hi => ?_, fun i hi => ?_⟩⟩⟩
        · rw [r _ _ (by omega) (by omega)]; exact pf.1
        · rw [r _ _ (by omega) (by omega)]; exact pf.2.1
        · rw [r _ _ (by omega) (by omega)]; exact pf.2.2.1 i hi
        · rw [r _ _ (by omega) (by omega)]; exact pf.2.2.2.1 i hi
        · rw [r _ _ (by omega) (by omega)]; exact pf.2.2.2.2 i hi
        · rw [r _ _ (by omega) (by omega)]; exact pt.1
        · rw [r _ _ (by omega) (by omega)]; exact pt.2.1
        · rw [r _ _ (by omega) (by omega)]; exact pt.2.2.1 i hi
        · rw [r _ _ (by omega) (by omega)]; exact pt.2.2.2.1 i hi
        · rw [r _ _ (by omega) (by omega)]; exact pt.2.2.2.2 i hi
      · exact ⟨fun a h1 h2 => ⟨funext fun k => b3 a k (fun w => h1 w.1) (by omega), by rw [b4]⟩, fun k h1 _ => b3 o k (fun w => h1 w.2) (by omega)⟩
    refine b_X6_reach_0 ho ⟨fun _ => ?_, fun z => absurd z hn1⟩
    refine k_compare x17 x61 (by omega) hn hh pf hlc f2 hl f1 (fun r r1 r2 => ?_)
    refine b_X6_reach_33 ho ⟨fun z => ⟨fun _ => ?_, fun w => absurd w hn1⟩, fun z => ?_⟩
    · have hk1 : ¬ ky l = ky (S_f s) := fun w => z (r2.mpr w)
      refine k_compare x17 x21 (by omega) hn hh pt hlc t2 hl t1 (fun r' r1' r2' => ?_)
      refine b_X6_reach_68 ho ⟨fun w => ⟨fun w2 => ?_, fun w2 => ?_⟩, fun w => ?_⟩
      · refine H m ?_ ⟨fun _ _ _ => ⟨rfl, rfl⟩, fun _ _ _ => rfl⟩
        have n1 : ¬ ky l < ky (S_t s) := fun v => (Int32.not_lt.mpr w) (r1'.mpr v)
        have n2 : ¬ ky l = ky (S_t s) := fun v => w2 (r2'.mpr v)
        unfold sl
        rw [if_neg h0, if_neg hk1, if_neg n1, if_neg n2]
        exact ⟨p4, p5, p6, p7, p10, p9, pr, fun _ => ⟨pf, pt⟩⟩
      · have n2 := r2'.mp w2
        refine gen _ (o + 21) (S_t s) x21 pt t3 (fun m' a1 a2 => ?_)
        refine b_X6_reach_109 (H m' ?_ a2)
        unfold sl
        rw [if_neg h0, if_neg hk1, if_neg (show ¬ ky l < ky (S_t s) by omega), if_pos n2]
        exact a1
      · have n1 : ky l < ky (S_t s) := r1'.mp (Int32.not_le.mp w)
        refine best m (S_f s) ⟨fun _ _ _ => ⟨rfl, rfl⟩, fun _ _ _ => rfl⟩ pf p4 p5 p6 p7 p10 p9 pr (fun m' a1 a2 => H m' ?_ a2)
        unfold sl
        rw [if_neg h0, if_neg hk1, if_pos n1]
        exact a1
    · have k1 := r2.mp z
      refine gen _ (o + 61) (S_f s) x61 pf f3 (fun m' a1 a2 => ?_)
      refine b_X6_reach_44 (H m' ?_ a2)
      unfold sl
      rw [if_neg h0, if_pos k1]
      exact a1
end ZRe
