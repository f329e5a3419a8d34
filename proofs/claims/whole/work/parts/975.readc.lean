/-! ===== books: the class reads ===== -/
theorem lk_eq {t : List Nat} {q c : Nat} (ht : tpOK t) (hc : c < 2 ^ 31) : ((if q < t.length then nI (gt t q) else (-1 : Int32)) = nI c) = (isAt t q c = true) := by
  unfold isAt
  rw [decide_eq_true_eq]
  by_cases h : q < t.length
  · have hr := ht.2 _ (gt_mem h)
    rw [if_pos h, wIeq (by omega) hc]
    simp [h]
  · rw [if_neg h]
    apply propext
    constructor
    · intro e
      have h2 := congrArg Int32.toInt e
      rw [nI_toInt hc] at h2
      have : ((-1 : Int32)).toInt = -1 := by decide
      omega
    · intro e; exact absurd e.1 h
def frD (x x1 : bq_S) : Prop := (∀ c, c ≠ 15 → c ≠ 16 → c ≠ 17 → c ≠ 21 → c ≠ 22 → c ≠ 24 → x1.1 c = x.1 c) ∧ x1.1 22 2 = x.1 22 2 ∧ x1.2 = x.2
theorem frD_rf (x : bq_S) : frD x x := ⟨fun _ _ _ _ _ _ _ => rfl, rfl, rfl⟩
theorem frD_tr {x y z : bq_S} (h1 : frD x y) (h2 : frD y z) : frD x z := ⟨fun c a b d e f g => (h2.1 c a b d e f g).trans (h1.1 c a b d e f g), h2.2.1.trans h1.2.1, h2.2.2.trans h1.2.2⟩
theorem frN_D {x x1 : bq_S} (h : frN x x1) : frD x x1 := ⟨fun c _ _ _ _ e _ => h.1 c e, h.2.1 2 (by decide), h.2.2⟩
theorem CT_D {x x1 : bq_S} {t : List Nat} (h : frD x x1) (hc : CT x t) : CT x1 t := ⟨by rw [h.2.1]; exact hc.1, fun i hi => by rw [h.1 23 (by decide) (by decide) (by decide) (by decide) (by decide) (by decide)]; exact hc.2 i hi⟩
/-- the draft -/
def DR (x : bq_S) (S : PS) (n : Nat) : Prop := x.1 15 0 = nI n ∧ x.1 15 1 = nI S.2.2.1 ∧ (∀ i, i < n → x.1 16 i = nI (S.1 i)) ∧ (∀ i, i < 8 → x.1 17 i = nI (S.2.1 i)) ∧ (∀ i, i < 8 → x.1 24 i = nI (S.2.2.2 i))
theorem DR_N {x x1 : bq_S} {S : PS} {n : Nat} (h : frN x x1) (hd : DR x S n) : DR x1 S n := by
  obtain ⟨a1, a2, a3, a4, a5⟩ := hd
  have e15 := h.1 15 (by decide)
  exact ⟨by rw [e15]; exact a1, by rw [e15]; exact a2, fun i hi => by rw [h.1 16 (by decide)]; exact a3 i hi, fun i hi => by rw [h.1 17 (by decide)]; exact a4 i hi, fun i hi => by rw [h.1 24 (by decide)]; exact a5 i hi⟩
/-- the place goes on -/
theorem CN_1 {x : bq_S} {t : List Nat} {p : Nat} (h : CN x t p) : CN (bq_sI x 22 3 ((x.1 22 3) + (1 : Int32))) t (p + 1) ∧ frN x (bq_sI x 22 3 ((x.1 22 3) + (1 : Int32))) := by
  rw [h.2, nI_1]
  exact ⟨CN_to (p + 1) h.1, frN_to x _⟩
def CQ (x : bq_S) (t : List Nat) (bk p u : Nat) (ta : Nat → Nat) : Prop := CN x t p ∧ x.1 17 bk = nI u ∧ ∀ i, i < 8 → x.1 24 i = nI (ta i)
def frQ (bk : Nat) (x x1 : bq_S) : Prop := (∀ c, c ≠ 17 → c ≠ 22 → c ≠ 24 → x1.1 c = x.1 c) ∧ (∀ i, i ≠ bk → x1.1 17 i = x.1 17 i) ∧ x1.1 22 2 = x.1 22 2 ∧ x1.2 = x.2
theorem frQ_tr {bk : Nat} {x y z : bq_S} (h1 : frQ bk x y) (h2 : frQ bk y z) : frQ bk x z := ⟨fun c a b d => (h2.1 c a b d).trans (h1.1 c a b d), fun i a => (h2.2.1 i a).trans (h1.2.1 i a), h2.2.2.1.trans h1.2.2.1, h2.2.2.2.trans h1.2.2.2⟩
theorem frN_Q {bk : Nat} {x x1 : bq_S} (h : frN x x1) : frQ bk x x1 := ⟨fun c _ b _ => h.1 c b, fun i _ => by rw [h.1 17 (by decide)], h.2.1 2 (by decide), h.2.2⟩
theorem s_quoted {n bk : Nat} {t : List Nat} (ht : tpOK t) (hbk : bk < 8) (hn : 70 ≤ n) : ∀ (k m f p u : Nat) (ta : Nat → Nat) (x : bq_S), m + k = 8 → k < f → k + pc (u ||| 2 ^ bk) = 9 → u < 256 → (m = 0 ↔ u = 0) → p ≤ t.length → TA p ta → CQ x t bk p u ta →
    ∃ x1, wh f (fX7_readQuoted_b8 n 15 (nI bk)) (nI (u ||| 2 ^ bk), nI m, x) = some (.inr (b2i (decide ((qF t bk k p u ta).1 ≠ 0)), x1)) ∧ CQ x1 t bk (qF t bk k p u ta).2.2 (qF t bk k p u ta).1 (qF t bk k p u ta).2.1 ∧ frQ bk x x1 := by
  have h60 := ht.1
  intro k
  induction k with
  | zero =>
    intro m f p u ta x h1 h2 h3
    have := pc_le (u ||| 2 ^ bk)
    omega
  | succ k ih =>
    intro m f p u ta x h1 h2 h3 h4 h5 h6 h7 h8
    obtain ⟨f, rfl⟩ : ∃ g, f = g + 1 := ⟨f - 1, by omega⟩
    obtain ⟨x1, j1, j2, j3⟩ := s_look ht h6 h8.1 hn
    have hq := skp_le h6
    have hu2 : u ||| 2 ^ bk < 256 := or_l8 h4 hbk
    have n8 : ¬ (8 : Int32) ≤ nI m := by rw [le8 (show m < 2 ^ 31 by omega)]; omega
    have e17 : x1.1 17 bk = nI u := by rw [j3.1 17 (by decide)]; exact h8.2.1
    have e24 : ∀ i, i < 8 → x1.1 24 i = nI (ta i) := fun i hi => by rw [j3.1 24 (by decide)]; exact h8.2.2 i hi
    have hj45 : fX7_readQuoted_j45 n (nI m) x1 = some (.inr (.inr (b2i (decide (u ≠ 0)), x1))) := by
      unfold fX7_readQuoted_j45
      have e0 : (nI m ≤ (0 : Int32)) = (m ≤ 0) := wIle (b := 0) (by omega) (by decide)
      by_cases c : m ≤ 0
      · have : u = 0 := h5.mp (by omega)
        rw [if_pos (e0.mpr c)]; simp [this, b2i]
      · have : u ≠ 0 := fun e => c (by have := h5.mpr e; omega)
        rw [if_neg (fun h => c (e0.mp h))]; simp [this, b2i]
    have hb0 : fX7_readQuoted_b8 n 15 (nI bk) (nI (u ||| 2 ^ bk), nI m, x) = bd ((if skp t p < t.length then nI (gt t (skp t p)) else -1) - (48 : Int32)) (fun v13 => if v13 < 0 then fX7_readQuoted_j45 n (nI m) x1 else if (8 : Int32) ≤ v13 then fX7_readQuoted_j45 n (nI m) x1 else (fX9_has (nI (u ||| 2 ^ bk)) v13 x1).bind (fun o19 => un2 o19 (fun v21 x20 => if v21 = 0 then (fX9_bit v13 x20).bind (fun o23 => un2 o23 (fun v25 x24 => bd (nI (u ||| 2 ^ bk) ||| v25) (fun v26 => if ok_i (nI bk) 8 then (fX9_bit v13 x24).bind (fun o28 => un2 o28 (fun v30 x29 => if ok_i (nI bk) 8 then bd (bq_sI x29 (15 + 2) (nI bk).toNatClampNeg ((x24.1 (15 + 2) (nI bk).toNatClampNeg) ||| v30)) (fun x31 => if ok_i v13 8 then if ok_i v13 8 then bd (bq_sI x31 24 v13.toNatClampNeg (if (x31.1 22 3) < (x31.1 24 v13.toNatClampNeg) then (x31.1 22 3) else (x31.1 24 v13.toNatClampNeg))) (fun x34 => bd (bq_sI x34 22 3 ((x34.1 22 3) + (1 : Int32))) (fun x36 => bd (nI m + (1 : Int32)) (fun v37 => some (.inl (v26, v37, x36))))) else none else none) else none)) else none))) else fX7_readQuoted_j45 n (nI m) x20))) := by
      unfold fX7_readQuoted_b8
      unfold un3
      dsimp only
      rw [if_neg n8, j1, Option.bind_some, un2_c]
    cases hd : dgOK t (skp t p) 0 8 (u ||| 2 ^ bk) with
    | false =>
      rw [qF_f hd]
      refine ⟨x1, wh_e ?_, ⟨j2, e17, e24⟩, frN_Q j3⟩
      rw [hb0, bd_c]
      have hd' := of_decide_eq_false hd
      by_cases c : skp t p < t.length
      · have hr := ht.2 _ (gt_mem c)
        rw [if_pos c]
        by_cases c1 : gt t (skp t p) < 48
        · have : nI (gt t (skp t p)) - (48 : Int32) < 0 := pk_sneg (b := 48) (by decide) c1
          rw [if_pos this, hj45]
        · have e48 : nI (gt t (skp t p)) - (48 : Int32) = nI (gt t (skp t p) - 48) := by
            show nI (gt t (skp t p)) - nI 48 = _
            exact pk_sub (by omega)
          rw [e48, if_neg (nI_pos (show gt t (skp t p) - 48 < 2 ^ 31 by omega))]
          by_cases c2 : 8 ≤ gt t (skp t p) - 48
          · have : (8 : Int32) ≤ nI (gt t (skp t p) - 48) := by rw [le8 (show gt t (skp t p) - 48 < 2 ^ 31 by omega)]; exact c2
            rw [if_pos this, hj45]
          · have : ¬ (8 : Int32) ≤ nI (gt t (skp t p) - 48) := by rw [le8 (show gt t (skp t p) - 48 < 2 ^ 31 by omega)]; exact c2
            have hbit : (u ||| 2 ^ bk).testBit (gt t (skp t p) - 48) = true := by
              cases hb : (u ||| 2 ^ bk).testBit (gt t (skp t p) - 48)
              · exact absurd ⟨c, by omega, by omega, hb⟩ hd'
              · rfl
            rw [if_neg this, s_has _ _ x1 (show u ||| 2 ^ bk < 2 ^ 31 by omega) (show gt t (skp t p) - 48 < 31 by omega), Option.bind_some, un2_c, hbit, if_neg (show ¬ b2i true = 0 by decide), hj45]
      · rw [if_neg c]
        have : ((-1 : Int32) - (48 : Int32)) < 0 := by decide
        rw [if_pos this, hj45]
    | true =>
      obtain ⟨d1, d2, d3, d4⟩ := dg_of hd
      obtain ⟨d5, d6⟩ := or_no d4
      have hor := pc_or hu2 (show gt t (skp t p) - 48 < 8 by omega) d4
      rw [qF_t hd]
      obtain ⟨e1, e2, e3, e4⟩ := ta_one (u := u) (bk := bk) ht h6 h7 d1 (gt t (skp t p) - 48)
      have e48 : nI (gt t (skp t p)) - (48 : Int32) = nI (gt t (skp t p) - 48) := by
        show nI (gt t (skp t p)) - nI 48 = _
        exact pk_sub (by omega)
      obtain ⟨d, hdd⟩ : ∃ d, d = gt t (skp t p) - 48 := ⟨_, rfl⟩
      rw [← hdd] at d4 d5 d6 hor e1 e2 e3 e4 e48 ⊢
      have hd8 : d < 8 := by omega
      have hta60 : ta d ≤ 60 := by rcases h7 d with h | h <;> omega
      have n13 : ¬ (8 : Int32) ≤ nI d := by rw [le8 (show d < 2 ^ 31 by omega)]; omega
      obtain ⟨x31, h31⟩ : ∃ w, w = bq_sI x1 (15 + 2) bk (nI (u ||| 2 ^ d)) := ⟨_, rfl⟩
      have g22 : x31.1 22 3 = nI (skp t p) := by rw [h31, sI_n _ _ _ (by decide)]; exact j2.2
      have g24 : x31.1 24 d = nI (ta d) := by rw [h31, sI_n _ _ _ (by decide)]; exact e24 d hd8
      have hmin : (if nI (skp t p) < nI (ta d) then nI (skp t p) else nI (ta d)) = nI (if skp t p < ta d then skp t p else ta d) := by
        have ee : (nI (skp t p) < nI (ta d)) = (skp t p < ta d) := wIlt (by omega) (by omega)
        by_cases c : skp t p < ta d
        · rw [if_pos (ee.mpr c), if_pos c]
        · rw [if_neg (fun h => c (ee.mp h)), if_neg c]
      obtain ⟨x34, h34⟩ : ∃ w, w = bq_sI x31 24 d (nI (if skp t p < ta d then skp t p else ta d)) := ⟨_, rfl⟩
      have g34 : x34.1 22 3 = nI (skp t p) := by rw [h34, sI_n _ _ _ (by decide)]; exact g22
      obtain ⟨x36, h36⟩ : ∃ w, w = bq_sI x34 22 3 (nI (skp t p + 1)) := ⟨_, rfl⟩
      have f36 : frQ bk x1 x36 := by
        refine ⟨fun c a b e => ?_, fun i hi => ?_, ?_, ?_⟩
        · rw [h36, sI_n _ _ _ b, h34, sI_n _ _ _ e, h31, sI_n _ _ _ a]
        · rw [h36, sI_n _ _ _ (by decide), h34, sI_n _ _ _ (by decide), h31, sI_s, pk_un hi]
        · rw [h36, sI_s, pk_un (by decide), h34, sI_n _ _ _ (by decide), h31, sI_n _ _ _ (by decide)]
        · rw [h36, h34, h31]; rfl
      have hbody : fX7_readQuoted_b8 n 15 (nI bk) (nI (u ||| 2 ^ bk), nI m, x) = some (.inl (nI ((u ||| 2 ^ d) ||| 2 ^ bk), nI (m + 1), x36)) := by
        have ok1 := okN hbk (show 8 < 2 ^ 31 by decide)
        have ok2 := okN hd8 (show 8 < 2 ^ 31 by decide)
        have e17' : x1.1 (15 + 2) bk = nI u := e17
        rw [hb0, bd_c, if_pos d1, e48, if_neg (nI_pos (show d < 2 ^ 31 by omega)), if_neg n13, s_has _ _ x1 (show u ||| 2 ^ bk < 2 ^ 31 by omega) (show d < 31 by omega), Option.bind_some, un2_c, d4, if_pos (show b2i false = 0 from rfl), s_bit d x1 (show d < 31 by omega), Option.bind_some, un2_c, bd_c, if_pos ok1, s_bit d x1 (show d < 31 by omega), Option.bind_some, un2_c, if_pos ok1, bd_c, cl0 (show bk < 2 ^ 31 by omega), e17', wI_or, wI_or, ← h31, if_pos ok2, if_pos ok2, bd_c, cl0 (show d < 2 ^ 31 by omega), g22, g24, hmin, ← h34, bd_c, g34, nI_1 (skp t p), ← h36, bd_c, nI_1, or3]
      have hCQ : CQ x36 t bk (skp t p + 1) (u ||| 2 ^ d) (uNat ta d (if skp t p < ta d then skp t p else ta d)) := by
        refine ⟨⟨⟨by rw [f36.2.2.1]; exact j2.1.1, fun i hi => by rw [f36.1 23 (by decide) (by decide) (by decide)]; exact j2.1.2 i hi⟩, by rw [h36, sI_s, pk_us]⟩, ?_, fun i hi => ?_⟩
        · rw [h36, sI_n _ _ _ (by decide), h34, sI_n _ _ _ (by decide), h31]
          show (bq_sI x1 17 bk _).1 17 bk = _
          rw [sI_s, pk_us]
        · rw [h36, sI_n _ _ _ (by decide), h34, sI_s]
          by_cases e : i = d
          · subst e; rw [pk_us, uNat_s]
          · rw [pk_un e, uNat_n _ _ e, h31, sI_n _ _ _ (by decide)]; exact e24 i hi
      obtain ⟨x2, k1, k2, k3⟩ := ih (m + 1) f (skp t p + 1) (u ||| 2 ^ d) (uNat ta d (if skp t p < ta d then skp t p else ta d)) x36 (by omega) (by omega) (by rw [or3, hor.1]; omega) (or_l8 h4 hd8) (by
        constructor
        · intro h; omega
        · intro h
          have : (u ||| 2 ^ d).testBit d = true := by rw [Nat.testBit_or, Nat.testBit_two_pow_self, Bool.or_true]
          rw [h] at this; simp at this) (by omega) e1 hCQ
      exact ⟨x2, by rw [wh_c hbody]; exact k1, k2, frQ_tr (frN_Q j3) (frQ_tr f36 k3)⟩
theorem s_readQuoted {x : bq_S} {n bk p : Nat} {t : List Nat} {S : PS} (ht : tpOK t) (hbk : bk < 8) (hn : 70 ≤ n) (hp : p ≤ t.length) (hta : TA p S.2.2.2) (h0 : S.2.1 bk = 0) (hN : CN x t p) (hD : DR x S (bk + 1)) : ∃ x1, fX7_readQuoted n 15 (nI bk) x = some (b2i (decide ((qF t bk 8 p 0 S.2.2.2).1 ≠ 0)), x1) ∧ CN x1 t (qF t bk 8 p 0 S.2.2.2).2.2 ∧ DR x1 (S.1, uNat S.2.1 bk (qF t bk 8 p 0 S.2.2.2).1, S.2.2.1, (qF t bk 8 p 0 S.2.2.2).2.1) (bk + 1) ∧ frD x x1 := by
  obtain ⟨a1, a2, a3, a4, a5⟩ := hD
  obtain ⟨p1, p2, p3⟩ := pc_two hbk
  obtain ⟨x1, k1, k2, k3⟩ := s_quoted (n := n) (t := t) ht hbk hn 8 0 n p 0 S.2.2.2 x rfl (by omega) (by rw [Nat.zero_or, p1]) (by decide) (by simp) hp hta ⟨hN, by rw [a4 bk hbk, h0], a5⟩
  rw [Nat.zero_or] at k1
  have k1' : wh n (fX7_readQuoted_b8 n 15 (nI bk)) (nI (2 ^ bk), (0 : Int32), x) = _ := k1
  refine ⟨x1, ?_, k2.1, ⟨by rw [k3.1 15 (by decide) (by decide) (by decide)]; exact a1, by rw [k3.1 15 (by decide) (by decide) (by decide)]; exact a2, fun i hi => by rw [k3.1 16 (by decide) (by decide) (by decide)]; exact a3 i hi, fun i hi => ?_, k2.2.2⟩, ⟨fun c _ _ d _ e f => k3.1 c d e f, k3.2.2.1, k3.2.2.2⟩⟩
  · unfold fX7_readQuoted
    rw [s_bit bk x (show bk < 31 by omega), Option.bind_some, un2_c, k1', Option.bind_some]
    rfl
  · show x1.1 17 i = nI (uNat S.2.1 bk (qF t bk 8 p 0 S.2.2.2).1 i)
    by_cases e : i = bk
    · subst e; rw [uNat_s]; exact k2.2.1
    · rw [uNat_n _ _ e, k3.2.1 i e]; exact a4 i hi
/-- a changed draft -/
theorem DR_up {x x1 : bq_S} {S S1 : PS} {n n1 : Nat} (hd : DR x S n) (h15 : x1.1 15 0 = nI n1) (h151 : x1.1 15 1 = nI S1.2.2.1) (h16 : ∀ i, i < n1 → x1.1 16 i = nI (S1.1 i)) (h17 : x1.1 17 = x.1 17) (h24 : x1.1 24 = x.1 24) (e1 : S1.2.1 = S.2.1) (e2 : S1.2.2.2 = S.2.2.2) : DR x1 S1 n1 :=
  ⟨h15, h151, h16, fun i hi => by rw [h17, e1]; exact hd.2.2.2.1 i hi, fun i hi => by rw [h24, e2]; exact hd.2.2.2.2 i hi⟩
