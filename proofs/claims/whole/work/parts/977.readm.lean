/-! ===== books: the reference reads ===== -/
def eT (a : Nat) : Int32 := if a = 60 then -1 else nI a
theorem eT_60 : eT 60 = -1 := rfl
theorem eT_n {a : Nat} (h : a ≠ 60) : eT a = nI a := if_neg h
def isDig (t : List Nat) (q : Nat) : Bool := decide (q < t.length ∧ 48 ≤ gt t q ∧ gt t q ≤ 57)
theorem hr_eq {t : List Nat} {q c : Nat} (ht : tpOK t) (hc : c < 2 ^ 31) (h0 : c ≠ 0) : ((if q < t.length then nI (gt t q) else (0 : Int32)) = nI c) = (isAt t q c = true) := by
  unfold isAt
  rw [decide_eq_true_eq]
  by_cases h : q < t.length
  · have hr := ht.2 _ (gt_mem h)
    rw [if_pos h, wIeq (by omega) hc]
    simp [h]
  · rw [if_neg h]
    apply propext
    constructor
    · intro e
      have : nI 0 = nI c := e
      rw [wIeq (by decide) hc] at this
      omega
    · intro e; exact absurd e.1 h
theorem m_isDig {t : List Nat} {q : Nat} (ht : tpOK t) (y : bq_S) : fX10_in (if q < t.length then nI (gt t q) else (0 : Int32)).toInt64 (48 : Int64) (57 : Int64) y = some (b2i (isDig t q), y) := by
  have e1 : (48 : Int64).toInt = 48 := by decide
  have e2 : (57 : Int64).toInt = 57 := by decide
  rw [m_in, Int32.toInt_toInt64, e1, e2]
  congr 3
  unfold isDig
  apply decide_eq_decide.mpr
  by_cases h : q < t.length
  · have hr := ht.2 _ (gt_mem h)
    rw [if_pos h, nI_toInt (by omega)]
    constructor
    · intro a; exact ⟨h, by omega, by omega⟩
    · intro a; omega
  · rw [if_neg h]
    have : (0 : Int32).toInt = 0 := rfl
    rw [this]
    constructor
    · intro a; omega
    · intro a; exact absurd a.1 h
def frR (bk : Nat) (y y1 : bq_S) : Prop := (∀ c, c ≠ 0 → c ≠ 8 → c ≠ 9 → y1.1 c = y.1 c) ∧ (∀ i, i ≠ bk → y1.1 8 i = y.1 8 i) ∧ (∀ k, k ≠ 10 → k ≠ 11 → y1.1 0 k = y.1 0 k) ∧ y1.2 = y.2
theorem frR_tr {bk : Nat} {x y z : bq_S} (h1 : frR bk x y) (h2 : frR bk y z) : frR bk x z := ⟨fun c a b d => (h2.1 c a b d).trans (h1.1 c a b d), fun i a => (h2.2.1 i a).trans (h1.2.1 i a), fun k a b => (h2.2.2.1 k a b).trans (h1.2.2.1 k a b), h2.2.2.2.trans h1.2.2.2⟩
theorem frW_R {bk : Nat} {y y1 : bq_S} (h : frW y y1) : frR bk y y1 := ⟨fun c a _ _ => h.1 c a, fun i _ => by rw [h.1 8 (by decide)], h.2.1, h.2.2⟩
theorem MT_R {bk : Nat} {y y1 : bq_S} {t : List Nat} (h : frR bk y y1) (hc : MT y t) : MT y1 t := ⟨by rw [h.2.2.1 9 (by decide) (by decide)]; exact hc.1, fun i hi => by rw [h.1 6 (by decide) (by decide) (by decide)]; exact hc.2 i hi⟩
theorem m_quotes {n bk : Nat} {t : List Nat} (ht : tpOK t) (hbk : bk < 8) (hn : 70 ≤ n) : ∀ (k f p u : Nat) (ta : Nat → Nat) (y : bq_S), k + pc (u ||| 2 ^ bk) = 9 → k + 1 < f → u < 256 → p ≤ t.length → TA p ta → (u = 0 ∨ isDig t (skp t p) = true) → MN y t p → y.1 0 11 = 0 → y.1 8 bk = nI u → (∀ i, i < 8 → y.1 9 i = eT (ta i)) →
    ∃ v y1, wh f (fX10_clause_b53 n (nI bk)) ((1 : Int32), y) = some (v, y1) ∧ MN y1 t (qF t bk k p u ta).2.2 ∧ y1.1 8 bk = nI (qF t bk k p u ta).1 ∧ (∀ i, i < 8 → y1.1 9 i = eT ((qF t bk k p u ta).2.1 i)) ∧ frR bk y y1 ∧ ((y1.1 0 11 = 1 ∧ ((qF t bk k p u ta).1 = 0 ∨ isDig t (qF t bk k p u ta).2.2 = true)) ∨ (y1.1 0 11 = 0 ∧ (qF t bk k p u ta).1 ≠ 0)) := by
  have h60 := ht.1
  intro k
  induction k with
  | zero =>
    intro f p u ta y h1
    have := pc_le (u ||| 2 ^ bk)
    omega
  | succ k ih =>
    intro f p u ta y h1 h2 h3 h4 h5 h6 h7 h8 h9 h10
    obtain ⟨f, rfl⟩ : ∃ g, f = g + 1 := ⟨f - 1, by omega⟩
    obtain ⟨f, rfl⟩ : ∃ g, f = g + 1 := ⟨f - 1, by omega⟩
    have hq := skp_le h4
    have hu2 : u ||| 2 ^ bk < 256 := or_l8 h3 hbk
    obtain ⟨y1, j1, j2, j3⟩ := m_here ht h4 h7 hn
    have w1 : y1.1 0 11 = 0 := by rw [j3.2.1 11 (by decide)]; exact h8
    have e8 : y1.1 8 bk = nI u := by rw [j3.1 8 (by decide)]; exact h9
    have e9 : ∀ i, i < 8 → y1.1 9 i = eT (ta i) := fun i hi => by rw [j3.1 9 (by decide)]; exact h10 i hi
    obtain ⟨y2, k1, k2, k3, k4⟩ := m_digit (n := n) (lo := 0) (hi := 8) (s := u ||| 2 ^ bk) ht hq j2 w1 (by omega) (by omega) (by omega) hn
    rw [skp_skp] at k1 k2 k3
    have e7 : nI 8 - 1 = (7 : Int32) := by decide
    rw [e7] at k1
    have k1' : fX10_digit n (0 : Int32) (7 : Int32) (nI (u ||| 2 ^ bk)) y1 = some ((if skp t p < t.length then nI (gt t (skp t p)) else 0) - 48, y2) := k1
    have e10 : ¬ (1 : Int32) = 0 := by decide
    have okb := okN hbk (show 8 < 2 ^ 31 by decide)
    have clb := cl0 (show bk < 2 ^ 31 by omega)
    have g8 : y2.1 8 bk = nI u := by rw [k4.1 8 (by decide)]; exact e8
    have g9 : ∀ i, i < 8 → y2.1 9 i = eT (ta i) := fun i hi => by rw [k4.1 9 (by decide)]; exact e9 i hi
    have fy2 : frR bk y y2 := frR_tr (frW_R (frA_W j3)) (frW_R k4)
    cases hd : dgOK t (skp t p) 0 8 (u ||| 2 ^ bk) with
    | false =>
      rw [hd] at k2 k3
      rw [if_neg (by decide)] at k3
      have w2 : y2.1 0 11 = 1 := k2
      have hbody : fX10_clause_b53 n (nI bk) ((1 : Int32), y) = some (.inl ((0 : Int32), y2)) := by
        unfold fX10_clause_b53
        rw [un2_c, if_neg e10, j1, Option.bind_some, un2_c, bd_c, if_pos okb, clb, e8, wI_sh (show bk < 31 by omega), wI_or, k1', Option.bind_some, un2_c, w2, if_neg e10]
        unfold fX10_clause_j134
        rw [w2, if_neg e10]
      have hexit : wh (f + 1) (fX10_clause_b53 n (nI bk)) ((0 : Int32), y2) = some ((0 : Int32), y2) := by
        apply wh_e
        unfold fX10_clause_b53
        rw [un2_c, if_pos rfl]
      rw [qF_f hd]
      refine ⟨0, y2, by rw [wh_c hbody]; exact hexit, k3, g8, g9, fy2, Or.inl ⟨w2, h6⟩⟩
    | true =>
      rw [hd] at k2 k3
      rw [if_pos rfl] at k3
      have w2 : y2.1 0 11 = 0 := k2
      obtain ⟨d1, d2, d3, d4⟩ := dg_of hd
      have hor := pc_or hu2 (show gt t (skp t p) - 48 < 8 by omega) d4
      obtain ⟨e1, e2, e3, e4⟩ := ta_one (u := u) (bk := bk) ht h4 h5 d1 (gt t (skp t p) - 48)
      have e48 : nI (gt t (skp t p)) - (48 : Int32) = nI (gt t (skp t p) - 48) := by
        show nI (gt t (skp t p)) - nI 48 = _
        exact pk_sub (by omega)
      rw [if_pos d1, e48] at k1'
      rw [qF_t hd]
      obtain ⟨d, hdd⟩ : ∃ d, d = gt t (skp t p) - 48 := ⟨_, rfl⟩
      rw [← hdd] at d4 hor e1 e2 e3 e4 k1' ⊢
      have hd8 : d < 8 := by omega
      obtain ⟨V, hV⟩ : ∃ V, V = (if skp t p < ta d then skp t p else ta d) := ⟨_, rfl⟩
      rw [← hV] at e1 e2 e3 e4 ⊢
      have hta : ta d = 60 ∨ ta d < 60 := by rcases h5 d with h | h <;> omega
      obtain ⟨y43, h43⟩ : ∃ w, w = bq_sI y2 8 bk (nI (u ||| 2 ^ d)) := ⟨_, rfl⟩
      have g43 : y43.1 9 d = eT (ta d) := by rw [h43, sI_n _ _ _ (by decide)]; exact g9 d hd8
      obtain ⟨y50, h50⟩ : ∃ w, w = bq_sI y43 9 d (eT V) := ⟨_, rfl⟩
      have okd := okN hd8 (show 8 < 2 ^ 31 by decide)
      have cld := cl0 (show d < 2 ^ 31 by omega)
      have hN50 : MN y50 t (skp t p + 1) := by
        refine ⟨⟨?_, fun i hi => ?_⟩, ?_⟩
        · rw [h50, sI_n _ _ _ (by decide), h43, sI_n _ _ _ (by decide)]; exact k3.1.1
        · rw [h50, sI_n _ _ _ (by decide), h43, sI_n _ _ _ (by decide)]; exact k3.1.2 i hi
        · rw [h50, sI_n _ _ _ (by decide), h43, sI_n _ _ _ (by decide)]; exact k3.2
      have w50 : y50.1 0 11 = 0 := by rw [h50, sI_n _ _ _ (by decide), h43, sI_n _ _ _ (by decide)]; exact w2
      have f50 : frR bk y2 y50 := by
        refine ⟨fun c a b e => ?_, fun i hi => ?_, fun k a b => ?_, ?_⟩
        · rw [h50, sI_n _ _ _ e, h43, sI_n _ _ _ b]
        · rw [h50, sI_n _ _ _ (by decide), h43, sI_s, pk_un hi]
        · rw [h50, sI_n _ _ _ (by decide), h43, sI_n _ _ _ (by decide)]
        · rw [h50, h43]; rfl
      obtain ⟨y3, l1, l2, l3⟩ := m_here ht (show skp t p + 1 ≤ t.length by omega) hN50 hn
      have w3 : y3.1 0 11 = 0 := by rw [l3.2.1 11 (by decide)]; exact w50
      have e83 : y3.1 8 bk = nI (u ||| 2 ^ d) := by rw [l3.1 8 (by decide), h50, sI_n _ _ _ (by decide), h43, sI_s, pk_us]
      have e93 : ∀ i, i < 8 → y3.1 9 i = eT (uNat ta d V i) := fun i hi => by
        rw [l3.1 9 (by decide), h50, sI_s]
        by_cases e : i = d
        · subst e; rw [pk_us, uNat_s]
        · rw [pk_un e, uNat_n _ _ e, h43, sI_n _ _ _ (by decide)]; exact g9 i hi
      have fy3 : frR bk y y3 := frR_tr fy2 (frR_tr f50 (frW_R (frA_W l3)))
      have hj134 : fX10_clause_j134 n (nI bk) y50 = some (.inl (b2i (isDig t (skp t (skp t p + 1))), y3)) := by
        unfold fX10_clause_j134
        rw [w50, if_pos rfl, l1, Option.bind_some, un2_c, m_isDig ht, Option.bind_some, un2_c]
        cases isDig t (skp t (skp t p + 1))
        · rw [if_pos (show b2i false = 0 from rfl)]; rfl
        · rw [if_neg (show ¬ b2i true = 0 by decide)]; rfl
      have hbody : fX10_clause_b53 n (nI bk) ((1 : Int32), y) = some (.inl (b2i (isDig t (skp t (skp t p + 1))), y3)) := by
        have j22 : y1.1 0 10 = nI (skp t p) := j2.2
        unfold fX10_clause_b53
        rw [un2_c, if_neg e10, j1, Option.bind_some, un2_c, bd_c, if_pos okb, clb, e8, wI_sh (show bk < 31 by omega), wI_or, k1', Option.bind_some, un2_c, w2, if_pos rfl, if_pos okb, if_pos okb, bd_c, g8, wI_sh (show d < 31 by omega), wI_or, ← h43, if_pos okd, cld, g43]
        rcases hta with hta | hta
        · have n0 : ¬ (0 : Int32) ≤ eT (ta d) := by rw [hta]; decide
          have eV : eT V = nI (skp t p) := by rw [e4, if_pos hta]; exact eT_n (by omega)
          rw [if_neg n0, if_pos okd, bd_c, j22, ← eV, ← h50, hj134]
        · have ee : eT (ta d) = nI (ta d) := eT_n (by omega)
          have p0 : (0 : Int32) ≤ eT (ta d) := by rw [ee]; exact nI_pos' (by omega)
          have eV : eT V = eT (ta d) := by rw [e4, if_neg (by omega)]
          rw [if_pos p0, if_pos okd, if_pos okd, bd_c, ← eV, ← h50, hj134]
      cases hdig : isDig t (skp t (skp t p + 1)) with
      | true =>
        rw [hdig] at hbody
        have hq3 := skp_le (t := t) (p := skp t p + 1) (by omega)
        have hge3 := skp_ge t (skp t p + 1)
        obtain ⟨v, y4, i1, i2, i3, i4, i5, i6⟩ := ih (f + 1) (skp t (skp t p + 1)) (u ||| 2 ^ d) (uNat ta d V) y3 (by rw [or3, hor.1]; omega) (by omega) (or_l8 h3 hd8) hq3 (TA_le e1 hge3) (Or.inr (by rw [skp_skp]; exact hdig)) l2 w3 e83 e93
        rw [qF_skp] at i2 i3 i4 i6
        exact ⟨v, y4, by rw [wh_c hbody]; exact i1, i2, i3, i4, frR_tr fy3 i5, i6⟩
      | false =>
        rw [hdig] at hbody
        have hd2 : dgOK t (skp t (skp t p + 1)) 0 8 ((u ||| 2 ^ d) ||| 2 ^ bk) = false := by
          cases h : dgOK t (skp t (skp t p + 1)) 0 8 ((u ||| 2 ^ d) ||| 2 ^ bk)
          · rfl
          · obtain ⟨a1, a2, a3, _⟩ := dg_of h
            have : isDig t (skp t (skp t p + 1)) = true := decide_eq_true ⟨a1, a2, by omega⟩
            rw [hdig] at this; cases this
        have hexit : wh (f + 1) (fX10_clause_b53 n (nI bk)) (b2i false, y3) = some ((0 : Int32), y3) := by
          apply wh_e
          unfold fX10_clause_b53
          rw [un2_c, if_pos (show b2i false = 0 from rfl)]
          rfl
        rw [qF_f hd2]
        refine ⟨0, y3, by rw [wh_c hbody]; exact hexit, l2, e83, e93, fy3, Or.inr ⟨w3, fun h => ?_⟩⟩
        have h' : u ||| 2 ^ d = 0 := h
        have : (u ||| 2 ^ d).testBit d = true := by rw [Nat.testBit_or, Nat.testBit_two_pow_self, Bool.or_true]
        rw [h'] at this; simp at this
theorem m_has {y : bq_S} {t : List Nat} {p n c : Nat} (ht : tpOK t) (hp : p ≤ t.length) (h : MN y t p) (hw : y.1 0 11 = 0) (hc : c < 2 ^ 31) (h0 : c ≠ 0) (hn : 70 ≤ n) : ∃ y1, fX10_has n (nI c) y = some (b2i (isAt t (skp t p) c), y1) ∧ MN y1 t (if isAt t (skp t p) c then skp t p + 1 else skp t p) ∧ y1.1 0 11 = 0 ∧ frA y y1 := by
  obtain ⟨y1, j1, j2, j3⟩ := m_here ht hp h hn
  have w1 : y1.1 0 11 = 0 := by rw [j3.2.1 11 (by decide)]; exact hw
  have e := hr_eq (q := skp t p) ht hc h0
  have ea : nI (skp t p) + (0 : Int32) = nI (skp t p) := nI_add (skp t p) 0
  cases hb : isAt t (skp t p) c with
  | true =>
    refine ⟨bq_sI y1 0 10 (nI (skp t p + 1)), ?_, MN_to _ j2.1, by rw [sI_s, pk_un (by decide)]; exact w1, frA_tr j3 (frA_to _ _)⟩
    unfold fX10_has
    rw [hw, if_pos rfl, j1, Option.bind_some, un2_c, if_pos (e.mpr hb)]
    unfold fX10_has_j20
    rw [if_neg (show ¬ (1 : Int32) = 0 by decide), bd_c, j2.2, nI_1, if_pos (Or.inr rfl)]
    rfl
  | false =>
    refine ⟨bq_sI y1 0 10 (nI (skp t p)), ?_, MN_to _ j2.1, by rw [sI_s, pk_un (by decide)]; exact w1, frA_tr j3 (frA_to _ _)⟩
    unfold fX10_has
    rw [hw, if_pos rfl, j1, Option.bind_some, un2_c, if_neg (fun h => by rw [e, hb] at h; cases h)]
    unfold fX10_has_j20
    rw [if_pos rfl, bd_c, j2.2, ea, if_pos (Or.inl rfl)]
    rfl
theorem m_has_w {y : bq_S} {t : List Nat} {p n : Nat} (c : Int32) (h : MN y t p) (hw : y.1 0 11 = 1) : ∃ y1, fX10_has n c y = some ((0 : Int32), y1) ∧ MN y1 t p ∧ y1.1 0 11 = 1 ∧ frA y y1 := by
  have ea : nI p + (0 : Int32) = nI p := nI_add p 0
  refine ⟨bq_sI y 0 10 (nI p), ?_, MN_to _ h.1, by rw [sI_s, pk_un (by decide)]; exact hw, frA_to _ _⟩
  unfold fX10_has
  rw [hw, if_neg (by decide)]
  unfold fX10_has_j20
  rw [if_pos rfl, bd_c, h.2, ea, if_pos (Or.inl rfl)]
def MD (y : bq_S) (t : List Nat) (p : Nat) (S : PS) (n : Nat) : Prop := MN y t p ∧ y.1 0 11 = 0 ∧ y.1 0 14 = nI S.2.2.1 ∧ (∀ i, i < n → y.1 7 i = nI (S.1 i)) ∧ (∀ i, i < n → y.1 8 i = nI (S.2.1 i)) ∧ (∀ i, i < 8 → y.1 9 i = eT (S.2.2.2 i))
def frE (y y1 : bq_S) : Prop := (∀ c, c ≠ 0 → c ≠ 7 → c ≠ 8 → c ≠ 9 → y1.1 c = y.1 c) ∧ (∀ k, k ≠ 10 → k ≠ 11 → k ≠ 14 → y1.1 0 k = y.1 0 k) ∧ y1.2 = y.2
theorem frE_tr {x y z : bq_S} (h1 : frE x y) (h2 : frE y z) : frE x z := ⟨fun c a b d e => (h2.1 c a b d e).trans (h1.1 c a b d e), fun k a b d => (h2.2.1 k a b d).trans (h1.2.1 k a b d), h2.2.2.trans h1.2.2⟩
theorem frA_E {y y1 : bq_S} (h : frA y y1) : frE y y1 := ⟨fun c a _ _ _ => h.1 c a, fun k a _ _ => h.2.1 k a, h.2.2⟩
theorem frW_E {y y1 : bq_S} (h : frW y y1) : frE y y1 := ⟨fun c a _ _ _ => h.1 c a, fun k a b _ => h.2.1 k a b, h.2.2⟩
theorem frR_E {bk : Nat} {y y1 : bq_S} (h : frR bk y y1) : frE y y1 := ⟨fun c a _ d e => h.1 c a d e, fun k a b _ => h.2.2.1 k a b, h.2.2.2⟩
theorem MD_A {y y1 : bq_S} {t : List Nat} {p q : Nat} {S : PS} {n : Nat} (h : frA y y1) (hq : MN y1 t q) (hd : MD y t p S n) : MD y1 t q S n := by
  obtain ⟨_, a2, a3, a4, a5, a6⟩ := hd
  exact ⟨hq, by rw [h.2.1 11 (by decide)]; exact a2, by rw [h.2.1 14 (by decide)]; exact a3, fun i hi => by rw [h.1 7 (by decide)]; exact a4 i hi, fun i hi => by rw [h.1 8 (by decide)]; exact a5 i hi, fun i hi => by rw [h.1 9 (by decide)]; exact a6 i hi⟩
/-- behind the thickness and the p -/
theorem m_j35 {y : bq_S} {n bk p : Nat} {t : List Nat} {S : PS} (v11 v12 : Int32) (ht : tpOK t) (hbk : bk < 8) (hn : 70 ≤ n) (hp : p ≤ t.length) (hta : TA p S.2.2.2) (hN : MN y t p) (hw : y.1 0 11 = 0) (h14 : v11 ||| v12 = nI S.2.2.1) (h7 : ∀ i, i < bk + 1 → y.1 7 i = nI (S.1 i)) (h8 : ∀ i, i < bk → y.1 8 i = nI (S.2.1 i)) (h0 : S.2.1 bk = 0) (h9 : ∀ i, i < 8 → y.1 9 i = eT (S.2.2.2 i)) : ∃ y1, fX10_clause_j35 n (nI bk) v11 v12 y = some y1 ∧ frE y y1 ∧ MN y1 t (if isAt t (skp t p) 58 then (qF t bk 8 (skp t p + 1) 0 S.2.2.2).2.2 else skp t p) ∧
    ((y1.1 0 11 = 1 ∧ isAt t (skp t p) 58 = true ∧ ((qF t bk 8 (skp t p + 1) 0 S.2.2.2).1 = 0 ∨ isDig t (qF t bk 8 (skp t p + 1) 0 S.2.2.2).2.2 = true)) ∨
     ((isAt t (skp t p) 58 = true → (qF t bk 8 (skp t p + 1) 0 S.2.2.2).1 ≠ 0) ∧ MD y1 t (if isAt t (skp t p) 58 then (qF t bk 8 (skp t p + 1) 0 S.2.2.2).2.2 else skp t p) (if isAt t (skp t p) 58 then (S.1, uNat S.2.1 bk (qF t bk 8 (skp t p + 1) 0 S.2.2.2).1, S.2.2.1, (qF t bk 8 (skp t p + 1) 0 S.2.2.2).2.1) else S) (bk + 1))) := by
  have hge := skp_ge t p
  obtain ⟨y15, h15⟩ : ∃ w, w = bq_sI (bq_sI y 0 14 (nI S.2.2.1)) 8 bk (0 : Int32) := ⟨_, rfl⟩
  have f15 : frE y y15 := by
    refine ⟨fun c a b d e => ?_, fun k a b d => ?_, ?_⟩
    · rw [h15, sI_n _ _ _ d, sI_n _ _ _ a]
    · rw [h15, sI_n _ _ _ (by decide), sI_s, pk_un d]
    · rw [h15]; rfl
  have hN15 : MN y15 t p := by
    refine ⟨⟨?_, fun i hi => ?_⟩, ?_⟩
    · rw [h15, sI_n _ _ _ (by decide), sI_s, pk_un (by decide)]; exact hN.1.1
    · rw [h15, sI_n _ _ _ (by decide), sI_n _ _ _ (by decide)]; exact hN.1.2 i hi
    · rw [h15, sI_n _ _ _ (by decide), sI_s, pk_un (by decide)]; exact hN.2
  have w15 : y15.1 0 11 = 0 := by rw [h15, sI_n _ _ _ (by decide), sI_s, pk_un (by decide)]; exact hw
  have c14 : y15.1 0 14 = nI S.2.2.1 := by rw [h15, sI_n _ _ _ (by decide), sI_s, pk_us]
  have c7 : ∀ i, i < bk + 1 → y15.1 7 i = nI (S.1 i) := fun i hi => by rw [h15, sI_n _ _ _ (by decide), sI_n _ _ _ (by decide)]; exact h7 i hi
  have c8 : ∀ i, i < bk + 1 → y15.1 8 i = nI (S.2.1 i) := fun i hi => by
    rw [h15, sI_s]
    by_cases e : i = bk
    · subst e; rw [pk_us, h0]; rfl
    · rw [pk_un e, sI_n _ _ _ (by decide)]; exact h8 i (by omega)
  have c9 : ∀ i, i < 8 → y15.1 9 i = eT (S.2.2.2 i) := fun i hi => by rw [h15, sI_n _ _ _ (by decide), sI_n _ _ _ (by decide)]; exact h9 i hi
  have hD15 : MD y15 t p S (bk + 1) := ⟨hN15, w15, c14, c7, c8, c9⟩
  obtain ⟨y18, k1, k2, k3, k4⟩ := m_has (n := n) (c := 58) ht hp hN15 w15 (by decide) (by decide) hn
  have k1' : fX10_has n (58 : Int32) y15 = some (b2i (isAt t (skp t p) 58), y18) := k1
  have hhead : fX10_clause_j35 n (nI bk) v11 v12 y = (wh n (fX10_clause_b53 n (nI bk)) (b2i (isAt t (skp t p) 58), y18)).bind (fun e52 => un2 e52 (fun v53 x54 => some x54)) := by
    unfold fX10_clause_j35
    rw [bd_c, h14, if_pos (okN hbk (by decide)), bd_c, cl0 (show bk < 2 ^ 31 by omega), ← h15, k1', Option.bind_some, un2_c]
  cases hc : isAt t (skp t p) 58 with
  | false =>
    rw [hc, if_neg (by decide)] at k2
    have hexit : wh n (fX10_clause_b53 n (nI bk)) (b2i false, y18) = some ((0 : Int32), y18) := by
      obtain ⟨m, rfl⟩ : ∃ m, n = m + 1 := ⟨n - 1, by omega⟩
      apply wh_e
      unfold fX10_clause_b53
      rw [un2_c, if_pos (show b2i false = 0 from rfl)]
      rfl
    refine ⟨y18, ?_, frE_tr f15 (frA_E k4), k2, Or.inr ⟨fun h => (by cases h), MD_A k4 k2 hD15⟩⟩
    rw [hhead, hc, hexit, Option.bind_some, un2_c]
  | true =>
    rw [hc, if_pos rfl] at k2
    have hlt := isAt_lt hc
    obtain ⟨p1, p2, p3⟩ := pc_two hbk
    have c88 : y18.1 8 bk = nI 0 := by rw [k4.1 8 (by decide), c8 bk (by omega), h0]
    have c99 : ∀ i, i < 8 → y18.1 9 i = eT (S.2.2.2 i) := fun i hi => by rw [k4.1 9 (by decide)]; exact c9 i hi
    obtain ⟨v, y1, l1, l2, l3, l4, l5, l6⟩ := m_quotes (n := n) (t := t) ht hbk hn 8 n (skp t p + 1) 0 S.2.2.2 y18 (by rw [Nat.zero_or, p1]) (by omega) (by decide) (by omega) (TA_le hta (by omega)) (Or.inl rfl) k2 k3 c88 c99
    have l1' : wh n (fX10_clause_b53 n (nI bk)) (b2i true, y18) = some (v, y1) := l1
    refine ⟨y1, by rw [hhead, hc, l1', Option.bind_some, un2_c], frE_tr f15 (frE_tr (frA_E k4) (frR_E l5)), l2, ?_⟩
    rcases l6 with ⟨a, b⟩ | ⟨a, b⟩
    · exact Or.inl ⟨a, rfl, b⟩
    · refine Or.inr ⟨fun _ => b, l2, a, ?_, fun i hi => ?_, fun i hi => ?_, l4⟩
      · rw [l5.2.2.1 14 (by decide) (by decide), k4.2.1 14 (by decide)]; exact c14
      · rw [l5.1 7 (by decide) (by decide) (by decide), k4.1 7 (by decide)]; exact c7 i hi
      · show y1.1 8 i = nI (uNat S.2.1 bk (qF t bk 8 (skp t p + 1) 0 S.2.2.2).1 i)
        by_cases e : i = bk
        · subst e; rw [uNat_s]; exact l3
        · rw [uNat_n _ _ e, l5.2.1 i e, k4.1 8 (by decide)]; exact c8 i hi
