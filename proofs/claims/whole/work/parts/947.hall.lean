/-! ===== a digit; the hall read ===== -/
def frW (y y1 : bq_S) : Prop := (∀ c, c ≠ 0 → y1.1 c = y.1 c) ∧ (∀ k, k ≠ 10 → k ≠ 11 → y1.1 0 k = y.1 0 k) ∧ y1.2 = y.2
theorem frA_W {y y1 : bq_S} (h : frA y y1) : frW y y1 := ⟨h.1, fun k a _ => h.2.1 k a, h.2.2⟩
theorem frW_tr {x y z : bq_S} (h1 : frW x y) (h2 : frW y z) : frW x z := ⟨fun c hc => (h2.1 c hc).trans (h1.1 c hc), fun k a b => (h2.2.1 k a b).trans (h1.2.1 k a b), h2.2.2.trans h1.2.2⟩
theorem MT_W {y y1 : bq_S} {t : List Nat} (h : frW y y1) (hc : MT y t) : MT y1 t := ⟨by rw [h.2.1 9 (by decide) (by decide)]; exact hc.1, fun i hi => by rw [h.1 6 (by decide)]; exact hc.2 i hi⟩
def dgOK (t : List Nat) (q lo hi s : Nat) : Bool := decide (q < t.length ∧ 48 + lo ≤ gt t q ∧ gt t q < 48 + hi ∧ s.testBit (gt t q - 48) = false)
theorem dig_end {y : bq_S} {n : Nat} {t : List Nat} {q : Nat} (c : Int32) (ok : Bool) (h : MN y t q) (hw : y.1 0 11 = 0) (hq : q ≤ 60) : ∃ y1, fX10_digit_j72 n c (b2i ok) y = some (c - 48, y1) ∧ y1.1 0 11 = b2i (!ok) ∧ MN y1 t (if ok then q + 1 else q) ∧ frW y y1 := by
  cases ok with
  | true =>
    refine ⟨bq_sI (bq_sI y 0 11 0) 0 10 (nI (q + 1)), ?_, ?_, ⟨⟨?_, ?_⟩, ?_⟩, ⟨fun c hc => ?_, fun k a b => ?_, rfl⟩⟩
    · unfold fX10_digit_j72 fX10_digit_j92 fX10_digit_j112
      have e1 : (bq_sI y 0 11 (0 : Int32)).1 0 11 = 0 := by rw [sI_s, pk_us]
      have e2 : (bq_sI y 0 11 (0 : Int32)).1 0 10 = nI q := by rw [sI_s, pk_un (by decide)]; exact h.2
      have b1 : b2i true = (1 : Int32) := rfl
      simp [hw, b1, bd, e1, e2, nI_1]
    · rw [sI_s, pk_un (by decide), sI_s, pk_us]; rfl
    · rw [sI_s, pk_un (by decide), sI_s, pk_un (by decide)]; exact h.1.1
    · intro i hi; rw [sI_n _ _ _ (by decide), sI_n _ _ _ (by decide)]; exact h.1.2 i hi
    · rw [sI_s, pk_us]; rfl
    · rw [sI_n _ _ _ hc, sI_n _ _ _ hc]
    · rw [sI_s, pk_un a, sI_s, pk_un b]
  | false =>
    refine ⟨bq_sI (bq_sI y 0 11 1) 0 10 (nI q), ?_, ?_, ⟨⟨?_, ?_⟩, ?_⟩, ⟨fun c hc => ?_, fun k a b => ?_, rfl⟩⟩
    · unfold fX10_digit_j72 fX10_digit_j92 fX10_digit_j112
      have e1 : (bq_sI y 0 11 (1 : Int32)).1 0 11 = 1 := by rw [sI_s, pk_us]
      have e2 : (bq_sI y 0 11 (1 : Int32)).1 0 10 = nI q := by rw [sI_s, pk_un (by decide)]; exact h.2
      have b1 : b2i false = (0 : Int32) := rfl
      simp [hw, b1, bd, e1, e2]
    · rw [sI_s, pk_un (by decide), sI_s, pk_us]; rfl
    · rw [sI_s, pk_un (by decide), sI_s, pk_un (by decide)]; exact h.1.1
    · intro i hi; rw [sI_n _ _ _ (by decide), sI_n _ _ _ (by decide)]; exact h.1.2 i hi
    · rw [sI_s, pk_us]; rfl
    · rw [sI_n _ _ _ hc, sI_n _ _ _ hc]
    · rw [sI_s, pk_un a, sI_s, pk_un b]
theorem m_digit {y : bq_S} {t : List Nat} {p n lo hi s : Nat} (ht : tpOK t) (hp : p ≤ t.length) (h : MN y t p) (hw : y.1 0 11 = 0) (hlo : lo ≤ 9) (hhi : hi ≤ 10) (hs : s < 2 ^ 31) (hn : 70 ≤ n) : ∃ y1, fX10_digit n (nI lo) (nI hi - 1) (nI s) y = some ((if skp t p < t.length then nI (gt t (skp t p)) else 0) - 48, y1) ∧ y1.1 0 11 = b2i (!dgOK t (skp t p) lo hi s) ∧ MN y1 t (if dgOK t (skp t p) lo hi s then skp t p + 1 else skp t p) ∧ frW y y1 := by
  have h60 := ht.1
  have hq := skp_le hp
  obtain ⟨y1, j1, j2, j3⟩ := m_here ht hp h hn
  have hw1 : y1.1 0 11 = 0 := by rw [j3.2.1 11 (by decide)]; exact hw
  have e3 : ((48 : Int32) + nI lo).toInt = 48 + (lo : Int) := by
    show (nI 48 + nI lo).toInt = _
    rw [nI_add, nI_toInt (by omega)]; omega
  have e4 : ((48 : Int32) + (nI hi - 1)).toInt = 47 + (hi : Int) := by
    have : (48 : Int32) + (nI hi - 1) = nI (48 + hi) - 1 := by
      show nI 48 + (nI hi - 1) = _
      rw [← nI_add, Int32.sub_eq_add_neg, Int32.sub_eq_add_neg, Int32.add_assoc]
    rw [this, tm1 (by omega)]; omega
  obtain ⟨y2, k1, k2, k3, k4⟩ := dig_end (n := n) (if skp t p < t.length then nI (gt t (skp t p)) else 0) (dgOK t (skp t p) lo hi s) j2 hw1 (by omega)
  refine ⟨y2, ?_, k2, k3, frW_tr (frA_W j3) k4⟩
  unfold fX10_digit
  rw [if_pos hw, j1]
  simp only [Option.bind_some, un2]
  unfold fX10_digit_j15
  simp only [m_in, Option.bind_some, un2, b2i_0, Int32.toInt_toInt64, e3, e4]
  by_cases c : skp t p < t.length
  · have hr := ht.2 _ (gt_mem c)
    simp only [c, if_true, nI_toInt (show gt t (skp t p) < 2 ^ 31 by omega)]
    simp only [c, if_true] at k1
    by_cases d : 48 + lo ≤ gt t (skp t p) ∧ gt t (skp t p) < 48 + hi
    · have d1 : decide (48 + (lo : Int) ≤ (gt t (skp t p) : Int) ∧ (gt t (skp t p) : Int) ≤ 47 + (hi : Int)) = true := by apply decide_eq_true; omega
      have d2 : decide ((48 : Int64).toInt ≤ (gt t (skp t p) : Int) ∧ (gt t (skp t p) : Int) ≤ (57 : Int64).toInt) = true := by apply decide_eq_true; simp; omega
      have d3 : nI (gt t (skp t p)) - 48 = nI (gt t (skp t p) - 48) := by
        show nI (gt t (skp t p)) - nI 48 = _
        exact pk_sub (by omega)
      simp only [d1, d2, Bool.true_eq_false, if_false]
      unfold fX10_digit_j61
      rw [d3] at k1 ⊢
      simp only [wI_bit hs (show gt t (skp t p) - 48 < 31 by omega), b2i_0]
      have hdg : dgOK t (skp t p) lo hi s = !s.testBit (gt t (skp t p) - 48) := by
        unfold dgOK
        cases hb : s.testBit (gt t (skp t p) - 48) <;> simp [c, d]
      rw [hdg] at k1
      cases hb : s.testBit (gt t (skp t p) - 48) with
      | false => rw [hb] at k1; simp only [if_true]; exact k1
      | true => rw [hb] at k1; simp only [Bool.true_eq_false, if_false]; exact k1
    · have d1 : decide (48 + (lo : Int) ≤ (gt t (skp t p) : Int) ∧ (gt t (skp t p) : Int) ≤ 47 + (hi : Int)) = false := by apply decide_eq_false; omega
      have hdg : dgOK t (skp t p) lo hi s = false := by unfold dgOK; apply decide_eq_false; omega
      rw [hdg] at k1
      simp only [d1, if_true]
      exact k1
  · simp only [c, if_false]
    simp only [c, if_false] at k1
    have d1 : decide (48 + (lo : Int) ≤ (0 : Int32).toInt ∧ (0 : Int32).toInt ≤ 47 + (hi : Int)) = false := by
      apply decide_eq_false
      have : (0 : Int32).toInt = 0 := rfl
      rw [this]; omega
    have hdg : dgOK t (skp t p) lo hi s = false := by unfold dgOK; apply decide_eq_false; omega
    rw [hdg] at k1
    simp only [d1, if_true]
    exact k1
theorem setOf_app (r : List Nat) (c : Nat) : setOf (r ++ [c]) = setOf r ||| 2 ^ c := by
  apply Nat.eq_of_testBit_eq
  intro i
  rw [setOf_bit, Nat.testBit_or, setOf_bit, Nat.testBit_two_pow]
  by_cases e : c = i
  · subst e; simp
  · have e2 : ¬ i = c := fun h => e h.symm
    simp [e, e2]
def hcond (m : Nat) (t : List Nat) (q : Nat) (r : List Nat) : Bool := decide (q < t.length ∧ 48 ≤ gt t q ∧ gt t q < 48 + m ∧ (gt t q - 48) ∉ r)
theorem hF_s (m : Nat) (t : List Nat) (k p : Nat) (r : List Nat) : hF m t (k + 1) p r = if hcond m t (skp t p) r = true then hF m t k (skp t p + 1) (r ++ [gt t (skp t p) - 48]) else (r, skp t p) := by
  unfold hcond
  rw [hF]
  by_cases c : skp t p < t.length ∧ 48 ≤ gt t (skp t p) ∧ gt t (skp t p) < 48 + m ∧ (gt t (skp t p) - 48) ∉ r
  · rw [if_pos c, if_pos (decide_eq_true c)]
  · rw [if_neg c, if_neg (by rw [decide_eq_true_eq]; exact c)]
theorem hcond_dg {m : Nat} {t : List Nat} {q : Nat} {r : List Nat} : dgOK t q 0 m (setOf r) = hcond m t q r := by
  unfold dgOK hcond
  apply decide_eq_decide.mpr
  rw [setOf_bit]
  simp
theorem rowOK_app {m c : Nat} {r : List Nat} (h : rowOK m r) (hc : c < m) (hn : c ∉ r) : rowOK m (r ++ [c]) := by
  refine ⟨?_, fun b hb => ?_⟩
  · rw [List.nodup_append]
    refine ⟨h.1, by simp, fun a ha b hb => ?_⟩
    have : b = c := by simpa using hb
    subst this
    intro e; subst e; exact hn ha
  · rcases List.mem_append.mp hb with q | q
    · exact h.2 b q
    · have : b = c := by simpa using q
      rw [this]; exact hc
theorem hF_ok {m : Nat} {t : List Nat} : ∀ {k p : Nat} {r : List Nat}, p ≤ t.length → rowOK m r → rowOK m (hF m t k p r).1 ∧ (hF m t k p r).2 ≤ t.length ∧ (hF m t k p r).1.length ≤ r.length + k
  | 0, p, r, hp, h => ⟨h, skp_le hp, Nat.le_refl _⟩
  | k + 1, p, r, hp, h => by
    rw [hF_s]
    by_cases c : hcond m t (skp t p) r = true
    · rw [if_pos c]
      have c := of_decide_eq_true c
      have hh := hF_ok (m := m) (t := t) (k := k) (p := skp t p + 1) (r := r ++ [gt t (skp t p) - 48]) (show skp t p + 1 ≤ t.length from c.1) (rowOK_app h (show gt t (skp t p) - 48 < m by omega) c.2.2.2)
      refine ⟨hh.1, hh.2.1, Nat.le_trans hh.2.2 ?_⟩
      simp; omega
    · rw [if_neg c]; exact ⟨h, skp_le hp, by simp⟩
def frH (x x1 : bq_S) : Prop := (∀ c, c ≠ 22 → c ≠ 42 → x1.1 c = x.1 c) ∧ (∀ k, k ≠ 3 → x1.1 22 k = x.1 22 k) ∧ x1.2 = x.2
theorem s_readHall_loop {m n : Nat} {t : List Nat} (ht : tpOK t) (hm : m ≤ 8) (hn : 70 ≤ n) : ∀ (k f p : Nat) (r : List Nat) (x : bq_S), r.length + k = 8 → k < f → p ≤ t.length → rowOK m r → CN x t p → CRow x 42 r → ∃ (u v : Int32) (x1 : bq_S) (p1 : Nat), wh f (fX7_readHall_b13 n (nI m) 42 8) (nI (setOf r), nI r.length, nI r.length, x) = some (u, nI (hF m t k p r).1.length, v, x1) ∧ CN x1 t p1 ∧ p1 ≤ t.length ∧ skp t p1 = (hF m t k p r).2 ∧ CRow x1 42 (hF m t k p r).1 ∧ frH x x1 := by
  have h60 := ht.1
  intro k
  induction k with
  | zero =>
    intro f p r x h1 h2 h3 h4 h5 h6
    obtain ⟨f, rfl⟩ : ∃ g, f = g + 1 := ⟨f - 1, by omega⟩
    refine ⟨nI (setOf r), nI r.length, x, p, ?_, h5, h3, rfl, h6, ⟨fun _ _ _ => rfl, fun _ _ => rfl, rfl⟩⟩
    have hF0 : (hF m t 0 p r).1 = r := rfl
    rw [hF0]
    apply wh_e
    unfold fX7_readHall_b13
    have : r.length = 8 := by omega
    have h8 : (8 : Int32) ≤ nI 8 := by decide
    simp only [un4, this, h8, if_true]
  | succ k ih =>
    intro f p r x h1 h2 h3 h4 h5 h6
    obtain ⟨f, rfl⟩ : ∃ g, f = g + 1 := ⟨f - 1, by omega⟩
    obtain ⟨x1, j1, j2, j3⟩ := s_look ht h3 h5 hn
    have hq := skp_le h3
    have n8 : ¬ 8 ≤ r.length := by omega
    have hsl : setOf r < 2 ^ 31 := p8_31 hm (setOf_lt h4.2)
    have hfr1 : frH x x1 := ⟨fun c a b => j3.1 c a, j3.2.1, j3.2.2⟩
    have hrow1 : CRow x1 42 r := fun i hi => by rw [j3.1 42 (by decide)]; exact h6 i hi
    have hstop : hcond m t (skp t p) r = false → fX7_readHall_b13 n (nI m) 42 8 (nI (setOf r), nI r.length, nI r.length, x) = some (.inr (nI (setOf r), nI r.length, nI r.length, x1)) := by
      intro hc
      unfold fX7_readHall_b13
      simp only [un4, le8 (show r.length < 2 ^ 31 by omega), n8, if_false, j1, Option.bind_some, un2, bd]
      by_cases c : skp t p < t.length
      · have hr := ht.2 _ (gt_mem c)
        simp only [c, if_true]
        by_cases d : gt t (skp t p) < 48
        · have : (nI (gt t (skp t p)) - 48 < (0 : Int32)) = ((gt t (skp t p) : Int) - 48 < 0) := i_lt (pk_sub_toInt (b := 48) (by omega) (by decide)) rfl
          have d2 : ((gt t (skp t p) : Int) - 48 < 0) := by omega
          simp only [this, d2, if_true]
        · have d3 : nI (gt t (skp t p)) - 48 = nI (gt t (skp t p) - 48) := by
            show nI (gt t (skp t p)) - nI 48 = _
            exact pk_sub (by omega)
          have d4 : ¬ nI (gt t (skp t p) - 48) < 0 := nI_pos (by omega)
          simp only [d3, d4, if_false, wIle (show m < 2 ^ 31 by omega) (show gt t (skp t p) - 48 < 2 ^ 31 by omega)]
          by_cases e : m ≤ gt t (skp t p) - 48
          · simp only [e, if_true]
          · have hin : (gt t (skp t p) - 48) ∈ r := by
              unfold hcond at hc
              have hc := of_decide_eq_false hc
              exact Classical.byContradiction (fun hne => hc ⟨c, by omega, by omega, hne⟩)
            have hb : (setOf r).testBit (gt t (skp t p) - 48) = true := by rw [setOf_bit]; exact decide_eq_true hin
            simp only [e, if_false, s_has _ _ x1 hsl (show gt t (skp t p) - 48 < 31 by omega), hb, Option.bind_some, b2i_0, Bool.true_eq_false]
      · have : ((-1 : Int32) - 48 < 0) := by decide
        simp only [c, if_false, this, if_true]
    rw [hF_s]
    cases hc : hcond m t (skp t p) r with
    | false =>
      rw [if_neg (by decide)]
      refine ⟨nI (setOf r), nI r.length, x1, skp t p, wh_e (hstop hc), j2, hq, skp_skp t p, hrow1, hfr1⟩
    | true =>
      have hcc := of_decide_eq_true hc
      rw [if_pos rfl]
      have d3 : nI (gt t (skp t p)) - 48 = nI (gt t (skp t p) - 48) := by
        show nI (gt t (skp t p)) - nI 48 = _
        exact pk_sub (by omega)
      have d4 : ¬ nI (gt t (skp t p) - 48) < 0 := nI_pos (by omega)
      have hb : (setOf r).testBit (gt t (skp t p) - 48) = false := by rw [setOf_bit]; exact decide_eq_false hcc.2.2.2
      have e : ¬ m ≤ gt t (skp t p) - 48 := by omega
      have j22 : (bq_sI x1 42 r.length (nI (gt t (skp t p) - 48))).1 22 3 = nI (skp t p) := by rw [sI_n _ _ _ (by decide)]; exact j2.2
      have hb2 : fX7_readHall_b13 n (nI m) 42 8 (nI (setOf r), nI r.length, nI r.length, x) = some (.inl (nI (setOf (r ++ [gt t (skp t p) - 48])), nI (r ++ [gt t (skp t p) - 48]).length, nI (r ++ [gt t (skp t p) - 48]).length, bq_sI (bq_sI x1 42 r.length (nI (gt t (skp t p) - 48))) 22 3 (nI (skp t p + 1)))) := by
        unfold fX7_readHall_b13
        simp only [un4, le8 (show r.length < 2 ^ 31 by omega), n8, if_false, j1, Option.bind_some, un2, bd, hcc.1, if_true, d3, d4, wIle (show m < 2 ^ 31 by omega) (show gt t (skp t p) - 48 < 2 ^ 31 by omega), e, s_has _ _ x1 hsl (show gt t (skp t p) - 48 < 31 by omega), hb, b2i_0, s_bit _ x1 (show gt t (skp t p) - 48 < 31 by omega), okN (show r.length < 8 by omega) (by decide), cl0 (show r.length < 2 ^ 31 by omega), j22, nI_1, wI_or, setOf_app, List.length_append, List.length_cons, List.length_nil, Nat.zero_add]
      obtain ⟨u, v, x2, p1, k1, k2, k3, k4, k5, k6⟩ := ih f (skp t p + 1) (r ++ [gt t (skp t p) - 48]) (bq_sI (bq_sI x1 42 r.length (nI (gt t (skp t p) - 48))) 22 3 (nI (skp t p + 1))) (by simp; omega) (by omega) (by omega) (rowOK_app h4 (by omega) hcc.2.2.2)
        (CN_to _ ⟨by rw [sI_n _ _ _ (by decide)]; exact j2.1.1, fun i hi => by rw [sI_n _ _ _ (by decide)]; exact j2.1.2 i hi⟩) (fun i hi => by rw [sI_n _ _ _ (by decide)]; exact CRow_app hrow1 i hi)
      refine ⟨u, v, x2, p1, by rw [wh_c hb2]; exact k1, k2, k3, k4, k5, ⟨fun c a b => ?_, fun k hk => ?_, ?_⟩⟩
      · rw [k6.1 c a b, sI_n _ _ _ a, sI_n _ _ _ b]; exact hfr1.1 c a b
      · rw [k6.2.1 k hk, sI_s, pk_un hk, sI_n _ _ _ (by decide)]; exact hfr1.2.1 k hk
      · rw [k6.2.2]; exact hfr1.2.2
