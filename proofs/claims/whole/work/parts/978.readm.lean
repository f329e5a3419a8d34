/-! ===== books: the reference reads a book, all books ===== -/
theorem m_clause {y : bq_S} {n bk p : Nat} {t : List Nat} {S : PS} (ht : tpOK t) (hbk : bk < 8) (hn : 70 ≤ n) (hp : p ≤ t.length) (hS : PW bk p S) (hD : MD y t p S bk) : ∃ y1, fX10_clause n (nI bk) y = some y1 ∧ frE y y1 ∧ MN y1 t (cF t bk p S).2.1 ∧ ((y1.1 0 11 = 1 ∧ ((cF t bk p S).1 = false ∨ isDig t (cF t bk p S).2.1 = true)) ∨ ((cF t bk p S).1 = true ∧ MD y1 t (cF t bk p S).2.1 (cF t bk p S).2.2 (bk + 1))) := by
  have h60 := ht.1
  have hge := skp_ge t p
  obtain ⟨s1, s2, s3, s4, s5⟩ := hS
  obtain ⟨hN, hw, a14, a7, a8, a9⟩ := hD
  obtain ⟨y2, k1, k2, k3, k4⟩ := m_digit (n := n) (lo := 1) (hi := 10) (s := 0) ht hp hN hw (by omega) (by omega) (by omega) hn
  have e9 : nI 10 - 1 = (9 : Int32) := by decide
  rw [e9] at k1
  have k1' : fX10_digit n (1 : Int32) (9 : Int32) (0 : Int32) y = some ((if skp t p < t.length then nI (gt t (skp t p)) else 0) - 48, y2) := k1
  have okb := okN hbk (show 8 < 2 ^ 31 by decide)
  have clb := cl0 (show bk < 2 ^ 31 by omega)
  obtain ⟨V, hV⟩ : ∃ V, V = (if skp t p < t.length then nI (gt t (skp t p)) else (0 : Int32)) - 48 := ⟨_, rfl⟩
  rw [← hV] at k1'
  obtain ⟨y4, h4⟩ : ∃ w, w = bq_sI y2 7 bk V := ⟨_, rfl⟩
  have f4 : frE y y4 := frE_tr (frW_E k4) (by rw [h4]; exact ⟨fun c _ b _ _ => sI_n _ _ _ b, fun k _ _ _ => by rw [sI_n _ _ _ (by decide)], rfl⟩)
  have c14 : y4.1 0 14 = nI S.2.2.1 := by rw [h4, sI_n _ _ _ (by decide), k4.2.1 14 (by decide) (by decide)]; exact a14
  cases hd : dgOK t (skp t p) 1 10 0 with
  | false =>
    rw [hd] at k2 k3
    rw [if_neg (by decide)] at k3
    have hcF : cF t bk p S = (false, skp t p, S) := by unfold cF; rw [if_neg (by rw [hd]; decide)]
    have w4 : y4.1 0 11 = 1 := by rw [h4, sI_n _ _ _ (by decide)]; exact k2
    have hN4 : MN y4 t (skp t p) := by
      rw [h4]
      exact ⟨⟨by rw [sI_n _ _ _ (by decide)]; exact k3.1.1, fun i hi => by rw [sI_n _ _ _ (by decide)]; exact k3.1.2 i hi⟩, by rw [sI_n _ _ _ (by decide)]; exact k3.2⟩
    obtain ⟨y7, g1, g2, g3, g4⟩ := m_has_w (n := n) (112 : Int32) hN4 w4
    obtain ⟨y15, h15⟩ : ∃ w, w = bq_sI (bq_sI y7 0 14 (nI S.2.2.1 ||| (0 : Int32))) 8 bk (0 : Int32) := ⟨_, rfl⟩
    have hN15 : MN y15 t (skp t p) := by
      rw [h15]
      exact ⟨⟨by rw [sI_n _ _ _ (by decide), sI_s, pk_un (by decide)]; exact g2.1.1, fun i hi => by rw [sI_n _ _ _ (by decide), sI_n _ _ _ (by decide)]; exact g2.1.2 i hi⟩, by rw [sI_n _ _ _ (by decide), sI_s, pk_un (by decide)]; exact g2.2⟩
    have w15 : y15.1 0 11 = 1 := by rw [h15, sI_n _ _ _ (by decide), sI_s, pk_un (by decide)]; exact g3
    have f15 : frE y7 y15 := by
      rw [h15]
      exact ⟨fun c a _ d _ => by rw [sI_n _ _ _ d, sI_n _ _ _ a], fun k _ _ d => by rw [sI_n _ _ _ (by decide), sI_s, pk_un d], rfl⟩
    obtain ⟨y18, l1, l2, l3, l4⟩ := m_has_w (n := n) (58 : Int32) hN15 w15
    have hexit : wh n (fX10_clause_b53 n (nI bk)) ((0 : Int32), y18) = some ((0 : Int32), y18) := by
      obtain ⟨m, rfl⟩ : ∃ m, n = m + 1 := ⟨n - 1, by omega⟩
      apply wh_e
      unfold fX10_clause_b53
      rw [un2_c, if_pos rfl]
    rw [hcF]
    refine ⟨y18, ?_, frE_tr f4 (frE_tr (frA_E g4) (frE_tr f15 (frA_E l4))), l2, Or.inl ⟨l3, Or.inl rfl⟩⟩
    unfold fX10_clause
    rw [k1', Option.bind_some, un2_c, if_pos okb, bd_c, clb, ← h4, g1, Option.bind_some, un2_c, if_pos rfl]
    unfold fX10_clause_j35
    rw [bd_c, c14, if_pos okb, bd_c, clb, ← h15, l1, Option.bind_some, un2_c, hexit, Option.bind_some, un2_c]
  | true =>
    rw [hd] at k2 k3
    rw [if_pos rfl] at k3
    obtain ⟨d1, d2, d3⟩ := dg1_of hd
    have e48 : nI (gt t (skp t p)) - (48 : Int32) = nI (gt t (skp t p) - 48) := by
      show nI (gt t (skp t p)) - nI 48 = _
      exact pk_sub (by omega)
    rw [if_pos d1, e48] at hV
    have w4 : y4.1 0 11 = 0 := by rw [h4, sI_n _ _ _ (by decide)]; exact k2
    have hN4 : MN y4 t (skp t p + 1) := by
      rw [h4]
      exact ⟨⟨by rw [sI_n _ _ _ (by decide)]; exact k3.1.1, fun i hi => by rw [sI_n _ _ _ (by decide)]; exact k3.1.2 i hi⟩, by rw [sI_n _ _ _ (by decide)]; exact k3.2⟩
    obtain ⟨y7, g1, g2, g3, g4⟩ := m_has (n := n) (c := 112) ht (show skp t p + 1 ≤ t.length by omega) hN4 w4 (by decide) (by decide) hn
    have g1' : fX10_has n (112 : Int32) y4 = some (b2i (isAt t (skp t (skp t p + 1)) 112), y7) := g1
    have hq2 := skp_le (t := t) (p := skp t p + 1) (by omega)
    have hge2 := skp_ge t (skp t p + 1)
    have c7 : ∀ i, i < bk + 1 → y7.1 7 i = nI (uNat S.1 bk (gt t (skp t p) - 48) i) := fun i hi => by
      rw [g4.1 7 (by decide), h4, sI_s]
      by_cases e : i = bk
      · subst e; rw [pk_us, uNat_s, hV]
      · rw [pk_un e, uNat_n _ _ e, k4.1 7 (by decide)]; exact a7 i (by omega)
    have c8 : ∀ i, i < bk → y7.1 8 i = nI (S.2.1 i) := fun i hi => by
      rw [g4.1 8 (by decide), h4, sI_n _ _ _ (by decide), k4.1 8 (by decide)]; exact a8 i hi
    have c9 : ∀ i, i < 8 → y7.1 9 i = eT (S.2.2.2 i) := fun i hi => by
      rw [g4.1 9 (by decide), h4, sI_n _ _ _ (by decide), k4.1 9 (by decide)]; exact a9 i hi
    have h0 : S.2.1 bk = 0 := (s2 bk).2.2 (Nat.le_refl _)
    obtain ⟨P, hP⟩ : ∃ P, P = isAt t (skp t (skp t p + 1)) 112 := ⟨_, rfl⟩
    have hp3 : (if P then skp t (skp t p + 1) + 1 else skp t (skp t p + 1)) ≤ t.length := by
      cases P
      · exact hq2
      · have := isAt_lt hP.symm
        rw [if_pos rfl]; omega
    have hge3 : p ≤ (if P then skp t (skp t p + 1) + 1 else skp t (skp t p + 1)) := by cases P <;> simp <;> omega
    rw [← hP] at g1' g2
    have hc3 : c3 t p = skp t (if P then skp t (skp t p + 1) + 1 else skp t (skp t p + 1)) := by unfold c3; rw [← hP]
    have hcS : cS t bk p S = (uNat S.1 bk (gt t (skp t p) - 48), S.2.1, (if P then S.2.2.1 ||| 2 ^ bk else S.2.2.1), S.2.2.2) := by unfold cS; rw [← hP]
    obtain ⟨y1, l1, l2, l3, l4⟩ := m_j35 (n := n) (S := cS t bk p S) (nI S.2.2.1) (if P then (1 : Int32) <<< (nI bk &&& 31) else 0) ht hbk hn hp3 (by rw [hcS]; exact TA_le s4 hge3) g2 g3 (by
      rw [hcS]
      cases P
      · exact wor_0 _
      · rw [if_pos rfl, wI_sh (show bk < 31 by omega), wI_or]; rfl) (by rw [hcS]; exact c7) (by rw [hcS]; exact c8) (by rw [hcS]; exact h0) (by rw [hcS]; exact c9)
    rw [← hc3] at l3 l4
    have e2 : (cS t bk p S).2.2.2 = S.2.2.2 := by rw [hcS]
    have e3 : (cS t bk p S).2.1 = S.2.1 := by rw [hcS]
    rw [e2] at l3 l4
    rw [e3] at l4
    have hcF : cF t bk p S = if isAt t (c3 t p) 58 = true then (decide ((qF t bk 8 (c3 t p + 1) 0 S.2.2.2).1 ≠ 0), (qF t bk 8 (c3 t p + 1) 0 S.2.2.2).2.2, ((cS t bk p S).1, uNat S.2.1 bk (qF t bk 8 (c3 t p + 1) 0 S.2.2.2).1, (cS t bk p S).2.2.1, (qF t bk 8 (c3 t p + 1) 0 S.2.2.2).2.1)) else (true, c3 t p, cS t bk p S) := by
      unfold cF; rw [hd, if_pos rfl]
    have hhead : fX10_clause n (nI bk) y = fX10_clause_j35 n (nI bk) (nI S.2.2.1) (if P then (1 : Int32) <<< (nI bk &&& 31) else 0) y7 := by
      unfold fX10_clause
      rw [k1', Option.bind_some, un2_c, if_pos okb, bd_c, clb, ← h4, g1', Option.bind_some, un2_c, c14]
      cases P
      · rw [if_pos (show b2i false = 0 from rfl)]; rfl
      · rw [if_neg (show ¬ b2i true = 0 by decide)]; rfl
    refine ⟨y1, by rw [hhead]; exact l1, frE_tr f4 (frE_tr (frA_E g4) l2), ?_, ?_⟩
    · rw [hcF]
      cases hc : isAt t (c3 t p) 58 <;> rw [hc] at l3 <;> exact l3
    · rw [hcF]
      cases hc : isAt t (c3 t p) 58 with
      | false =>
        rw [hc] at l4
        rcases l4 with ⟨_, h, _⟩ | ⟨_, h⟩
        · cases h
        · exact Or.inr ⟨rfl, h⟩
      | true =>
        rw [hc] at l4
        rcases l4 with ⟨a, _, b⟩ | ⟨a, h⟩
        · left
          refine ⟨a, ?_⟩
          rcases b with b | b
          · left
            show decide ((qF t bk 8 (c3 t p + 1) 0 S.2.2.2).1 ≠ 0) = false
            exact decide_eq_false (fun h => h b)
          · exact Or.inr b
        · exact Or.inr ⟨decide_eq_true (a rfl), h⟩
theorem dig_59 {t : List Nat} {q : Nat} (h : isDig t q = true) : q < t.length ∧ ¬ gt t q = 59 := by
  have h1 := of_decide_eq_true h
  exact ⟨h1.1, by omega⟩
/-- what is known behind the last book -/
def endM (t : List Nat) (y1 : bq_S) (m : Nat) (G : Option Nat × Nat × PS) : Prop := (∃ q, G.1 = some q ∧ ((y1.1 0 11 = 1 ∧ MN y1 t q) ∨ (y1.1 0 11 = 0 ∧ q < t.length ∧ ∃ p1, p1 ≤ t.length ∧ MN y1 t p1 ∧ skp t p1 = q))) ∨ (G.1 = none ∧ m = G.2.1 ∧ ∃ p1, p1 ≤ t.length ∧ MD y1 t p1 G.2.2 G.2.1 ∧ skp t p1 = t.length)
theorem b40_exit {n : Nat} {y : bq_S} {v : Int32} {f : Nat} : wh (f + 1) (fX10_books_b40 n) (v, (0 : Int32), y) = some (v, (0 : Int32), y) := by
  apply wh_e
  unfold fX10_books_b40
  unfold un3
  dsimp only
  rw [if_pos rfl]
theorem m_books_loop {n : Nat} {t : List Nat} (ht : tpOK t) (hn : 70 ≤ n) : ∀ (k f b p : Nat) (S : PS) (y : bq_S), b + (k + 1) = 8 → k + 2 < f → p ≤ t.length → PW b p S → MD y t p S b → ∃ m g y1, wh f (fX10_books_b40 n) (nI b, (1 : Int32), y) = some (nI m, g, y1) ∧ frE y y1 ∧ endM t y1 m (bF t (k + 1) b p S) := by
  have h60 := ht.1
  intro k
  induction k with
  | zero =>
    intro f b p S y h1 h2 h3 h4 h5
    obtain ⟨f, rfl⟩ : ∃ g, f = g + 1 := ⟨f - 1, by omega⟩
    obtain ⟨f, rfl⟩ : ∃ g, f = g + 1 := ⟨f - 1, by omega⟩
    obtain ⟨c1, c2, c3⟩ := cF_ok ht (show b < 8 by omega) h3 h4
    obtain ⟨y1, k1, k2, k3, k4⟩ := m_clause (n := n) ht (show b < 8 by omega) hn h3 h4 h5
    have e8 : (8 : Int32) ≤ nI (b + 1) := by rw [le8 (show b + 1 < 2 ^ 31 by omega)]; omega
    have hbody : fX10_books_b40 n (nI b, (1 : Int32), y) = some (.inl (nI (b + 1), (0 : Int32), y1)) := by
      unfold fX10_books_b40
      unfold un3
      dsimp only
      rw [if_neg (show ¬ (1 : Int32) = 0 by decide), k1, Option.bind_some, bd_c, nI_1, if_pos e8]
    refine ⟨b + 1, 0, y1, by rw [wh_c hbody]; exact b40_exit, k2, ?_⟩
    have hbF : bF t (0 + 1) b p S = if (cF t b p S).1 = true then (if (cF t b p S).2.1 < t.length then (if gt t (cF t b p S).2.1 = 59 ∧ 0 ≠ 0 then bF t 0 (b + 1) ((cF t b p S).2.1 + 1) (cF t b p S).2.2 else (some (cF t b p S).2.1, b + 1, (cF t b p S).2.2)) else (none, b + 1, (cF t b p S).2.2)) else (some (cF t b p S).2.1, b, S) := rfl
    rw [hbF]
    rcases k4 with ⟨a, a2⟩ | ⟨a, a2⟩
    · left
      refine ⟨(cF t b p S).2.1, ?_, Or.inl ⟨a, k3⟩⟩
      rcases a2 with a2 | a2
      · rw [if_neg (by rw [a2]; decide)]
      · by_cases hc : (cF t b p S).1 = true
        · rw [if_pos hc, if_pos (dig_59 a2).1, if_neg (fun h => h.2 rfl)]
        · rw [if_neg hc]
    · rw [if_pos a]
      by_cases hlt : (cF t b p S).2.1 < t.length
      · rw [if_pos hlt, if_neg (fun h => h.2 rfl)]
        exact Or.inl ⟨_, rfl, Or.inr ⟨a2.2.1, hlt, _, c1, k3, c2⟩⟩
      · rw [if_neg hlt]
        exact Or.inr ⟨rfl, rfl, _, c1, a2, by rw [c2]; omega⟩
  | succ k ih =>
    intro f b p S y h1 h2 h3 h4 h5
    obtain ⟨f, rfl⟩ : ∃ g, f = g + 1 := ⟨f - 1, by omega⟩
    obtain ⟨c1, c2, c3⟩ := cF_ok ht (show b < 8 by omega) h3 h4
    obtain ⟨y1, k1, k2, k3, k4⟩ := m_clause (n := n) ht (show b < 8 by omega) hn h3 h4 h5
    have e8 : ¬ (8 : Int32) ≤ nI (b + 1) := by rw [le8 (show b + 1 < 2 ^ 31 by omega)]; omega
    have hhead : fX10_books_b40 n (nI b, (1 : Int32), y) = (fX10_has n (59 : Int32) y1).bind (fun o21 => un2 o21 (fun v23 x22 => if v23 = 0 then some (.inl (nI (b + 1), (0 : Int32), x22)) else some (.inl (nI (b + 1), (1 : Int32), x22)))) := by
      unfold fX10_books_b40
      unfold un3
      dsimp only
      rw [if_neg (show ¬ (1 : Int32) = 0 by decide), k1, Option.bind_some, bd_c, nI_1, if_neg e8]
    have hbF : bF t (k + 1 + 1) b p S = if (cF t b p S).1 = true then (if (cF t b p S).2.1 < t.length then (if gt t (cF t b p S).2.1 = 59 ∧ k + 1 ≠ 0 then bF t (k + 1) (b + 1) ((cF t b p S).2.1 + 1) (cF t b p S).2.2 else (some (cF t b p S).2.1, b + 1, (cF t b p S).2.2)) else (none, b + 1, (cF t b p S).2.2)) else (some (cF t b p S).2.1, b, S) := rfl
    rw [hbF]
    rcases k4 with ⟨a, a2⟩ | ⟨a, a2⟩
    · obtain ⟨y2, g1, g2, g3, g4⟩ := m_has_w (n := n) (59 : Int32) k3 a
      rw [g1, Option.bind_some, un2_c, if_pos rfl] at hhead
      obtain ⟨f, rfl⟩ : ∃ g, f = g + 1 := ⟨f - 1, by omega⟩
      refine ⟨b + 1, 0, y2, by rw [wh_c hhead]; exact b40_exit, frE_tr k2 (frA_E g4), Or.inl ⟨(cF t b p S).2.1, ?_, Or.inl ⟨g3, g2⟩⟩⟩
      rcases a2 with a2 | a2
      · rw [if_neg (by rw [a2]; decide)]
      · by_cases hc : (cF t b p S).1 = true
        · rw [if_pos hc, if_pos (dig_59 a2).1, if_neg (fun h => (dig_59 a2).2 h.1)]
        · rw [if_neg hc]
    · rw [if_pos a]
      obtain ⟨y2, g1, g2, g3, g4⟩ := m_has (n := n) (c := 59) ht c1 k3 a2.2.1 (by decide) (by decide) hn
      rw [c2] at g1 g2
      have g1' : fX10_has n (59 : Int32) y1 = some (b2i (isAt t (cF t b p S).2.1 59), y2) := g1
      rw [g1', Option.bind_some, un2_c] at hhead
      cases hc : isAt t (cF t b p S).2.1 59 with
      | true =>
        rw [hc, if_neg (show ¬ b2i true = 0 by decide)] at hhead
        rw [hc, if_pos rfl] at g2
        have hat := of_decide_eq_true hc
        rw [if_pos hat.1, if_pos ⟨hat.2, by omega⟩]
        have hw := c3 a
        obtain ⟨m, g, y3, i1, i2, i3⟩ := ih f (b + 1) ((cF t b p S).2.1 + 1) (cF t b p S).2.2 y2 (by omega) (by omega) (by omega) ⟨hw.1, hw.2.1, hw.2.2.1, TA_le hw.2.2.2.1 (by omega), hw.2.2.2.2⟩ (MD_A g4 g2 a2)
        exact ⟨m, g, y3, by rw [wh_c hhead]; exact i1, frE_tr k2 (frE_tr (frA_E g4) i2), i3⟩
      | false =>
        rw [hc, if_pos (show b2i false = 0 from rfl)] at hhead
        rw [hc, if_neg (by decide)] at g2
        obtain ⟨f, rfl⟩ : ∃ g, f = g + 1 := ⟨f - 1, by omega⟩
        refine ⟨b + 1, 0, y2, by rw [wh_c hhead]; exact b40_exit, frE_tr k2 (frA_E g4), ?_⟩
        have hnat := of_decide_eq_false hc
        by_cases hlt : (cF t b p S).2.1 < t.length
        · rw [if_pos hlt, if_neg (fun h => hnat ⟨hlt, h.1⟩)]
          exact Or.inl ⟨_, rfl, Or.inr ⟨g3, hlt, _, c1, g2, c2⟩⟩
        · rw [if_neg hlt]
          exact Or.inr ⟨rfl, rfl, _, c1, MD_A g4 g2 a2, by rw [c2]; omega⟩
def eF (a : Nat) : Int32 := if a = 60 then -4 else nI a
theorem m_missing {y : bq_S} {n m : Nat} {ta : Nat → Nat} (v : Int32) (hm : m ≤ 8) (hn : 20 ≤ n) (h9 : ∀ i, i < 8 → y.1 9 i = eT (ta i)) (h60 : ∀ i, ta i ≤ 60) : wh n (fX10_books_b125 n v) ((-4 : Int32), nI m, y) = some (eF (msF ta (8 - m) m 60), nI 8, y) := by
  have key : ∀ k b a f, b + k = 8 → k < f → a ≤ 60 → wh f (fX10_books_b125 n v) (eF a, nI b, y) = some (eF (msF ta k b a), nI 8, y) := by
    intro k
    induction k with
    | zero =>
      intro b a f h1 h2 h3
      obtain ⟨f, rfl⟩ : ∃ g, f = g + 1 := ⟨f - 1, by omega⟩
      have e : b = 8 := by omega
      subst e
      apply wh_e
      unfold fX10_books_b125
      unfold un3
      dsimp only
      rw [if_pos (show (8 : Int32) ≤ nI 8 from Int32.le_refl _)]
      rfl
    | succ k ih =>
      intro b a f h1 h2 h3
      obtain ⟨f, rfl⟩ : ∃ g, f = g + 1 := ⟨f - 1, by omega⟩
      have hb := h60 b
      have n8 : ¬ (8 : Int32) ≤ nI b := by rw [le8 (show b < 2 ^ 31 by omega)]; omega
      have ok := okN (show b < 8 by omega) (show 8 < 2 ^ 31 by decide)
      have cl := cl0 (show b < 2 ^ 31 by omega)
      have hj : fX10_books_j157 n v (nI b) y = some (.inl (eT (ta b), nI (b + 1), y)) := by
        unfold fX10_books_j157
        rw [if_pos ok, bd_c, cl, h9 b (by omega), bd_c, nI_1]
      have hbody : fX10_books_b125 n v (eF a, nI b, y) = some (.inl (eF (if ta b < a then ta b else a), nI (b + 1), y)) := by
        unfold fX10_books_b125
        unfold un3
        dsimp only
        rw [if_neg n8, if_pos ok, cl, h9 b (by omega)]
        by_cases c1 : ta b = 60
        · rw [c1, eT_60, if_pos (show (-1 : Int32) < 0 by decide), bd_c, nI_1, if_neg (by omega)]
        · rw [hj, eT_n c1, if_neg (nI_pos (show ta b < 2 ^ 31 by omega))]
          by_cases c2 : a = 60
          · have e1 : eF a = -4 := by rw [c2]; rfl
            have e2 : eF (if ta b < a then ta b else a) = nI (ta b) := by rw [if_pos (by omega)]; exact if_neg c1
            rw [e1, if_pos (show (-4 : Int32) < 0 by decide), e2]
          · have e1 : eF a = nI a := if_neg c2
            have ee : (nI a ≤ nI (ta b)) = (a ≤ ta b) := wIle (by omega) (by omega)
            rw [e1, if_neg (nI_pos (show a < 2 ^ 31 by omega)), if_pos ok, bd_c, nI_1]
            by_cases c3 : a ≤ ta b
            · rw [if_pos (ee.mpr c3), if_neg (by omega), e1]
            · have e2 : eF (if ta b < a then ta b else a) = nI (ta b) := by rw [if_pos (by omega)]; exact if_neg c1
              rw [if_neg (fun h => c3 (ee.mp h)), e2]
      rw [wh_c hbody]
      exact ih (b + 1) _ f (by omega) (by omega) (by split <;> omega)
  exact key (8 - m) m 60 n (by omega) (by omega) (by omega)
theorem m_takeB {y : bq_S} {n m : Nat} (hm : m ≤ 8) (hn : 20 ≤ n) : ∃ v y1, wh n (fX10_books_b205 n (nI m)) ((0 : Int32), y) = some (v, y1) ∧ (∀ i, i < m → y1.1 1 i = y.1 7 i) ∧ (∀ i, i < m → y1.1 2 i = y.1 8 i) ∧ (∀ i, i < m → y1.1 3 i = 0) ∧ (∀ c, c ≠ 1 → c ≠ 2 → c ≠ 3 → y1.1 c = y.1 c) ∧ y1.2 = y.2 := by
  obtain ⟨z, hz, h1, h2, h3, h4, h5⟩ := wh_for (b := fX10_books_b205 n (nI m)) (fun i z => z.1 = nI i ∧ (∀ j, j < i → z.2.1 1 j = y.1 7 j) ∧ (∀ j, j < i → z.2.1 2 j = y.1 8 j) ∧ (∀ j, j < i → z.2.1 3 j = 0) ∧ (∀ c, c ≠ 1 → c ≠ 2 → c ≠ 3 → z.2.1 c = y.1 c) ∧ z.2.2 = y.2) (fun z => (∀ j, j < m → z.2.1 1 j = y.1 7 j) ∧ (∀ j, j < m → z.2.1 2 j = y.1 8 j) ∧ (∀ j, j < m → z.2.1 3 j = 0) ∧ (∀ c, c ≠ 1 → c ≠ 2 → c ≠ 3 → z.2.1 c = y.1 c) ∧ z.2.2 = y.2) m (by
    rintro i ⟨v, z⟩ hi ⟨h0, h1, h2, h3, h4, h5⟩
    dsimp only at h0 h1 h2 h3 h4 h5
    subst h0
    have n1 : ¬ nI m ≤ nI i := nI_ge hi (by omega)
    have ok := okN (show i < 8 by omega) (show 8 < 2 ^ 31 by decide)
    have cl := cl0 (show i < 2 ^ 31 by omega)
    obtain ⟨w, hw⟩ : ∃ w, w = bq_sI (bq_sI (bq_sI z 1 i (y.1 7 i)) 2 i (y.1 8 i)) 3 i (0 : Int32) := ⟨_, rfl⟩
    refine Or.inl ⟨(nI (i + 1), w), ?_, rfl, fun j hj => ?_, fun j hj => ?_, fun j hj => ?_, fun c a b d => ?_, ?_⟩
    · have e7 : z.1 7 i = y.1 7 i := by rw [h4 7 (by decide) (by decide) (by decide)]
      have e8 : (bq_sI z 1 i (y.1 7 i)).1 8 i = y.1 8 i := by rw [sI_n _ _ _ (by decide), h4 8 (by decide) (by decide) (by decide)]
      unfold fX10_books_b205
      rw [un2_c, if_neg n1, if_pos ok, if_pos ok, bd_c, cl, e7, if_pos ok, if_pos ok, bd_c, e8, if_pos ok, bd_c, ← hw, bd_c, nI_1]
    · dsimp only
      rw [hw, sI_n _ _ _ (by decide), sI_n _ _ _ (by decide), sI_s]
      by_cases e : j = i
      · subst e; rw [pk_us]
      · rw [pk_un e]; exact h1 j (by omega)
    · dsimp only
      rw [hw, sI_n _ _ _ (by decide), sI_s]
      by_cases e : j = i
      · subst e; rw [pk_us]
      · rw [pk_un e, sI_n _ _ _ (by decide)]; exact h2 j (by omega)
    · dsimp only
      rw [hw, sI_s]
      by_cases e : j = i
      · subst e; rw [pk_us]
      · rw [pk_un e, sI_n _ _ _ (by decide), sI_n _ _ _ (by decide)]; exact h3 j (by omega)
    · dsimp only
      rw [hw, sI_n _ _ _ d, sI_n _ _ _ b, sI_n _ _ _ a]; exact h4 c a b d
    · dsimp only
      rw [hw]; exact h5) (by
    rintro ⟨v, z⟩ ⟨h0, h1, h2, h3, h4, h5⟩
    dsimp only at h0 h1 h2 h3 h4 h5
    subst h0
    refine ⟨(nI m, z), ?_, h1, h2, h3, h4, h5⟩
    unfold fX10_books_b205
    rw [un2_c, if_pos (Int32.le_refl _)]) n 0 ((0 : Int32), y) (by omega) ⟨rfl, fun j hj => by omega, fun j hj => by omega, fun j hj => by omega, fun _ _ _ _ => rfl, rfl⟩ (by omega)
  obtain ⟨v, z⟩ := z
  exact ⟨v, z, hz, h1, h2, h3, h4, h5⟩
