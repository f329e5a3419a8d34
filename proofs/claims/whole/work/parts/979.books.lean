/-! ===== step books ===== -/
theorem m_books {y : bq_S} {n : Nat} {t : List Nat} (ht : tpOK t) (hn : 70 ≤ n) (hc : MT y t) : ∃ y1, fX10_books n y = some (resB (bF t 8 0 0 S0), y1) ∧ y1.1 0 9 = 0 ∧ y1.2 = y.2 ∧
    (((bF t 8 0 0 S0).1 = none ∧ msF (bF t 8 0 0 S0).2.2.2.2.2 (8 - (bF t 8 0 0 S0).2.1) (bF t 8 0 0 S0).2.1 60 = 60 ∧ y1.1 0 0 = nI (bF t 8 0 0 S0).2.1 ∧ y1.1 0 4 = nI (bF t 8 0 0 S0).2.2.2.2.1 ∧ y1.1 0 6 = 0 ∧ (∀ i, i < (bF t 8 0 0 S0).2.1 → y1.1 1 i = nI ((bF t 8 0 0 S0).2.2.1 i)) ∧ (∀ i, i < (bF t 8 0 0 S0).2.1 → y1.1 2 i = nI ((bF t 8 0 0 S0).2.2.2.1 i)) ∧ (∀ i, i < (bF t 8 0 0 S0).2.1 → y1.1 3 i = 0) ∧ (∀ c, c ≠ 0 → c ≠ 1 → c ≠ 2 → c ≠ 3 → c ≠ 7 → c ≠ 8 → c ≠ 9 → y1.1 c = y.1 c) ∧ y1.1 0 21 = y.1 0 21) ∨
     (resB (bF t 8 0 0 S0) < 0 ∧ (∀ c, c ≠ 0 → c ≠ 7 → c ≠ 8 → c ≠ 9 → y1.1 c = y.1 c) ∧ (∀ k, k ≠ 9 → k ≠ 10 → k ≠ 11 → k ≠ 14 → y1.1 0 k = y.1 0 k))) := by
  have h60 := ht.1
  have neg20 : ∀ q, q ≤ 60 → ((-20 : Int32) - nI q) < 0 := fun q hq => by
    have : ∀ q : Fin 61, ((-20 : Int32) - nI q.val) < 0 := by decide
    exact this ⟨q, by omega⟩
  obtain ⟨y3, h3⟩ : ∃ w, w = bq_sI (bq_sI (bq_sI y 0 10 (0 : Int32)) 0 11 (0 : Int32)) 0 14 (0 : Int32) := ⟨_, rfl⟩
  obtain ⟨z, hz, h4, h5, h6⟩ := wh_for (b := fX10_books_b17 n) (fun i z => z.1 = nI i ∧ (∀ c, c ≠ 9 → z.2.1 c = y3.1 c) ∧ (∀ j, j < i → z.2.1 9 j = -1) ∧ z.2.2 = y3.2) (fun z => (∀ c, c ≠ 9 → z.2.1 c = y3.1 c) ∧ (∀ j, j < 8 → z.2.1 9 j = -1) ∧ z.2.2 = y3.2) 8 (by
    rintro i ⟨v, z⟩ hi ⟨h0, h1, h2, h3⟩
    dsimp only at h0 h1 h2 h3
    subst h0
    have n8 : ¬ (8 : Int32) ≤ nI i := by rw [le8 (show i < 2 ^ 31 by omega)]; omega
    refine Or.inl ⟨(nI (i + 1), bq_sI z 9 i (-1)), ?_, rfl, fun c hc => ?_, fun j hj => ?_, h3⟩
    · unfold fX10_books_b17
      rw [un2_c, if_neg n8, if_pos (okN hi (by decide)), bd_c, bd_c, cl0 (show i < 2 ^ 31 by omega), nI_1]
    · dsimp only; rw [sI_n _ _ _ hc]; exact h1 c hc
    · dsimp only; rw [sI_s]
      by_cases e : j = i
      · subst e; rw [pk_us]
      · rw [pk_un e]; exact h2 j (by omega)) (by
    rintro ⟨v, z⟩ ⟨h0, h1, h2, h3⟩
    dsimp only at h0 h1 h2 h3
    subst h0
    refine ⟨(nI 8, z), ?_, h1, h2, h3⟩
    unfold fX10_books_b17
    rw [un2_c, if_pos (show (8 : Int32) ≤ nI 8 from Int32.le_refl _)]) n 0 ((0 : Int32), y3) (by omega) ⟨rfl, fun _ _ => rfl, fun j hj => by omega, rfl⟩ (by omega)
  obtain ⟨v, z⟩ := z
  dsimp only at h4 h5 h6
  have hD : MD z t 0 S0 0 := by
    refine ⟨⟨⟨?_, fun i hi => ?_⟩, ?_⟩, ?_, ?_, fun i hi => by omega, fun i hi => by omega, fun i hi => ?_⟩
    · rw [h4 0 (by decide), h3, sI_s, pk_un (by decide), sI_s, pk_un (by decide), sI_s, pk_un (by decide)]; exact hc.1
    · rw [h4 6 (by decide), h3, sI_n _ _ _ (by decide), sI_n _ _ _ (by decide), sI_n _ _ _ (by decide)]; exact hc.2 i hi
    · rw [h4 0 (by decide), h3, sI_s, pk_un (by decide), sI_s, pk_un (by decide), sI_s, pk_us]; rfl
    · rw [h4 0 (by decide), h3, sI_s, pk_un (by decide), sI_s, pk_us]
    · rw [h4 0 (by decide), h3, sI_s, pk_us]; rfl
    · rw [h5 i hi]; rfl
  have fz : frE y z := by
    refine ⟨fun c a b d e => ?_, fun k a b d => ?_, ?_⟩
    · rw [h4 c e, h3, sI_n _ _ _ a, sI_n _ _ _ a, sI_n _ _ _ a]
    · rw [h4 0 (by decide), h3, sI_s, pk_un d, sI_s, pk_un b, sI_s, pk_un a]
    · rw [h6, h3]; rfl
  obtain ⟨m, g, y28, k1, k2, k3⟩ := m_books_loop (n := n) ht hn 7 n 0 0 S0 z rfl (by omega) (by omega) S0_ok hD
  have k1' : wh n (fX10_books_b40 n) ((0 : Int32), (1 : Int32), z) = some (nI m, g, y28) := k1
  have hok := bF_ok ht 8 0 0 S0 rfl (by omega) S0_ok
  have f28 : frE y y28 := frE_tr fz k2
  generalize hG : bF t 8 0 0 S0 = G at *
  have hhead : fX10_books n y = if (y28.1 0 11) = 0 then (fX10_here n y28).bind (fun o78 => un2 o78 (fun v80 x79 => if v80 = 0 then fX10_books_j96 n (nI m) (0 : Int32) x79 else fX10_books_j96 n (nI m) (1 : Int32) x79)) else fX10_books_j96 n (nI m) (1 : Int32) y28 := by
    unfold fX10_books
    rw [bd_c, bd_c, bd_c, ← h3, hz, Option.bind_some, un2_c, k1', Option.bind_some]
    rfl
  have fault : ∀ (w : bq_S) (q : Nat), q ≤ 60 → w.1 0 10 = nI q → fX10_books_j96 n (nI m) (1 : Int32) w = some (-20 - nI q, bq_sI (bq_sI w 0 11 (1 : Int32)) 0 9 (0 : Int32)) := by
    intro w q hq hw
    have e11 : (bq_sI (bq_sI w 0 11 (1 : Int32)) 0 9 (0 : Int32)).1 0 11 = 1 := by rw [sI_s, pk_un (by decide), sI_s, pk_us]
    have e10 : (bq_sI (bq_sI w 0 11 (1 : Int32)) 0 9 (0 : Int32)).1 0 10 = nI q := by rw [sI_s, pk_un (by decide), sI_s, pk_un (by decide)]; exact hw
    unfold fX10_books_j96
    rw [if_pos (Or.inr rfl), bd_c, bd_c, e11, if_neg (show ¬ (1 : Int32) = 0 by decide), e10]
  have faultR : ∀ (w : bq_S) (q : Nat), q ≤ 60 → frE y w → w.1 0 10 = nI q → G.1 = some q → fX10_books n y = fX10_books_j96 n (nI m) (1 : Int32) w → ∃ y1, fX10_books n y = some (resB G, y1) ∧ y1.1 0 9 = 0 ∧ y1.2 = y.2 ∧ (resB G < 0 ∧ (∀ c, c ≠ 0 → c ≠ 7 → c ≠ 8 → c ≠ 9 → y1.1 c = y.1 c) ∧ (∀ k, k ≠ 9 → k ≠ 10 → k ≠ 11 → k ≠ 14 → y1.1 0 k = y.1 0 k)) := by
    intro w q hq fw hw hGq hh
    have hres : resB G = -20 - nI q := by unfold resB; rw [hGq]
    refine ⟨bq_sI (bq_sI w 0 11 (1 : Int32)) 0 9 (0 : Int32), by rw [hh, fault w q hq hw, hres], by rw [sI_s, pk_us], fw.2.2, by rw [hres]; exact neg20 q hq, fun c a b d e => ?_, fun k a b d e => ?_⟩
    · rw [sI_n _ _ _ a, sI_n _ _ _ a]; exact fw.1 c a b d e
    · rw [sI_s, pk_un a, sI_s, pk_un d]; exact fw.2.1 k b d e
  rcases k3 with ⟨q, q1, q2⟩ | ⟨q1, q2, p1, q3, q4, q5⟩
  · have hq60 : q ≤ 60 := Nat.le_trans (hok.1 q q1) h60
    rcases q2 with ⟨w1, w2⟩ | ⟨w1, w2, p1, w3, w4, w5⟩
    · rw [w1, if_neg (show ¬ (1 : Int32) = 0 by decide)] at hhead
      obtain ⟨y1, r1, r2, r3, r4⟩ := faultR y28 q hq60 f28 w2.2 q1 hhead
      exact ⟨y1, r1, r2, r3, Or.inr r4⟩
    · obtain ⟨y79, j1, j2, j3⟩ := m_here ht w3 w4 hn
      rw [w5] at j1 j2
      have hr := ht.2 _ (gt_mem w2)
      have n0 : ¬ nI (gt t q) = (0 : Int32) := by rw [nI_zero (by omega)]; omega
      rw [w1, if_pos rfl, j1, Option.bind_some, un2_c, if_pos w2, if_neg n0] at hhead
      obtain ⟨y1, r1, r2, r3, r4⟩ := faultR y79 q hq60 (frE_tr f28 (frA_E j3)) j2.2 q1 hhead
      exact ⟨y1, r1, r2, r3, Or.inr r4⟩
  · obtain ⟨y79, j1, j2, j3⟩ := m_here ht q3 q4.1 hn
    rw [q5] at j1 j2
    rw [q4.2.1, if_pos rfl, j1, Option.bind_some, un2_c, if_neg (Nat.lt_irrefl _), if_pos rfl] at hhead
    have hD79 := MD_A j3 j2 q4
    obtain ⟨g1, g2, p2, g4, g3⟩ := hok.2 q1
    subst q2
    have f79 : frE y y79 := frE_tr f28 (frA_E j3)
    obtain ⟨y35, h35⟩ : ∃ w, w = bq_sI (bq_sI y79 0 11 (0 : Int32)) 0 9 (0 : Int32) := ⟨_, rfl⟩
    have e11 : y35.1 0 11 = 0 := by rw [h35, sI_s, pk_un (by decide), sI_s, pk_us]
    have e14 : y35.1 0 14 = nI G.2.2.2.2.1 := by rw [h35, sI_s, pk_un (by decide), sI_s, pk_un (by decide)]; exact hD79.2.2.1
    have e99 : ∀ i, i < 8 → y35.1 9 i = eT (G.2.2.2.2.2 i) := fun i hi => by rw [h35, sI_n _ _ _ (by decide), sI_n _ _ _ (by decide)]; exact hD79.2.2.2.2.2 i hi
    have hta : ∀ i, G.2.2.2.2.2 i ≤ 60 := fun i => by rcases g3.2.2.2.1 i with h | h <;> omega
    have hmis := m_missing (y := y35) (n := n) (m := G.2.1) (nI G.2.1) g2 (by omega) e99 hta
    have hms := (msF_le (ta := G.2.2.2.2.2) (8 - G.2.1) G.2.1 60).1
    have f35 : (∀ c, c ≠ 0 → c ≠ 7 → c ≠ 8 → c ≠ 9 → y35.1 c = y.1 c) ∧ (∀ k, k ≠ 9 → k ≠ 10 → k ≠ 11 → k ≠ 14 → y35.1 0 k = y.1 0 k) ∧ y35.2 = y.2 ∧ y35.1 0 9 = 0 := by
      refine ⟨fun c a b d e => ?_, fun k a b d e => ?_, ?_, ?_⟩
      · rw [h35, sI_n _ _ _ a, sI_n _ _ _ a]; exact f79.1 c a b d e
      · rw [h35, sI_s, pk_un a, sI_s, pk_un d]; exact f79.2.1 k b d e
      · rw [h35]; exact f79.2.2
      · rw [h35, sI_s, pk_us]
    have hj : fX10_books_j96 n (nI G.2.1) (0 : Int32) y79 = if eF (msF G.2.2.2.2.2 (8 - G.2.1) G.2.1 60) < 0 then bd (bq_sI y35 0 0 (nI G.2.1)) (fun x59 => bd (bq_sI x59 0 4 (x59.1 0 14)) (fun x60 => bd (bq_sI x60 0 6 (0 : Int32)) (fun x61 => (wh n (fX10_books_b205 n (nI G.2.1)) ((0 : Int32), x61)).bind (fun e75 => un2 e75 (fun v76 x77 => some (nI G.2.1, x77)))))) else some (((-20 : Int32) - eF (msF G.2.2.2.2.2 (8 - G.2.1) G.2.1 60)), y35) := by
      unfold fX10_books_j96
      rw [if_pos (Or.inl rfl), bd_c, bd_c, ← h35, e11, if_pos rfl, hmis, Option.bind_some]
      rfl
    by_cases c : msF G.2.2.2.2.2 (8 - G.2.1) G.2.1 60 = 60
    · have hres : resB G = nI G.2.1 := by unfold resB; rw [q1]; exact if_pos c
      obtain ⟨y61, h61⟩ : ∃ w, w = bq_sI (bq_sI (bq_sI y35 0 0 (nI G.2.1)) 0 4 (nI G.2.2.2.2.1)) 0 6 (0 : Int32) := ⟨_, rfl⟩
      have e14' : (bq_sI y35 0 0 (nI G.2.1)).1 0 14 = nI G.2.2.2.2.1 := by rw [sI_s, pk_un (by decide)]; exact e14
      obtain ⟨v, y1, t1, t2, t3, t4, t5, t6⟩ := m_takeB (y := y61) (n := n) (m := G.2.1) g2 (by omega)
      have e4 : eF (msF G.2.2.2.2.2 (8 - G.2.1) G.2.1 60) < 0 := by rw [c]; decide
      have g0 : ∀ k, k ≠ 0 → k ≠ 4 → k ≠ 6 → y1.1 0 k = y35.1 0 k := fun k a b d => by rw [t5 0 (by decide) (by decide) (by decide), h61, sI_s, pk_un d, sI_s, pk_un b, sI_s, pk_un a]
      have gc : ∀ c, c ≠ 0 → y61.1 c = y35.1 c := fun c a => by rw [h61, sI_n _ _ _ a, sI_n _ _ _ a, sI_n _ _ _ a]
      refine ⟨y1, ?_, ?_, ?_, Or.inl ⟨q1, c, ?_, ?_, ?_, fun i hi => ?_, fun i hi => ?_, t4, fun c a b d e f g h => ?_, ?_⟩⟩
      · rw [hhead, hj, if_pos e4, bd_c, bd_c, e14', bd_c, ← h61, t1, Option.bind_some, un2_c, hres]
      · rw [g0 9 (by decide) (by decide) (by decide)]; exact f35.2.2.2
      · rw [t6, h61]; exact f35.2.2.1
      · rw [t5 0 (by decide) (by decide) (by decide), h61, sI_s, pk_un (by decide), sI_s, pk_un (by decide), sI_s, pk_us]
      · rw [t5 0 (by decide) (by decide) (by decide), h61, sI_s, pk_un (by decide), sI_s, pk_us]
      · rw [t5 0 (by decide) (by decide) (by decide), h61, sI_s, pk_us]
      · rw [t2 i hi, gc 7 (by decide), h35, sI_n _ _ _ (by decide), sI_n _ _ _ (by decide)]; exact hD79.2.2.2.1 i hi
      · rw [t3 i hi, gc 8 (by decide), h35, sI_n _ _ _ (by decide), sI_n _ _ _ (by decide)]; exact hD79.2.2.2.2.1 i hi
      · rw [t5 c b d e, gc c a]; exact f35.1 c a f g h
      · rw [g0 21 (by decide) (by decide) (by decide)]; exact f35.2.1 21 (by decide) (by decide) (by decide) (by decide)
    · have e4 : eF (msF G.2.2.2.2.2 (8 - G.2.1) G.2.1 60) = nI (msF G.2.2.2.2.2 (8 - G.2.1) G.2.1 60) := if_neg c
      have hres : resB G = -20 - nI (msF G.2.2.2.2.2 (8 - G.2.1) G.2.1 60) := by unfold resB; rw [q1]; exact if_neg c
      refine ⟨y35, ?_, f35.2.2.2, f35.2.2.1, Or.inr ⟨by rw [hres]; exact neg20 _ hms, f35.1, f35.2.1⟩⟩
      rw [hhead, hj, e4, if_neg (nI_pos (show msF G.2.2.2.2.2 (8 - G.2.1) G.2.1 60 < 2 ^ 31 by omega)), hres]
/-- the class's books, and whom each may touch -/
theorem s_takeBooksN {x : bq_S} {L : AL} {n : Nat} (hn : 70 ≤ n) (ho : OKL L) (h0 : x.1 15 0 = nI (lm L)) (h1 : x.1 15 1 = nI (lpr L)) (hh : lhl L = []) (h16 : ∀ i, i < lm L → x.1 16 i = nI (lth L i)) (h17 : ∀ i, i < 8 → x.1 17 i = nI (lqu L i)) (hha : ∀ i, lha L i = 0) (h5 : x.1 5 0 = nI (lri L)) (h51 : x.1 5 1 = nI (lt3 L)) : ∃ x1, fX4_takeBooks n 1 15 x = some x1 ∧ CL x1 1 L ∧ NR x1 1 L ∧ (∀ c, c < 1 ∨ 7 < c → x1.1 c = x.1 c) ∧ x1.2 = x.2 := by
  obtain ⟨z, k1, k2, k3, k4⟩ := s_fillI (x := bq_cI (bq_cI (bq_sI (bq_sI (bq_sI x 1 0 (x.1 15 0)) 1 1 (x.1 15 1)) 1 2 0) (15 + 1) (1 + 1) 0 0 8) (15 + 2) (1 + 2) 0 0 8) (q := 1 + 3) (k := 8) (by omega) hn 0
  have hm := ho.1
  have hL : CL z 1 L := by
    refine ⟨?_, ?_, ?_, fun i hi => ?_, fun i hi => ?_, fun i hi => ?_, ?_, ?_, fun i hi => ?_⟩
    · rw [k3 _ (by omega), cI_n _ _ _ _ (by omega), cI_n _ _ _ _ (by omega), sI_s, pk_un (by decide), sI_s, pk_un (by decide), sI_s, pk_us]; exact h0
    · rw [k3 _ (by omega), cI_n _ _ _ _ (by omega), cI_n _ _ _ _ (by omega), sI_s, pk_un (by decide), sI_s, pk_us]; exact h1
    · rw [k3 _ (by omega), cI_n _ _ _ _ (by omega), cI_n _ _ _ _ (by omega), sI_s, pk_us, hh]; rfl
    · rw [k3 _ (by omega), cI_n _ _ _ _ (by omega), cI_s, cpy0 (by omega), sI_n _ _ _ (by omega), sI_n _ _ _ (by omega), sI_n _ _ _ (by omega)]; exact h16 i hi
    · rw [k3 _ (by omega), cI_s, cpy0 hi, cI_n _ _ _ _ (by omega), sI_n _ _ _ (by omega), sI_n _ _ _ (by omega), sI_n _ _ _ (by omega)]; exact h17 i hi
    · rw [k4 i hi, hha]; rfl
    · rw [k3 _ (by omega), cI_n _ _ _ _ (by omega), cI_n _ _ _ _ (by omega), sI_n _ _ _ (by omega), sI_n _ _ _ (by omega), sI_n _ _ _ (by omega)]; exact h5
    · rw [k3 _ (by omega), cI_n _ _ _ _ (by omega), cI_n _ _ _ _ (by omega), sI_n _ _ _ (by omega), sI_n _ _ _ (by omega), sI_n _ _ _ (by omega)]; exact h51
    · rw [hh] at hi; simp at hi
  obtain ⟨x1, j1, j2, j3, j4⟩ := s_learn (n := n) hL ho (by omega)
  refine ⟨x1, ?_, CL_of (fun c a b => j2 c (by omega)) hL, j4, fun c hc => ?_, by rw [j3, k2]; rfl⟩
  · unfold fX4_takeBooks
    have e1 : (bq_sI x 1 0 (x.1 15 0)).1 15 1 = x.1 15 1 := by rw [sI_n _ _ _ (by omega)]
    have hc : (¬ (0 : Int32) < 0 ∧ ¬ (0 : Int32) < 0 ∧ ¬ (8 : Int32) < 0 ∧ (0 : Int32).toNatClampNeg + (8 : Int32).toNatClampNeg ≤ 8 ∧ (0 : Int32).toNatClampNeg + (8 : Int32).toNatClampNeg ≤ 8) := by decide
    rw [bd_c, bd_c, e1, bd_c, if_pos hc, bd_c, if_pos hc, bd_c]
    show (fJ7_fill n (1 + 3) 8 0 (bq_cI (bq_cI (bq_sI (bq_sI (bq_sI x 1 0 (x.1 15 0)) 1 1 (x.1 15 1)) 1 2 0) (15 + 1) (1 + 1) 0 0 8) (15 + 2) (1 + 2) 0 0 8)).bind _ = _
    rw [k1, Option.bind_some, j1, Option.bind_some]
  · rw [j2 c (by omega), k3 c (by omega), cI_n _ _ _ _ (by omega), cI_n _ _ _ _ (by omega), sI_n _ _ _ (by omega), sI_n _ _ _ (by omega), sI_n _ _ _ (by omega)]
theorem st_books {n : Nat} (hn : 70 ≤ n) : bs_books Rl n := by
  rintro x y ⟨A, ho, hx, hy⟩
  have ht : tpOK A.2.2.1 := ho.2.2.1
  have h60 := ht.1
  obtain ⟨x1, a1, a2, a3, a4⟩ := s_readBooks (n := n) ht hn hx.2.2.2.1
  obtain ⟨y1, b1, b2, b3, b4⟩ := m_books (n := n) ht hn hy.2.2.1
  have hok := bF_ok ht 8 0 0 S0 rfl (by omega) S0_ok
  generalize bF A.2.2.1 8 0 0 S0 = G at *
  obtain ⟨x5, h5⟩ : ∃ w, w = bq_sI x1 22 2 (0 : Int32) := ⟨_, rfl⟩
  have hhead : fX9_books n x = if resB G < 0 then some (resB G, x5) else (fX4_takeBooks n 1 15 x5).bind (fun x8 => some (resB G, x8)) := by
    unfold fX9_books fX7_clear
    rw [a1, Option.bind_some, un2_c, bd_c, ← h5, Option.bind_some]
  have fx : ∀ c, c ≠ 15 → c ≠ 16 → c ≠ 17 → c ≠ 21 → c ≠ 22 → c ≠ 24 → x5.1 c = x.1 c := fun c a b d e f g => by
    rw [h5, sI_n _ _ _ f]; exact a4.1 c a b d e f g
  have fx2 : x5.2 = x.2 := by rw [h5]; exact a4.2.2
  have ct : x5.1 22 2 = nI 0 := by rw [h5, sI_s, pk_us]; rfl
  rcases b4 with ⟨c1, c2, c3, c4, c5, c6, c7, c8, c9, c10⟩ | ⟨c1, c2, c3⟩
  · obtain ⟨g1, g2, p1, g4, g3⟩ := hok.2 c1
    have hD := a3 c1
    have hres : resB G = nI G.2.1 := by unfold resB; rw [c1]; exact if_pos c2
    have npos : ¬ resB G < 0 := by rw [hres]; exact nI_pos (show G.2.1 < 2 ^ 31 by omega)
    rw [if_neg npos] at hhead
    obtain ⟨w1, w2, w3, w4, w5⟩ := g3
    have hall := (msF_le (ta := G.2.2.2.2.2) (8 - G.2.1) G.2.1 60).2
    rw [c2] at hall
    have hqlt : ∀ i, G.2.2.2.1 i < 2 ^ G.2.1 := fun i => by
      apply Nat.lt_of_not_le
      intro hle
      obtain ⟨c, hc, hb⟩ := Nat.exists_ge_and_testBit_of_ge_two_pow hle
      have h1 := w5 i c hb
      have h2 := hall c hc (by have := tb8 (w2 i).1 hb; omega)
      omega
    have hoL : OKL (G.2.1, G.2.2.2.2.1, G.2.2.1, G.2.2.2.1, (fun _ => 0), lri A.1, lt3 A.1, []) := by
      obtain ⟨o1, o2, o3, o4, o5, o6, o7, o8, o9⟩ := ho.1
      exact ⟨g2, w3, w1, fun i => ⟨hqlt i, (w2 i).2.1, (w2 i).2.2⟩, fun i => ⟨Nat.two_pow_pos _, by show (0 : Nat).testBit i = false; simp, fun _ => rfl⟩, fun i j => by show (0 : Nat).testBit j = (0 : Nat).testBit i; simp, o7, o8, List.nodup_nil, fun b hb => by
        have hb' : b ∈ ([] : List Nat) := hb
        simp at hb'⟩
    have e15 : x5.1 15 = x1.1 15 := by rw [h5, sI_n _ _ _ (by decide)]
    have e16 : x5.1 16 = x1.1 16 := by rw [h5, sI_n _ _ _ (by decide)]
    have e17 : x5.1 17 = x1.1 17 := by rw [h5, sI_n _ _ _ (by decide)]
    have e5 : x5.1 5 = x.1 5 := fx 5 (by decide) (by decide) (by decide) (by decide) (by decide) (by decide)
    obtain ⟨x8, k1, k2, k3, k4, k5⟩ := s_takeBooksN (x := x5) (n := n) hn hoL (by rw [e15]; exact hD.1) (by rw [e15]; exact hD.2.1) rfl (fun i hi => by rw [e16]; exact hD.2.2.1 i hi) (fun i hi => by rw [e17]; exact hD.2.2.2.1 i hi) (fun _ => rfl) (by rw [e5]; exact hx.1.2.2.2.2.2.2.1) (by rw [e5]; exact hx.1.2.2.2.2.2.2.2.1)
    refine ⟨resB G, x8, y1, by rw [hhead, k1, Option.bind_some], b1, ?_⟩
    refine Rl_lt (t := []) ho hx hy hoL ⟨by simp, fun c hc => absurd hc (by simp)⟩ (fun c hc => ?_) ?_ k2 k3 ⟨?_, fun i hi => absurd hi (by simp)⟩ c10 (fun c hc => c9 c (by omega) (by omega) (by omega) (by omega) (by omega) (by omega) (by omega)) ?_ ?_ ⟨?_, fun i hi => absurd hi (by simp)⟩
    · rw [k4 c (by omega)]; exact fx c (by omega) (by omega) (by omega) (by omega) (by omega) (by omega)
    · rw [k5]; exact fx2
    · rw [k4 22 (by omega)]; exact ct
    · rw [b3]
    · refine ⟨c3, c4, c5, c6, c7, c8, ?_, ?_, fun i hi => absurd hi (by simp [lhl])⟩
      · rw [c9 4 (by decide) (by decide) (by decide) (by decide) (by decide) (by decide) (by decide)]; exact hy.1.2.2.2.2.2.2.1
      · rw [c9 4 (by decide) (by decide) (by decide) (by decide) (by decide) (by decide) (by decide)]; exact hy.1.2.2.2.2.2.2.2.1
    · exact b2
  · rw [if_pos c1] at hhead
    refine ⟨resB G, x5, y1, hhead, b1, ?_⟩
    refine Rl_lt (L := A.1) (t := []) ho hx hy ho.1 ⟨by simp, fun c hc => absurd hc (by simp)⟩ (fun c hc => fx c (by omega) (by omega) (by omega) (by omega) (by omega) (by omega)) fx2 (CL_of (fun c h1 h2 => fx c (by omega) (by omega) (by omega) (by omega) (by omega) (by omega)) hx.1) (NR_of (fx 7 (by decide) (by decide) (by decide) (by decide) (by decide) (by decide)) hx.2.1) ⟨ct, fun i hi => absurd hi (by simp)⟩ (c3 21 (by decide) (by decide) (by decide) (by decide)) (fun c hc => c2 c (by omega) (by omega) (by omega) (by omega)) (by rw [b3]) ?_ ⟨b2, fun i hi => absurd hi (by simp)⟩
    obtain ⟨m1, m2, m3, m4, m5, m6, m7, m8, m9⟩ := hy.1
    refine ⟨?_, ?_, ?_, fun i hi => ?_, fun i hi => ?_, fun i hi => ?_, ?_, ?_, fun i hi => ?_⟩
    · rw [c3 0 (by decide) (by decide) (by decide) (by decide)]; exact m1
    · rw [c3 4 (by decide) (by decide) (by decide) (by decide)]; exact m2
    · rw [c3 6 (by decide) (by decide) (by decide) (by decide)]; exact m3
    · rw [c2 1 (by decide) (by decide) (by decide) (by decide)]; exact m4 i hi
    · rw [c2 2 (by decide) (by decide) (by decide) (by decide)]; exact m5 i hi
    · rw [c2 3 (by decide) (by decide) (by decide) (by decide)]; exact m6 i hi
    · rw [c2 4 (by decide) (by decide) (by decide) (by decide)]; exact m7
    · rw [c2 4 (by decide) (by decide) (by decide) (by decide)]; exact m8
    · rw [c2 5 (by decide) (by decide) (by decide) (by decide)]; exact m9 i hi
