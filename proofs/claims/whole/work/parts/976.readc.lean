/-! ===== books: the class reads a book, all books ===== -/
theorem s_j64 {x : bq_S} {n bk p : Nat} {t : List Nat} {S : PS} (ht : tpOK t) (hbk : bk < 8) (hn : 70 ≤ n) (hp : p ≤ t.length) (hta : TA p S.2.2.2) (h0 : S.2.1 bk = 0) (hN : CN x t p) (hD : DR x S (bk + 1)) : ∃ x1, fX7_readBook_j64 n 15 (nI bk) x = some (b2i (if isAt t (skp t p) 58 then decide ((qF t bk 8 (skp t p + 1) 0 S.2.2.2).1 ≠ 0) else true), x1) ∧ CN x1 t (if isAt t (skp t p) 58 then (qF t bk 8 (skp t p + 1) 0 S.2.2.2).2.2 else skp t p) ∧ DR x1 (if isAt t (skp t p) 58 then (S.1, uNat S.2.1 bk (qF t bk 8 (skp t p + 1) 0 S.2.2.2).1, S.2.2.1, (qF t bk 8 (skp t p + 1) 0 S.2.2.2).2.1) else S) (bk + 1) ∧ frD x x1 := by
  obtain ⟨x1, j1, j2, j3⟩ := s_look ht hp hN hn
  have hge := skp_ge t p
  have e58 : ((if skp t p < t.length then nI (gt t (skp t p)) else (-1 : Int32)) = (58 : Int32)) = (isAt t (skp t p) 58 = true) := lk_eq (c := 58) ht (by decide)
  cases hc : isAt t (skp t p) 58 with
  | false =>
    refine ⟨x1, ?_, j2, DR_N j3 hD, frN_D j3⟩
    unfold fX7_readBook_j64
    rw [j1, Option.bind_some, un2_c, if_neg (fun h => by rw [e58, hc] at h; cases h)]
    rfl
  | true =>
    have hlt := isAt_lt hc
    obtain ⟨n1, n2⟩ := CN_1 j2
    obtain ⟨x2, k1, k2, k3, k4⟩ := s_readQuoted (n := n) ht hbk hn (show skp t p + 1 ≤ t.length by omega) (TA_le hta (by omega)) h0 n1 (DR_N n2 (DR_N j3 hD))
    refine ⟨x2, ?_, k2, k3, frD_tr (frN_D j3) (frD_tr (frN_D n2) k4)⟩
    unfold fX7_readBook_j64
    rw [j1, Option.bind_some, un2_c, if_pos (e58.mpr hc), bd_c, k1, Option.bind_some, un2_c, if_pos (b2i_01 _)]
    rfl
theorem s_addB {x : bq_S} {n bk th : Nat} {S : PS} (hbk : bk < 8) (hn : 70 ≤ n) (hD : DR x S bk) : ∃ x1, fX4_add n 15 (nI th) x = some (nI bk, x1) ∧ DR x1 (uNat S.1 bk th, S.2.1, S.2.2.1, S.2.2.2) (bk + 1) ∧ (∀ c, c ≠ 15 → c ≠ 16 → c ≠ 21 → x1.1 c = x.1 c) ∧ x1.2 = x.2 := by
  obtain ⟨x3, h3⟩ : ∃ w, w = bq_sI (bq_sI x 16 bk (nI th)) 15 0 (nI (bk + 1)) := ⟨_, rfl⟩
  obtain ⟨x5, l1, l2, l3⟩ := s_learn0 x3 15 (n := n) (by omega)
  have f : ∀ c, c ≠ 15 → c ≠ 16 → c ≠ 21 → x5.1 c = x.1 c := fun c a b d => by rw [l2 c d, h3, sI_n _ _ _ a, sI_n _ _ _ b]
  have e150 : x5.1 15 0 = nI (bk + 1) := by rw [l2 15 (by decide), h3, sI_s, pk_us]
  refine ⟨x5, ?_, DR_up hD e150 ?_ (fun i hi => ?_) (f 17 (by decide) (by decide) (by decide)) (f 24 (by decide) (by decide) (by decide)) rfl rfl, f, ?_⟩
  · have e0 : x.1 15 0 = nI bk := hD.1
    have e1 : (bq_sI x (15 + 1) bk (nI th)).1 15 0 = nI bk := by rw [sI_n _ _ _ (by decide)]; exact e0
    unfold fX4_add
    rw [e0, if_pos (okN hbk (by decide)), bd_c, cl0 (show bk < 2 ^ 31 by omega), bd_c, e1, nI_1]
    show (fX4_learnNear n 15 (bq_sI (bq_sI x 16 bk (nI th)) 15 0 (nI (bk + 1)))).bind _ = _
    rw [← h3, l1, Option.bind_some, e150, nI_pred]
  · rw [l2 15 (by decide), h3, sI_s, pk_un (by decide), sI_n _ _ _ (by decide)]; exact hD.2.1
  · show x5.1 16 i = nI (uNat S.1 bk th i)
    rw [l2 16 (by decide), h3, sI_n _ _ _ (by decide), sI_s]
    by_cases e : i = bk
    · subst e; rw [pk_us, uNat_s]
    · rw [pk_un e, uNat_n _ _ e]; exact hD.2.2.1 i (by omega)
  · rw [l3, h3]; rfl
theorem s_propB {x : bq_S} {n bk m : Nat} {S : PS} (hbk : bk < 8) (hn : 70 ≤ n) (hpr : S.2.2.1 < 2 ^ 31) (hD : DR x S m) : ∃ v x1, fX4_setProp n 15 (nI bk) (1 : Int32) x = some (v, x1) ∧ DR x1 (S.1, S.2.1, S.2.2.1 ||| 2 ^ bk, S.2.2.2) m ∧ (∀ c, c ≠ 15 → c ≠ 21 → x1.1 c = x.1 c) ∧ x1.2 = x.2 := by
  obtain ⟨x3, h3⟩ : ∃ w, w = bq_sI x 15 1 (nI (S.2.2.1 ||| 2 ^ bk)) := ⟨_, rfl⟩
  obtain ⟨x5, l1, l2, l3⟩ := s_learn0 x3 15 (n := n) (by omega)
  have f : ∀ c, c ≠ 15 → c ≠ 21 → x5.1 c = x.1 c := fun c a d => by rw [l2 c d, h3, sI_n _ _ _ a]
  refine ⟨b2i (S.2.2.1.testBit bk), x5, ?_, DR_up hD ?_ ?_ (fun i hi => ?_) (f 17 (by decide) (by decide)) (f 24 (by decide) (by decide)) rfl rfl, f, ?_⟩
  · have e1 : x.1 15 1 = nI S.2.2.1 := hD.2.1
    have hw := s_with S.2.2.1 bk (1 : Int32) x (show bk < 31 by omega)
    rw [if_neg (show ¬ (1 : Int32) = 0 by decide)] at hw
    unfold fX4_setProp
    rw [e1, s_has _ _ x hpr (show bk < 31 by omega), Option.bind_some, un2_c, e1, hw, Option.bind_some, un2_c, bd_c, ← h3, l1, Option.bind_some, if_pos (b2i_01 _)]
  · rw [l2 15 (by decide), h3, sI_s, pk_un (by decide)]; exact hD.1
  · rw [l2 15 (by decide), h3, sI_s, pk_us]
  · rw [f 16 (by decide) (by decide)]; exact hD.2.2.1 i hi
  · rw [l3, h3]; rfl
theorem s_readBook {x : bq_S} {n bk p : Nat} {t : List Nat} {S : PS} (ht : tpOK t) (hbk : bk < 8) (hn : 70 ≤ n) (hp : p ≤ t.length) (hS : PW bk p S) (hN : CN x t p) (hD : DR x S bk) : ∃ x1, fX7_readBook n 15 (nI bk) x = some (b2i (cF t bk p S).1, x1) ∧ CN x1 t (cF t bk p S).2.1 ∧ ((cF t bk p S).1 = true → DR x1 (cF t bk p S).2.2 (bk + 1)) ∧ frD x x1 := by
  have h60 := ht.1
  have hge := skp_ge t p
  obtain ⟨s1, s2, s3, s4, s5⟩ := hS
  obtain ⟨x2, j1, j2, j3⟩ := s_look ht hp hN hn
  have hD2 := DR_N j3 hD
  cases hd : dgOK t (skp t p) 1 10 0 with
  | false =>
    have hcF : cF t bk p S = (false, skp t p, S) := by unfold cF; rw [if_neg (by rw [hd]; decide)]
    rw [hcF]
    refine ⟨x2, ?_, j2, fun h => (by cases h), frN_D j3⟩
    have hd' := of_decide_eq_false hd
    unfold fX7_readBook
    rw [j1, Option.bind_some, un2_c]
    by_cases c : skp t p < t.length
    · have hr := ht.2 _ (gt_mem c)
      have e49 : (nI (gt t (skp t p)) < (49 : Int32)) = (gt t (skp t p) < 49) := wIlt (b := 49) (by omega) (by decide)
      have e57 : (nI (gt t (skp t p)) ≤ (57 : Int32)) = (gt t (skp t p) ≤ 57) := wIle (b := 57) (by omega) (by decide)
      rw [if_pos c]
      by_cases c1 : gt t (skp t p) < 49
      · rw [if_pos (e49.mpr c1)]; rfl
      · rw [if_neg (fun h => c1 (e49.mp h)), if_neg (fun h => hd' ⟨c, by omega, by have := e57.mp h; omega, by simp⟩)]; rfl
    · rw [if_neg c, if_pos (show (-1 : Int32) < (49 : Int32) by decide)]; rfl
  | true =>
    obtain ⟨d1, d2, d3⟩ := dg1_of hd
    have hr := ht.2 _ (gt_mem d1)
    have e49 : (nI (gt t (skp t p)) < (49 : Int32)) = (gt t (skp t p) < 49) := wIlt (b := 49) (by omega) (by decide)
    have e57 : (nI (gt t (skp t p)) ≤ (57 : Int32)) = (gt t (skp t p) ≤ 57) := wIle (b := 57) (by omega) (by decide)
    have e48 : nI (gt t (skp t p)) - (48 : Int32) = nI (gt t (skp t p) - 48) := by
      show nI (gt t (skp t p)) - nI 48 = _
      exact pk_sub (by omega)
    obtain ⟨x7, a1, a2, a3, a4⟩ := s_addB (th := gt t (skp t p) - 48) hbk hn hD2
    have fa : frD x2 x7 := ⟨fun c b e _ f _ _ => a3 c b e f, by rw [a3 22 (by decide) (by decide) (by decide)], a4⟩
    have hN7 : CN x7 t (skp t p) := ⟨CT_D fa j2.1, by rw [a3 22 (by decide) (by decide) (by decide)]; exact j2.2⟩
    obtain ⟨n1, n2⟩ := CN_1 hN7
    obtain ⟨x11, b1, b2, b3⟩ := s_look ht (show skp t p + 1 ≤ t.length by omega) n1 hn
    have hq2 := skp_le (t := t) (p := skp t p + 1) (by omega)
    have hge2 := skp_ge t (skp t p + 1)
    have hD11 := DR_N b3 (DR_N n2 a2)
    have f11 : frD x x11 := frD_tr (frN_D j3) (frD_tr fa (frD_tr (frN_D n2) (frN_D b3)))
    have e112 : ((if skp t (skp t p + 1) < t.length then nI (gt t (skp t (skp t p + 1))) else (-1 : Int32)) = (112 : Int32)) = (isAt t (skp t (skp t p + 1)) 112 = true) := lk_eq (c := 112) ht (by decide)
    have h0 : S.2.1 bk = 0 := (s2 bk).2.2 (Nat.le_refl _)
    have hhead : fX7_readBook n 15 (nI bk) x = if (if skp t (skp t p + 1) < t.length then nI (gt t (skp t (skp t p + 1))) else (-1 : Int32)) = (112 : Int32) then (fX4_setProp n 15 (nI bk) (1 : Int32) x11).bind (fun o26 => un2 o26 (fun v28 x27 => bd (bq_sI x27 22 3 ((x27.1 22 3) + (1 : Int32))) (fun x29 => fX7_readBook_j64 n 15 (nI bk) x29))) else fX7_readBook_j64 n 15 (nI bk) x11 := by
      unfold fX7_readBook
      rw [j1, Option.bind_some, un2_c, if_pos d1, if_neg (fun h => by have := e49.mp h; omega), if_pos (e57.mpr (by omega)), e48, a1, Option.bind_some, un2_c, bd_c, b1, Option.bind_some, un2_c]
    cases hP : isAt t (skp t (skp t p + 1)) 112 with
    | false =>
      have hc3 : c3 t p = skp t (skp t (skp t p + 1)) := by unfold c3; rw [hP, if_neg (by decide)]
      have hcS : cS t bk p S = (uNat S.1 bk (gt t (skp t p) - 48), S.2.1, S.2.2.1, S.2.2.2) := by unfold cS; rw [hP, if_neg (by decide)]
      obtain ⟨x1, k1, k2, k3, k4⟩ := s_j64 (n := n) (S := (uNat S.1 bk (gt t (skp t p) - 48), S.2.1, S.2.2.1, S.2.2.2)) ht hbk hn hq2 (TA_le s4 (by omega)) h0 b2 hD11
      rw [← hc3] at k1 k2 k3
      rw [if_neg (fun h => by rw [e112, hP] at h; cases h)] at hhead
      unfold cF
      rw [hd, if_pos rfl, hcS]
      refine ⟨x1, ?_, ?_, fun _ => ?_, frD_tr f11 k4⟩
      · rw [hhead, k1]
        cases isAt t (c3 t p) 58 <;> rfl
      · cases hc : isAt t (c3 t p) 58 <;> rw [hc] at k2 <;> exact k2
      · cases hc : isAt t (c3 t p) 58 <;> rw [hc] at k3 <;> exact k3
    | true =>
      have hlt := isAt_lt hP
      have hc3 : c3 t p = skp t (skp t (skp t p + 1) + 1) := by unfold c3; rw [hP, if_pos rfl]
      have hcS : cS t bk p S = (uNat S.1 bk (gt t (skp t p) - 48), S.2.1, S.2.2.1 ||| 2 ^ bk, S.2.2.2) := by unfold cS; rw [hP, if_pos rfl]
      have hpr : S.2.2.1 < 2 ^ 31 := p8_31 (show bk ≤ 8 by omega) s3
      obtain ⟨v, x27, g1, g2, g3, g4⟩ := s_propB (bk := bk) hbk hn (S := (uNat S.1 bk (gt t (skp t p) - 48), S.2.1, S.2.2.1, S.2.2.2)) hpr hD11
      have fg : frD x11 x27 := ⟨fun c b _ _ f _ _ => g3 c b f, by rw [g3 22 (by decide) (by decide)], g4⟩
      have hN27 : CN x27 t (skp t (skp t p + 1)) := ⟨CT_D fg b2.1, by rw [g3 22 (by decide) (by decide)]; exact b2.2⟩
      obtain ⟨m1, m2⟩ := CN_1 hN27
      obtain ⟨x1, k1, k2, k3, k4⟩ := s_j64 (n := n) (S := (uNat S.1 bk (gt t (skp t p) - 48), S.2.1, S.2.2.1 ||| 2 ^ bk, S.2.2.2)) ht hbk hn (show skp t (skp t p + 1) + 1 ≤ t.length by omega) (TA_le s4 (by omega)) h0 m1 (DR_N m2 g2)
      rw [← hc3] at k1 k2 k3
      rw [if_pos (e112.mpr hP), g1, Option.bind_some, un2_c, bd_c] at hhead
      unfold cF
      rw [hd, if_pos rfl, hcS]
      refine ⟨x1, ?_, ?_, fun _ => ?_, frD_tr f11 (frD_tr fg (frD_tr (frN_D m2) k4))⟩
      · rw [hhead, k1]
        cases isAt t (c3 t p) 58 <;> rfl
      · cases hc : isAt t (c3 t p) 58 <;> rw [hc] at k2 <;> exact k2
      · cases hc : isAt t (c3 t p) 58 <;> rw [hc] at k3 <;> exact k3
theorem s_missing {x : bq_S} {n m : Nat} {ta : Nat → Nat} (hm : m ≤ 8) (hn : 20 ≤ n) (h24 : ∀ i, i < 8 → x.1 24 i = nI (ta i)) (h60 : ∀ i, ta i ≤ 60) : fX7_missingOf n (nI m) x = some (if msF ta (8 - m) m 60 = 60 then nI m else -20 - nI (msF ta (8 - m) m 60), x) := by
  have key : ∀ k b a f, b + k = 8 → k < f → a ≤ 60 → wh f (fX7_missingOf_b5 n (nI m)) (nI a, nI b, x) = some (nI (msF ta k b a), nI 8, x) := by
    intro k
    induction k with
    | zero =>
      intro b a f h1 h2 h3
      obtain ⟨f, rfl⟩ : ∃ g, f = g + 1 := ⟨f - 1, by omega⟩
      have e : b = 8 := by omega
      subst e
      apply wh_e
      unfold fX7_missingOf_b5
      unfold un3
      dsimp only
      rw [if_pos (show (8 : Int32) ≤ nI 8 from Int32.le_refl _)]
      rfl
    | succ k ih =>
      intro b a f h1 h2 h3
      obtain ⟨f, rfl⟩ : ∃ g, f = g + 1 := ⟨f - 1, by omega⟩
      have hb := h60 b
      have n8 : ¬ (8 : Int32) ≤ nI b := by rw [le8 (show b < 2 ^ 31 by omega)]; omega
      have ee : (nI (ta b) < nI a) = (ta b < a) := wIlt (by omega) (by omega)
      have hv : (if nI (ta b) < nI a then nI (ta b) else nI a) = nI (if ta b < a then ta b else a) := by
        by_cases c : ta b < a
        · rw [if_pos (ee.mpr c), if_pos c]
        · rw [if_neg (fun h => c (ee.mp h)), if_neg c]
      have hbody : fX7_missingOf_b5 n (nI m) (nI a, nI b, x) = some (.inl (nI (if ta b < a then ta b else a), nI (b + 1), x)) := by
        unfold fX7_missingOf_b5
        unfold un3
        dsimp only
        rw [if_neg n8, if_pos (okN (show b < 8 by omega) (by decide)), cl0 (show b < 2 ^ 31 by omega), h24 b (by omega), hv, bd_c, bd_c, nI_1]
      rw [wh_c hbody]
      exact ih (b + 1) _ f (by omega) (by omega) (by split <;> omega)
  have h := key (8 - m) m 60 n (by omega) (by omega) (by omega)
  have h' : wh n (fX7_missingOf_b5 n (nI m)) ((60 : Int32), nI m, x) = some (nI (msF ta (8 - m) m 60), nI 8, x) := h
  have hle := (msF_le (ta := ta) (8 - m) m 60).1
  have e60 : (nI (msF ta (8 - m) m 60) = (60 : Int32)) = (msF ta (8 - m) m 60 = 60) := wIeq (b := 60) (by omega) (by decide)
  unfold fX7_missingOf
  rw [h', Option.bind_some]
  unfold un3
  dsimp only
  by_cases c : msF ta (8 - m) m 60 = 60
  · rw [if_pos (e60.mpr c), if_pos c]
  · rw [if_neg (fun h => c (e60.mp h)), if_neg c]
def resB (g : Option Nat × Nat × PS) : Int32 := match g.1 with
  | some q => -20 - nI q
  | none => if msF g.2.2.2.2.2 (8 - g.2.1) g.2.1 60 = 60 then nI g.2.1 else -20 - nI (msF g.2.2.2.2.2 (8 - g.2.1) g.2.1 60)
theorem s_books_loop {n : Nat} {t : List Nat} (ht : tpOK t) (hn : 70 ≤ n) : ∀ (k f b p : Nat) (S : PS) (x : bq_S), b + (k + 1) = 8 → k + 1 < f → p ≤ t.length → PW b p S → CN x t p → DR x S b → ∃ x1, wh f (fX7_readBooks_b20 n 15) (nI b, x) = some (.inr (resB (bF t (k + 1) b p S), x1)) ∧ CT x1 t ∧ ((bF t (k + 1) b p S).1 = none → DR x1 (bF t (k + 1) b p S).2.2 (bF t (k + 1) b p S).2.1) ∧ frD x x1 := by
  have h60 := ht.1
  intro k
  induction k with
  | zero =>
    intro f b p S x h1 h2 h3 h4 h5 h6
    obtain ⟨f, rfl⟩ : ∃ g, f = g + 1 := ⟨f - 1, by omega⟩
    have n8 : ¬ (8 : Int32) ≤ nI b := by rw [le8 (show b < 2 ^ 31 by omega)]; omega
    obtain ⟨c1, c2, c3⟩ := cF_ok ht (show b < 8 by omega) h3 h4
    obtain ⟨x11, k1, k2, k3, k4⟩ := s_readBook (n := n) ht (show b < 8 by omega) hn h3 h4 h5 h6
    unfold bF
    cases hc : (cF t b p S).1 with
    | false =>
      rw [hc] at k1
      rw [if_neg (by decide)]
      refine ⟨x11, wh_e ?_, k2.1, fun h => (by cases h), k4⟩
      unfold fX7_readBooks_b20
      rw [un2_c, if_neg n8, k1, Option.bind_some, un2_c, if_pos (show b2i false = 0 from rfl), k2.2]
      rfl
    | true =>
      rw [hc] at k1
      rw [if_pos rfl]
      obtain ⟨x15, j1, j2, j3⟩ := s_look ht c1 k2 hn
      rw [c2] at j1 j2
      have hD15 := DR_N j3 (k3 hc)
      have f15 : frD x x15 := frD_tr k4 (frN_D j3)
      by_cases hlt : (cF t b p S).2.1 < t.length
      · have hr := ht.2 _ (gt_mem hlt)
        rw [if_pos hlt] at j1
        rw [if_pos hlt, if_neg (fun h => h.2 rfl)]
        refine ⟨x15, wh_e ?_, j2.1, fun h => (by cases h), f15⟩
        have nm : ¬ nI (gt t (cF t b p S).2.1) = (-1 : Int32) := fun q => by
          have := congrArg Int32.toInt q
          rw [nI_toInt (by omega)] at this
          have e2 : (-1 : Int32).toInt = -1 := rfl
          rw [e2] at this; omega
        have e8 : nI (b + 1) = (8 : Int32) := by rw [show b + 1 = 8 by omega]; rfl
        have hj : fX7_readBooks_j76 n x15 = some (.inr (.inr (-20 - nI (cF t b p S).2.1, x15))) := by unfold fX7_readBooks_j76; rw [j2.2]
        unfold fX7_readBooks_b20
        rw [un2_c, if_neg n8, k1, Option.bind_some, un2_c, if_neg (show ¬ b2i true = 0 by decide), j1, Option.bind_some, un2_c, if_neg nm, nI_1, if_pos e8, hj]
        by_cases c : nI (gt t (cF t b p S).2.1) = (59 : Int32)
        · rw [if_pos c]; rfl
        · rw [if_neg c]; rfl
      · rw [if_neg hlt] at j1
        rw [if_neg hlt]
        have hms := s_missing (x := x15) (n := n) (m := b + 1) (ta := (cF t b p S).2.2.2.2.2) (by omega) (by omega) hD15.2.2.2.2 (fun i => by rcases (c3 hc).2.2.2.1 i with h | h <;> omega)
        refine ⟨x15, wh_e ?_, j2.1, fun _ => hD15, f15⟩
        unfold fX7_readBooks_b20
        rw [un2_c, if_neg n8, k1, Option.bind_some, un2_c, if_neg (show ¬ b2i true = 0 by decide), j1, Option.bind_some, un2_c, if_pos rfl, hD15.1, hms, Option.bind_some, un2_c]
        rfl
  | succ k ih =>
    intro f b p S x h1 h2 h3 h4 h5 h6
    obtain ⟨f, rfl⟩ : ∃ g, f = g + 1 := ⟨f - 1, by omega⟩
    have n8 : ¬ (8 : Int32) ≤ nI b := by rw [le8 (show b < 2 ^ 31 by omega)]; omega
    obtain ⟨c1, c2, c3⟩ := cF_ok ht (show b < 8 by omega) h3 h4
    obtain ⟨x11, k1, k2, k3, k4⟩ := s_readBook (n := n) ht (show b < 8 by omega) hn h3 h4 h5 h6
    have hbF : bF t (k + 1 + 1) b p S = if (cF t b p S).1 = true then (if (cF t b p S).2.1 < t.length then (if gt t (cF t b p S).2.1 = 59 ∧ k + 1 ≠ 0 then bF t (k + 1) (b + 1) ((cF t b p S).2.1 + 1) (cF t b p S).2.2 else (some (cF t b p S).2.1, b + 1, (cF t b p S).2.2)) else (none, b + 1, (cF t b p S).2.2)) else (some (cF t b p S).2.1, b, S) := rfl
    rw [hbF]
    cases hc : (cF t b p S).1 with
    | false =>
      rw [hc] at k1
      rw [if_neg (by decide)]
      refine ⟨x11, wh_e ?_, k2.1, fun h => (by cases h), k4⟩
      unfold fX7_readBooks_b20
      rw [un2_c, if_neg n8, k1, Option.bind_some, un2_c, if_pos (show b2i false = 0 from rfl), k2.2]
      rfl
    | true =>
      rw [hc] at k1
      rw [if_pos rfl]
      obtain ⟨x15, j1, j2, j3⟩ := s_look ht c1 k2 hn
      rw [c2] at j1 j2
      have hD15 := DR_N j3 (k3 hc)
      have f15 : frD x x15 := frD_tr k4 (frN_D j3)
      by_cases hlt : (cF t b p S).2.1 < t.length
      · have hr := ht.2 _ (gt_mem hlt)
        rw [if_pos hlt] at j1
        rw [if_pos hlt]
        have nm : ¬ nI (gt t (cF t b p S).2.1) = (-1 : Int32) := fun q => by
          have := congrArg Int32.toInt q
          rw [nI_toInt (by omega)] at this
          have e2 : (-1 : Int32).toInt = -1 := rfl
          rw [e2] at this; omega
        have e8 : ¬ nI (b + 1) = (8 : Int32) := fun h => by
          have h2 : (nI (b + 1) = (8 : Int32)) = (b + 1 = 8) := wIeq (b := 8) (by omega) (by decide)
          have := h2.mp h; omega
        have e59 : (nI (gt t (cF t b p S).2.1) = (59 : Int32)) = (gt t (cF t b p S).2.1 = 59) := wIeq (b := 59) (by omega) (by decide)
        have hj : fX7_readBooks_j76 n x15 = some (.inr (.inr (-20 - nI (cF t b p S).2.1, x15))) := by unfold fX7_readBooks_j76; rw [j2.2]
        by_cases c : gt t (cF t b p S).2.1 = 59
        · rw [if_pos ⟨c, by omega⟩]
          obtain ⟨m1, m2⟩ := CN_1 j2
          have hw := c3 hc
          obtain ⟨x2, i1, i2, i3, i4⟩ := ih f (b + 1) ((cF t b p S).2.1 + 1) (cF t b p S).2.2 (bq_sI x15 22 3 ((x15.1 22 3) + (1 : Int32))) (by omega) (by omega) (by omega) ⟨hw.1, hw.2.1, hw.2.2.1, TA_le hw.2.2.2.1 (by omega), hw.2.2.2.2⟩ m1 (DR_N m2 hD15)
          refine ⟨x2, ?_, i2, i3, frD_tr f15 (frD_tr (frN_D m2) i4)⟩
          have hbody : fX7_readBooks_b20 n 15 (nI b, x) = some (.inl (nI (b + 1), bq_sI x15 22 3 ((x15.1 22 3) + (1 : Int32)))) := by
            unfold fX7_readBooks_b20
            rw [un2_c, if_neg n8, k1, Option.bind_some, un2_c, if_neg (show ¬ b2i true = 0 by decide), j1, Option.bind_some, un2_c, if_neg nm, if_pos (e59.mpr c), nI_1, if_neg e8, bd_c, bd_c]
          rw [wh_c hbody]; exact i1
        · rw [if_neg (fun h => c h.1)]
          refine ⟨x15, wh_e ?_, j2.1, fun h => (by cases h), f15⟩
          unfold fX7_readBooks_b20
          rw [un2_c, if_neg n8, k1, Option.bind_some, un2_c, if_neg (show ¬ b2i true = 0 by decide), j1, Option.bind_some, un2_c, if_neg nm, if_neg (fun h => c (e59.mp h)), hj]
          rfl
      · rw [if_neg hlt] at j1
        rw [if_neg hlt]
        have hms := s_missing (x := x15) (n := n) (m := b + 1) (ta := (cF t b p S).2.2.2.2.2) (by omega) (by omega) hD15.2.2.2.2 (fun i => by rcases (c3 hc).2.2.2.1 i with h | h <;> omega)
        refine ⟨x15, wh_e ?_, j2.1, fun _ => hD15, f15⟩
        unfold fX7_readBooks_b20
        rw [un2_c, if_neg n8, k1, Option.bind_some, un2_c, if_neg (show ¬ b2i true = 0 by decide), j1, Option.bind_some, un2_c, if_pos rfl, hD15.1, hms, Option.bind_some, un2_c]
        rfl
def S0 : PS := (fun _ => 0, fun _ => 0, 0, fun _ => 60)
theorem S0_ok : PW 0 0 S0 := ⟨fun i hi => by omega, fun i => ⟨by show (0 : Nat) < 256; decide, by show (0 : Nat).testBit i = false; simp, fun _ => rfl⟩, by show (0 : Nat) < 2 ^ 0; decide, fun _ => Or.inl rfl, fun i c h => by
  have h' : (0 : Nat).testBit c = true := h
  simp at h'⟩
theorem s_readBooks {x : bq_S} {n : Nat} {t : List Nat} (ht : tpOK t) (hn : 70 ≤ n) (hc : CT x t) : ∃ x1, fX7_readBooks n 15 x = some (resB (bF t 8 0 0 S0), x1) ∧ CT x1 t ∧ ((bF t 8 0 0 S0).1 = none → DR x1 (bF t 8 0 0 S0).2.2 (bF t 8 0 0 S0).2.1) ∧ frD x x1 := by
  obtain ⟨x4, a1, a2, a3, a4⟩ := s_fillI (x := bq_sI (bq_sI x 15 0 0) 15 1 0) (q := 15 + 2) (k := 8) (by omega) hn 0
  obtain ⟨x5, b1, b2, b3, b4⟩ := s_fillI (x := x4) (q := 24) (k := 8) (by omega) hn (60 : Int32)
  obtain ⟨x6, h6⟩ : ∃ w, w = bq_sI x5 22 3 (nI 0) := ⟨_, rfl⟩
  have f6 : frD x x6 := by
    refine ⟨fun c a b d e f g => ?_, ?_, ?_⟩
    · rw [h6, sI_n _ _ _ f, b3 c g, a3 c d, sI_n _ _ _ a, sI_n _ _ _ a]
    · rw [h6, sI_s, pk_un (by decide), b3 22 (by decide), a3 22 (by decide), sI_n _ _ _ (by decide), sI_n _ _ _ (by decide)]
    · rw [h6]
      show x5.2 = x.2
      rw [b2, a2]; rfl
  have hN6 : CN x6 t 0 := ⟨CT_D f6 hc, by rw [h6, sI_s, pk_us]⟩
  have hD6 : DR x6 S0 0 := by
    refine ⟨?_, ?_, fun i hi => by omega, fun i hi => ?_, fun i hi => ?_⟩
    · rw [h6, sI_n _ _ _ (by decide), b3 15 (by decide), a3 15 (by decide), sI_s, pk_un (by decide), sI_s, pk_us]; rfl
    · rw [h6, sI_n _ _ _ (by decide), b3 15 (by decide), a3 15 (by decide), sI_s, pk_us]; rfl
    · rw [h6, sI_n _ _ _ (by decide), b3 17 (by decide)]
      exact a4 i hi
    · rw [h6, sI_n _ _ _ (by decide)]
      exact b4 i hi
  obtain ⟨x1, k1, k2, k3, k4⟩ := s_books_loop (n := n) ht hn 7 n 0 0 S0 x6 rfl (by omega) (by omega) S0_ok hN6 hD6
  have k1' : wh n (fX7_readBooks_b20 n 15) ((0 : Int32), x6) = some (.inr (resB (bF t 8 0 0 S0), x1)) := k1
  refine ⟨x1, ?_, k2, k3, frD_tr f6 k4⟩
  have h6' : bq_sI x5 22 3 (0 : Int32) = x6 := h6.symm
  unfold fX7_readBooks fX4_clearBooks
  rw [bd_c, bd_c, a1, Option.bind_some, Option.bind_some, b1, Option.bind_some, bd_c, h6', k1', Option.bind_some]
  rfl
