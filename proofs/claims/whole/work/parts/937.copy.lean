/-! ===== copy ===== -/
theorem cL_s (x : bq_S) (c c1 i j n : Nat) : (bq_cL x c c1 i j n).2 c1 = va_cpy (x.2 c) (x.2 c1) i j n := by simp [bq_cL]
theorem cL_n (x : bq_S) {c c1 d : Nat} (i j n : Nat) (h : d ≠ c1) : (bq_cL x c c1 i j n).2 d = x.2 d := by simp [bq_cL, h]
theorem ix16b (s a i : Nat) : (16 : Int32) * nI s + nI a + nI i = nI (16 * s + a + i) := by rw [ix16, nI_add]
theorem m_copy1 {y : bq_S} {s a k n : Nat} (hs : s < 4) (ha : a + k ≤ 16) (hn : 20 ≤ n) (p3 p4 : Int32) : ∃ y1, wh n (fX10_copy_b101 n (nI s) (nI a) p3 p4 (nI k)) ((0 : Int32), y) = some (nI k, y1) ∧ y1.1 = y.1 ∧ y1.2 16 = y.2 16 ∧ (∀ j, j < k → y1.2 17 j = y.2 16 (16 * s + a + j)) := by
  obtain ⟨z, hz, y1, rfl, h1, h2, h3⟩ := wh_for (b := fX10_copy_b101 n (nI s) (nI a) p3 p4 (nI k)) (fun i z => ∃ y1, z = (nI i, y1) ∧ y1.1 = y.1 ∧ y1.2 16 = y.2 16 ∧ (∀ j, j < i → y1.2 17 j = y.2 16 (16 * s + a + j))) (fun z => ∃ y1, z = (nI k, y1) ∧ y1.1 = y.1 ∧ y1.2 16 = y.2 16 ∧ (∀ j, j < k → y1.2 17 j = y.2 16 (16 * s + a + j))) k (by
    rintro i _ hi ⟨y1, rfl, h1, h2, h3⟩
    refine Or.inl ⟨(nI (i + 1), bq_sL y1 17 i (y1.2 16 (16 * s + a + i))), ?_, _, rfl, h1, ?_, fun j hj => ?_⟩
    · unfold fX10_copy_b101
      have n1 : ¬ k ≤ i := by omega
      simp only [un2, wIle (show k < 2 ^ 31 by omega) (show i < 2 ^ 31 by omega), n1, if_false, ix16b, okN (show 16 * s + a + i < 64 by omega) (by decide), okN (show i < 16 by omega) (by decide), if_true, bd, nI_1, cl0 (show 16 * s + a + i < 2 ^ 31 by omega), cl0 (show i < 2 ^ 31 by omega)]
    · rw [sL_n _ _ _ (by decide)]; exact h2
    · rw [sL_s]
      by_cases e : j = i
      · subst e; rw [pk_uLs, h2]
      · rw [pk_uLn e]; exact h3 j (by omega)) (by
    rintro _ ⟨y1, rfl, h1, h2, h3⟩
    refine ⟨(nI k, y1), ?_, y1, rfl, h1, h2, h3⟩
    unfold fX10_copy_b101
    simp only [un2, wIle (show k < 2 ^ 31 by omega) (show k < 2 ^ 31 by omega), Nat.le_refl, if_true]) n 0 ((0 : Int32), y) (by omega) ⟨y, rfl, rfl, rfl, fun j hj => by omega⟩ (by omega)
  exact ⟨y1, hz, h1, h2, h3⟩
theorem m_copy2 {y : bq_S} {s b k n : Nat} (hs : s < 4) (hb : b + k ≤ 16) (hn : 20 ≤ n) : ∃ y1, wh n (fX10_copy_b138 n (nI s) (nI b) (nI k)) ((0 : Int32), y) = some (nI k, y1) ∧ y1.1 = y.1 ∧ (∀ j, j < k → y1.2 16 (16 * s + b + j) = y.2 17 j) ∧ (∀ j, j < 16 * s + b ∨ 16 * s + b + k ≤ j → y1.2 16 j = y.2 16 j) := by
  obtain ⟨z, hz, y1, rfl, h1, h2, h3, h4⟩ := wh_for (b := fX10_copy_b138 n (nI s) (nI b) (nI k)) (fun i z => ∃ y1, z = (nI i, y1) ∧ y1.1 = y.1 ∧ y1.2 17 = y.2 17 ∧ (∀ j, j < i → y1.2 16 (16 * s + b + j) = y.2 17 j) ∧ (∀ j, j < 16 * s + b ∨ 16 * s + b + k ≤ j → y1.2 16 j = y.2 16 j)) (fun z => ∃ y1, z = (nI k, y1) ∧ y1.1 = y.1 ∧ y1.2 17 = y.2 17 ∧ (∀ j, j < k → y1.2 16 (16 * s + b + j) = y.2 17 j) ∧ (∀ j, j < 16 * s + b ∨ 16 * s + b + k ≤ j → y1.2 16 j = y.2 16 j)) k (by
    rintro i _ hi ⟨y1, rfl, h1, h2, h3, h4⟩
    refine Or.inl ⟨(nI (i + 1), bq_sL y1 16 (16 * s + b + i) (y1.2 17 i)), ?_, _, rfl, h1, ?_, fun j hj => ?_, fun j hj => ?_⟩
    · unfold fX10_copy_b138
      have n1 : ¬ k ≤ i := by omega
      simp only [un2, wIle (show k < 2 ^ 31 by omega) (show i < 2 ^ 31 by omega), n1, if_false, ix16b, okN (show 16 * s + b + i < 64 by omega) (by decide), okN (show i < 16 by omega) (by decide), if_true, bd, nI_1, cl0 (show 16 * s + b + i < 2 ^ 31 by omega), cl0 (show i < 2 ^ 31 by omega)]
    · rw [sL_n _ _ _ (by decide)]; exact h2
    · rw [sL_s]
      by_cases e : j = i
      · subst e; rw [pk_uLs, h2]
      · rw [pk_uLn (by omega)]; exact h3 j (by omega)
    · rw [sL_s, pk_uLn (by omega)]; exact h4 j hj) (by
    rintro _ ⟨y1, rfl, h1, h2, h3, h4⟩
    refine ⟨(nI k, y1), ?_, y1, rfl, h1, h2, h3, h4⟩
    unfold fX10_copy_b138
    simp only [un2, wIle (show k < 2 ^ 31 by omega) (show k < 2 ^ 31 by omega), Nat.le_refl, if_true]) n 0 ((0 : Int32), y) (by omega) ⟨y, rfl, rfl, rfl, fun j hj => by omega, fun _ _ => rfl⟩ (by omega)
  exact ⟨y1, hz, h1, h3, h4⟩
theorem okH_neg {sz : Nat} {i n : Int32} (h : n.toInt < 0) : okH sz i n = false := by
  unfold okH
  apply decide_eq_false
  omega
theorem st_copy {n : Nat} (hn : 20 ≤ n) : bs_copy Rl n := by
  rintro x y ⟨A, ho, hx, hy⟩ p1 p2 p3 p4 p5
  unfold fX9_copy fX10_copy
  simp only [s_isSheet, m_isSheet, Option.bind_some, un2, b2i_0]
  cases h1 : isB 4 p1 with
  | false => exact ⟨-1, x, y, by simp, by simp, A, ho, hx, hy⟩
  | true =>
    cases h2 : isB 4 p3 with
    | false => exact ⟨-1, x, y, by simp, by simp, A, ho, hx, hy⟩
    | true =>
      obtain ⟨s, hs, rfl⟩ := isB_of (by decide) h1
      obtain ⟨t, ht, rfl⟩ := isB_of (by decide) h2
      obtain ⟨c1, c2, c3⟩ := hx.2.2.2.2 s hs
      obtain ⟨c4, c5, c6⟩ := hx.2.2.2.2 t ht
      obtain ⟨d1, d2⟩ := hy.2.2.2 s hs
      obtain ⟨d3, d4⟩ := hy.2.2.2 t ht
      obtain ⟨o1, o2⟩ := ho.2.2.2 s hs
      obtain ⟨o3, o4⟩ := ho.2.2.2 t ht
      simp only [Bool.true_eq_false, if_false, okN hs (by decide), okN ht (by decide), if_true, cl0 (show s < 2 ^ 31 by omega), cl0 (show t < 2 ^ 31 by omega), c1, c4, d1, d3, ln_m1 o1, ln_m1 o3, ln_lt o1, ln_ge o3, ln_e2 o1 o3, s_holds c2 o2, s_holds c5 o4, Option.bind_some, b2i_0, lt0]
      by_cases e1 : (A.2.2.2 s).1 = 0
      · exact ⟨-11, x, y, by simp [e1], by simp [e1], A, ho, hx, hy⟩
      · by_cases e2 : (A.2.2.2 t).1 = 0
        · exact ⟨-11, x, y, by simp [e1, e2], by simp [e1, e2], A, ho, hx, hy⟩
        · by_cases e3 : (A.2.2.2 s).1 = (A.2.2.2 t).1
          · by_cases e4 : p5.toInt < 0
            · exact ⟨-13, x, y, by simp [e1, e2, e3, okH_neg e4], by simp [e1, e2, e3, e4], A, ho, hx, hy⟩
            · have l1 : nI (A.2.2.2 s).1 - 1 = nI ((A.2.2.2 s).1 - 1) := by
                obtain ⟨k, hk⟩ : ∃ k, (A.2.2.2 s).1 = k + 1 := ⟨(A.2.2.2 s).1 - 1, by omega⟩
                rw [hk, nI_pred]; rfl
              have l2 : nI (A.2.2.2 t).1 - 1 = nI ((A.2.2.2 t).1 - 1) := by
                obtain ⟨k, hk⟩ : ∃ k, (A.2.2.2 t).1 = k + 1 := ⟨(A.2.2.2 t).1 - 1, by omega⟩
                rw [hk, nI_pred]; rfl
              have f1 : fX10_finds (nI s) (nI (A.2.2.2 s).1 - 1) p2 p5 y = some (if okH (A.2.2.2 s).2.1 p2 p5 then 0 else -13, y) := by
                rw [l1, m_finds ho hy hs _ (by omega) p2 p5 (by omega)]
                unfold refu
                rw [if_neg e1, if_pos (by omega)]
              have f2 : fX10_finds (nI t) (nI (A.2.2.2 t).1 - 1) p4 p5 y = some (if okH (A.2.2.2 t).2.1 p4 p5 then 0 else -13, y) := by
                rw [l2, m_finds ho hy ht _ (by omega) p4 p5 (by omega)]
                unfold refu
                rw [if_neg e2, if_pos (by omega)]
              simp only [e1, e2, e3, e4, if_false, if_true, ne_eq, not_false_eq_true]
              rw [← e3, f1]
              simp only [Option.bind_some]
              cases g1 : okH (A.2.2.2 s).2.1 p2 p5 with
              | false => exact ⟨-13, x, y, by simp, by simp, A, ho, hx, hy⟩
              | true =>
                simp only [if_true, Bool.true_eq_false, if_false]
                rw [d3, f2]
                simp only [Option.bind_some]
                cases g2 : okH (A.2.2.2 t).2.1 p4 p5 with
                | false => exact ⟨-13, x, y, by simp, by simp, A, ho, hx, hy⟩
                | true =>
                  obtain ⟨a, k, hak, rfl, rfl⟩ := okH_of o2 g1
                  obtain ⟨b, k', hbk, rfl, hk⟩ := okH_of o4 g2
                  have : k' = k := ((nI_eq (by omega) (by omega)).mp hk).symm
                  subst this
                  obtain ⟨y1, j1, j2, j3, j4⟩ := m_copy1 (y := y) (s := s) (a := a) (k := k') (n := n) hs (by omega) hn (nI t) (nI b)
                  obtain ⟨y2, i1, i2, i3, i4⟩ := m_copy2 (y := y1) (s := t) (b := b) (k := k') (n := n) ht (by omega) hn
                  refine ⟨nI k', bq_cL x (34 + 2 * s + 1) (34 + 2 * t + 1) a b k', y2, ?_, ?_, ?_⟩
                  · have q1 : ¬ (nI a).toInt < 0 := by rw [nI_toInt (by omega)]; omega
                    have q2 : ¬ (nI b).toInt < 0 := by rw [nI_toInt (by omega)]; omega
                    simp only [Bool.true_eq_false, if_false, cl0 (show a < 2 ^ 31 by omega), cl0 (show b < 2 ^ 31 by omega), cl0 (show k' < 2 ^ 31 by omega), bd]
                    rw [if_pos (by refine ⟨q1, q2, ?_, ?_, ?_⟩ <;> first | trivial | omega)]
                  · rw [if_neg (by decide), if_pos (by decide), j1]
                    simp only [Option.bind_some, i1]
                  · refine Rl_sh (h := uSh A.2.2.2 t ((A.2.2.2 t).1, (A.2.2.2 t).2.1, va_cpy (A.2.2.2 s).2.2 (A.2.2.2 t).2.2 a b k')) ho hx hy (fun u hu => ?_) (fun c hc => rfl) (fun u hu => ?_) (fun c hc => by rw [i2, j2]) (fun u hu => ?_)
                    · unfold uSh; by_cases q : u = t
                      · simp only [q, if_true]; exact ho.2.2.2 t ht
                      · simp only [q, if_false]; exact ho.2.2.2 u hu
                    · have e6 : 34 + 2 * t + 1 = 35 + 2 * t := by omega
                      have e7 : 34 + 2 * s + 1 = 35 + 2 * s := by omega
                      rw [e6, e7]
                      unfold uSh; by_cases q : u = t
                      · subst q; simp only [if_true]
                        refine ⟨c4, c5, fun i hi => ?_⟩
                        rw [cL_s]
                        by_cases e : b ≤ i ∧ i < b + k'
                        · rw [pk_cpy_in e.1 e.2, pk_cpy_in e.1 e.2]; exact c3 _ (by omega)
                        · rw [pk_cpy_out (by omega), pk_cpy_out (by omega)]; exact c6 i hi
                      · simp only [q, if_false]
                        rw [cL_n _ _ _ _ (by omega)]
                        exact hx.2.2.2.2 u hu
                    · rw [i2, j2]
                      unfold uSh; by_cases q : u = t
                      · subst q; simp only [if_true]
                        refine ⟨d3, fun z => ⟨(d4 z).1, fun i hi => ?_⟩⟩
                        by_cases e : b ≤ i ∧ i < b + k'
                        · rw [pk_cpy_in e.1 e.2]
                          have := i3 (i - b) (by omega)
                          rw [show 16 * u + b + (i - b) = 16 * u + i by omega] at this
                          rw [this, j4 _ (by omega), show 16 * s + a + (i - b) = 16 * s + (a + (i - b)) by omega]
                          exact (d2 e1).2 _ (by omega)
                        · rw [pk_cpy_out (by omega), i4 _ (by omega), j3]; exact (d4 z).2 i hi
                      · simp only [q, if_false]
                        obtain ⟨f1, f2⟩ := hy.2.2.2 u hu
                        refine ⟨f1, fun z => ⟨(f2 z).1, fun i hi => ?_⟩⟩
                        rw [i4 _ (by omega), j3]; exact (f2 z).2 i hi
          · refine ⟨-12, x, y, by simp [e1, e2, e3], by simp [e1, e2, e3], A, ho, hx, hy⟩
