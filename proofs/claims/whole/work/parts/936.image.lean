/-! ===== image, restore ===== -/
theorem s_has0 (p q : Int32) (x : bq_S) : ∃ r : Bool, fX9_has p q x = some (b2i r, x) := by
  unfold fX9_has
  by_cases h : (p &&& ((1 : Int32) <<< (q &&& 31))) = 0
  · exact ⟨false, by simp [h, b2i]⟩
  · exact ⟨true, by simp [h, b2i]⟩
theorem s_isBook1 (q : Nat) (p : Int64) (x : bq_S) : ∃ r : Bool, fX4_isBook q p x = some (b2i r, x) := by
  unfold fX4_isBook
  by_cases h : lg_cmp p 0 < 0
  · exact ⟨false, by simp [h, b2i]⟩
  · by_cases h2 : 0 ≤ (lg_cmp p (x.1 q 0).toInt64)
    · exact ⟨false, by simp [h, h2, b2i]⟩
    · exact ⟨true, by simp [h, h2, b2i]⟩
theorem s_areTwo1 (q : Nat) (p1 p2 : Int32) (x : bq_S) : ∃ r : Bool, fX4_areTwo q p1 p2 x = some (b2i r, x) := by
  unfold fX4_areTwo
  obtain ⟨r1, h1⟩ := s_isBook1 q p1.toInt64 x
  obtain ⟨r2, h2⟩ := s_isBook1 q p2.toInt64 x
  simp only [h1, h2, Option.bind_some, un2, b2i_0]
  cases r1
  · exact ⟨false, by simp [b2i]⟩
  · cases r2
    · exact ⟨false, by simp [b2i]⟩
    · by_cases e : p1 = p2
      · exact ⟨false, by simp [e, b2i]⟩
      · exact ⟨true, by simp [e, b2i]⟩
theorem s_mayTouch1 (q a b : Nat) (x : bq_S) (ha : a < 8) (hb : b < 8) : ∃ r : Bool, fX4_mayTouch q (nI a) (nI b) x = some (b2i r, x) := by
  unfold fX4_mayTouch
  simp only [okN ha (by decide), okN hb (by decide), if_true]
  obtain ⟨r1, h1⟩ := s_has0 (x.1 (q + 3) (nI a).toNatClampNeg) (nI b) x
  obtain ⟨r2, h2⟩ := s_has0 (x.1 q 1) (nI a) x
  obtain ⟨r3, h3⟩ := s_has0 (x.1 q 1) (nI b) x
  obtain ⟨r4, h4⟩ := s_has0 (x.1 (q + 2) (nI a).toNatClampNeg) (nI b) x
  obtain ⟨r5, h5⟩ := s_has0 (x.1 (q + 2) (nI b).toNatClampNeg) (nI a) x
  simp only [h1, h2, h3, h4, h5, Option.bind_some, un2, b2i_0]
  cases r1
  · cases r2
    · cases r3
      · cases r4
        · cases r5
          · simp only [if_true]
            by_cases e1 : x.1 (q + 4) 1 = (1 : Int32)
            · by_cases e2 : ((x.1 (q + 2) (nI a).toNatClampNeg) &&& (x.1 (q + 2) (nI b).toNatClampNeg)) = 0
              · exact ⟨false, by simp [e1, e2, b2i]⟩
              · exact ⟨true, by simp [e1, e2, b2i]⟩
            · exact ⟨false, by simp [e1, b2i]⟩
          · exact ⟨true, by simp [b2i]⟩
        · exact ⟨true, by simp [b2i]⟩
      · exact ⟨true, by simp [b2i]⟩
    · exact ⟨true, by simp [b2i]⟩
  · exact ⟨false, by simp [b2i]⟩
/-- whatever stands there: learnNear ends, and changes nothing but near -/
theorem s_learn0 (x : bq_S) (q : Nat) {n : Nat} (hn : 20 ≤ n) : ∃ x1, fX4_learnNear n q x = some x1 ∧ (∀ c, c ≠ q + 6 → x1.1 c = x.1 c) ∧ x1.2 = x.2 := by
  have inner : ∀ (z : bq_S) (b : Nat), b < 8 → ∃ s, wh n (fX4_learnNear_b12 n q (nI b)) ((0 : Int32), (0 : Int32), z) = some (s, nI 8, z) := by
    intro z b hb
    obtain ⟨o, ho, s, rfl⟩ := wh_for (b := fX4_learnNear_b12 n q (nI b)) (fun i v => ∃ s, v = (s, nI i, z)) (fun o => ∃ s, o = (s, nI 8, z)) 8 (by
      rintro i _ hi ⟨s, rfl⟩
      unfold fX4_learnNear_b12
      have h1 : ¬ 8 ≤ i := by omega
      obtain ⟨r1, k1⟩ := s_areTwo1 q (nI b) (nI i) z
      obtain ⟨r2, k2⟩ := s_mayTouch1 q b i z hb hi
      simp only [un3, le8 (show i < 2 ^ 31 by omega), h1, if_false, k1, k2, Option.bind_some, un2, b2i_0, bd, nI_1, s_bit i z (by omega)]
      cases r1
      · exact Or.inl ⟨_, rfl, s, rfl⟩
      · cases r2
        · exact Or.inl ⟨_, rfl, s, rfl⟩
        · exact Or.inl ⟨_, rfl, _, rfl⟩) (by
      rintro _ ⟨s, rfl⟩
      refine ⟨_, ?_, s, rfl⟩
      unfold fX4_learnNear_b12
      simp only [un3, le8 (show 8 < 2 ^ 31 by omega), Nat.le_refl, if_true]) n 0 ((0 : Int32), (0 : Int32), z) (by omega) ⟨0, rfl⟩ (by omega)
    exact ⟨s, ho⟩
  obtain ⟨z, hz, h1, h2⟩ := wh_for (b := fX4_learnNear_b2 n q) (fun i v => v.1 = nI i ∧ (∀ c, c ≠ q + 6 → v.2.1 c = x.1 c) ∧ v.2.2 = x.2) (fun z => (∀ c, c ≠ q + 6 → z.2.1 c = x.1 c) ∧ z.2.2 = x.2) 8 (by
    rintro i ⟨v, z⟩ hi ⟨h0, h1, h2⟩
    dsimp only at h0 h1 h2
    subst h0
    obtain ⟨s, hs⟩ := inner z i hi
    refine Or.inl ⟨(nI (i + 1), bq_sI z (q + 6) i s), ?_, rfl, ?_, ?_⟩
    · unfold fX4_learnNear_b2
      have h8 : ¬ 8 ≤ i := by omega
      simp only [un2, le8 (show i < 2 ^ 31 by omega), h8, if_false, hs, Option.bind_some, un3, okN hi (by decide), if_true, bd, nI_1, cl0 (show i < 2 ^ 31 by omega)]
    · intro c hcne
      dsimp only
      rw [sI_n _ _ _ hcne]; exact h1 c hcne
    · exact h2) (by
    rintro ⟨v, z⟩ ⟨h0, h1, h2⟩
    dsimp only at h0 h1 h2
    subst h0
    refine ⟨(nI 8, z), ?_, h1, h2⟩
    unfold fX4_learnNear_b2
    simp only [un2, le8 (show 8 < 2 ^ 31 by omega), Nat.le_refl, if_true]) n 0 ((0 : Int32), x) (by omega) ⟨rfl, fun _ _ => rfl, rfl⟩ (by omega)
  obtain ⟨v, z⟩ := z
  refine ⟨z, ?_, h1, h2⟩
  unfold fX4_learnNear
  rw [hz]
  rfl
theorem s_fillI {x : bq_S} {q n k : Nat} (hk : k ≤ 60) (hn : 70 ≤ n) (v : Int32) : ∃ x1, fJ7_fill n q k v x = some x1 ∧ x1.2 = x.2 ∧ (∀ c, c ≠ q → x1.1 c = x.1 c) ∧ ∀ i, i < k → x1.1 q i = v := by
  have hkk : Int32.ofNat k = nI k := rfl
  obtain ⟨z, hz, h1, h2, h3⟩ := wh_for (b := fJ7_fill_b5 n q k v (nI k)) (fun i z => z.1 = nI i ∧ z.2.2 = x.2 ∧ (∀ c, c ≠ q → z.2.1 c = x.1 c) ∧ ∀ j, j < i → z.2.1 q j = v) (fun z => z.2.2 = x.2 ∧ (∀ c, c ≠ q → z.2.1 c = x.1 c) ∧ ∀ i, i < k → z.2.1 q i = v) k (by
    rintro i ⟨a, z⟩ hi ⟨h0, h1, h2, h3⟩
    dsimp only at h0 h1 h2 h3
    subst h0
    refine Or.inl ⟨(nI (i + 1), bq_sI z q i v), ?_, rfl, h1, fun c hc => ?_, fun j hj => ?_⟩
    · unfold fJ7_fill_b5
      have n1 : ¬ k ≤ i := by omega
      simp only [un2, wIle (show k < 2 ^ 31 by omega) (show i < 2 ^ 31 by omega), n1, if_false, okN hi (show k < 2 ^ 31 by omega), if_true, bd, nI_1, cl0 (show i < 2 ^ 31 by omega)]
    · dsimp only; rw [sI_n _ _ _ hc]; exact h2 c hc
    · dsimp only; rw [sI_s]
      by_cases e : j = i
      · subst e; exact pk_us
      · rw [pk_un e]; exact h3 j (by omega)) (by
    rintro ⟨a, z⟩ ⟨h0, h1, h2, h3⟩
    dsimp only at h0 h1 h2 h3
    subst h0
    refine ⟨(nI k, z), ?_, h1, h2, h3⟩
    unfold fJ7_fill_b5
    simp only [un2, wIle (show k < 2 ^ 31 by omega) (show k < 2 ^ 31 by omega), Nat.le_refl, if_true]) n 0 ((0 : Int32), x) (by omega) ⟨rfl, rfl, fun _ _ => rfl, fun j hj => by omega⟩ (by omega)
  obtain ⟨a, z⟩ := z
  refine ⟨z, ?_, h1, h2, h3⟩
  unfold fJ7_fill
  rw [hkk]
  simp only [bd, hz, Option.bind_some, un2]
theorem cI_s (x : bq_S) (c c1 i j n : Nat) : (bq_cI x c c1 i j n).1 c1 = va_cpy (x.1 c) (x.1 c1) i j n := by simp [bq_cI]
theorem cI_n (x : bq_S) {c c1 d : Nat} (i j n : Nat) (h : d ≠ c1) : (bq_cI x c c1 i j n).1 d = x.1 d := by simp [bq_cI, h]
theorem cpy0 {f g : Nat → Int32} {n i : Nat} (h : i < n) : va_cpy f g 0 0 n i = f i := by
  rw [pk_cpy_in (by omega) (by omega)]; simp
/-- the books of another library (its hall and hates not yet) -/
theorem s_takeBooks {x : bq_S} {q0 q1 n : Nat} (hq : q0 + 6 < q1 ∨ q1 + 6 < q0) (hn : 70 ≤ n) : ∃ x1, fX4_takeBooks n q0 q1 x = some x1 ∧ x1.2 = x.2 ∧ (∀ c, c < q0 ∨ q0 + 6 < c → x1.1 c = x.1 c) ∧ x1.1 q0 0 = x.1 q1 0 ∧ x1.1 q0 1 = x.1 q1 1 ∧ x1.1 q0 2 = 0 ∧ (∀ i, i < 8 → x1.1 (q0 + 1) i = x.1 (q1 + 1) i) ∧ (∀ i, i < 8 → x1.1 (q0 + 2) i = x.1 (q1 + 2) i) ∧ (∀ i, i < 8 → x1.1 (q0 + 3) i = 0) ∧ x1.1 (q0 + 4) = x.1 (q0 + 4) ∧ x1.1 (q0 + 5) = x.1 (q0 + 5) := by
  obtain ⟨z, k1, k2, k3, k4⟩ := s_fillI (x := bq_cI (bq_cI (bq_sI (bq_sI (bq_sI x q0 0 (x.1 q1 0)) q0 1 (x.1 q1 1)) q0 2 0) (q1 + 1) (q0 + 1) 0 0 8) (q1 + 2) (q0 + 2) 0 0 8) (q := q0 + 3) (k := 8) (by omega) hn 0
  obtain ⟨x1, j1, j2, j3⟩ := s_learn0 z q0 (n := n) (by omega)
  refine ⟨x1, ?_, j3.trans k2, fun c hc => ?_, ?_, ?_, ?_, fun i hi => ?_, fun i hi => ?_, fun i hi => ?_, ?_, ?_⟩
  · unfold fX4_takeBooks
    have e1 : (bq_sI x q0 0 (x.1 q1 0)).1 q1 1 = x.1 q1 1 := by rw [sI_n _ _ _ (by omega)]
    have hc : (¬ (0 : Int32) < 0 ∧ ¬ (0 : Int32) < 0 ∧ ¬ (8 : Int32) < 0 ∧ (0 : Int32).toNatClampNeg + (8 : Int32).toNatClampNeg ≤ 8 ∧ (0 : Int32).toNatClampNeg + (8 : Int32).toNatClampNeg ≤ 8) := by decide
    simp only [bd, e1]
    rw [if_pos hc, if_pos hc]
    show (fJ7_fill n (q0 + 3) 8 0 (bq_cI (bq_cI (bq_sI (bq_sI (bq_sI x q0 0 (x.1 q1 0)) q0 1 (x.1 q1 1)) q0 2 0) (q1 + 1) (q0 + 1) 0 0 8) (q1 + 2) (q0 + 2) 0 0 8)).bind _ = _
    rw [k1]
    simp only [Option.bind_some, j1]
  · rw [j2 c (by omega), k3 c (by omega), cI_n _ _ _ _ (by omega), cI_n _ _ _ _ (by omega), sI_n _ _ _ (by omega), sI_n _ _ _ (by omega), sI_n _ _ _ (by omega)]
  · rw [j2 _ (by omega), k3 _ (by omega), cI_n _ _ _ _ (by omega), cI_n _ _ _ _ (by omega), sI_s, pk_un (by decide), sI_s, pk_un (by decide), sI_s, pk_us]
  · rw [j2 _ (by omega), k3 _ (by omega), cI_n _ _ _ _ (by omega), cI_n _ _ _ _ (by omega), sI_s, pk_un (by decide), sI_s, pk_us]
  · rw [j2 _ (by omega), k3 _ (by omega), cI_n _ _ _ _ (by omega), cI_n _ _ _ _ (by omega), sI_s, pk_us]
  · rw [j2 _ (by omega), k3 _ (by omega), cI_n _ _ _ _ (by omega), cI_s, cpy0 hi, sI_n _ _ _ (by omega), sI_n _ _ _ (by omega), sI_n _ _ _ (by omega)]
  · rw [j2 _ (by omega), k3 _ (by omega), cI_s, cpy0 hi, cI_n _ _ _ _ (by omega), sI_n _ _ _ (by omega), sI_n _ _ _ (by omega), sI_n _ _ _ (by omega)]
  · rw [j2 _ (by omega)]; exact k4 i hi
  · rw [j2 _ (by omega), k3 _ (by omega), cI_n _ _ _ _ (by omega), cI_n _ _ _ _ (by omega), sI_n _ _ _ (by omega), sI_n _ _ _ (by omega), sI_n _ _ _ (by omega)]
  · rw [j2 _ (by omega), k3 _ (by omega), cI_n _ _ _ _ (by omega), cI_n _ _ _ _ (by omega), sI_n _ _ _ (by omega), sI_n _ _ _ (by omega), sI_n _ _ _ (by omega)]
theorem s_takeHall {x : bq_S} {q0 q1 k : Nat} (hk : k ≤ 8) (hne : q0 ≠ q1) : ∃ x1, fX4_takeHall q0 q1 8 (nI k) x = some x1 ∧ x1.2 = x.2 ∧ (∀ c, c ≠ q0 → c ≠ q0 + 5 → x1.1 c = x.1 c) ∧ (∀ i, i ≠ 2 → x1.1 q0 i = x.1 q0 i) ∧ x1.1 q0 2 = nI k ∧ ∀ i, i < k → x1.1 (q0 + 5) i = x.1 q1 i := by
  refine ⟨bq_sI (bq_cI x q1 (q0 + 5) 0 0 k) q0 2 (nI k), ?_, rfl, fun c h1 h2 => ?_, fun i hi => ?_, ?_, fun i hi => ?_⟩
  · unfold fX4_takeHall
    have hkc : (nI k).toNatClampNeg = k := cl0 (by omega)
    have z0 : (0 : Int32).toNatClampNeg = 0 := rfl
    have hk0 : ¬ nI k < 0 := nI_pos (by omega)
    simp only [hkc, z0, hk0]
    rw [if_pos (by refine ⟨by decide, by decide, ?_, by omega, by omega⟩; simp)]
    rfl
  · rw [sI_n _ _ _ h1, cI_n _ _ _ _ h2]
  · rw [sI_s, pk_un hi, cI_n _ _ _ _ (by omega)]
  · rw [sI_s, pk_us]
  · rw [sI_n _ _ _ (by omega), cI_s, cpy0 hi]
theorem s_become {x : bq_S} {q0 q1 n : Nat} {L : AL} (hq : q0 + 6 < q1 ∨ q1 + 6 < q0) (hn : 70 ≤ n) (hc : CL x q1 L) (ho : OKL L) : ∃ x1, fX4_become n q0 q1 x = some x1 ∧ CL x1 q0 L ∧ NR x1 q0 L ∧ (∀ c, c < q0 ∨ q0 + 6 < c → x1.1 c = x.1 c) ∧ x1.2 = x.2 := by
  obtain ⟨c1, c2, c3, c4, c5, c6, c7, c8, c9⟩ := hc
  have h8 := hall8 ho
  obtain ⟨x2, a1, a2, a3, a4, a5, a6, a7, a8, a9, a10, a11⟩ := s_takeBooks (x := x) hq hn
  have b1 : (bq_cI (bq_cI x2 (q1 + 3) (q0 + 3) 0 0 8) (q1 + 4) (q0 + 4) 0 0 2).1 q1 2 = nI (lhl L).length := by
    rw [cI_n _ _ _ _ (by omega), cI_n _ _ _ _ (by omega), a3 _ (by omega), c3]
  obtain ⟨x3, t1, t2, t3, t4, t5, t6⟩ := s_takeHall (x := bq_cI (bq_cI x2 (q1 + 3) (q0 + 3) 0 0 8) (q1 + 4) (q0 + 4) 0 0 2) (q0 := q0) (q1 := q1 + 5) h8 (by omega)
  have hL3 : CL x3 q0 L := by
    refine ⟨?_, ?_, t5, fun i hi => ?_, fun i hi => ?_, fun i hi => ?_, ?_, ?_, fun i hi => ?_⟩
    · rw [t4 0 (by decide), cI_n _ _ _ _ (by omega), cI_n _ _ _ _ (by omega), a4, c1]
    · rw [t4 1 (by decide), cI_n _ _ _ _ (by omega), cI_n _ _ _ _ (by omega), a5, c2]
    · rw [t3 _ (by omega) (by omega), cI_n _ _ _ _ (by omega), cI_n _ _ _ _ (by omega), a7 i (by have := ho.1; omega), c4 i hi]
    · rw [t3 _ (by omega) (by omega), cI_n _ _ _ _ (by omega), cI_n _ _ _ _ (by omega), a8 i hi, c5 i hi]
    · rw [t3 _ (by omega) (by omega), cI_n _ _ _ _ (by omega), cI_s, cpy0 hi, a3 _ (by omega), c6 i hi]
    · rw [t3 _ (by omega) (by omega), cI_s, cpy0 (by decide), cI_n _ _ _ _ (by omega), a3 _ (by omega), c7]
    · rw [t3 _ (by omega) (by omega), cI_s, cpy0 (by decide), cI_n _ _ _ _ (by omega), a3 _ (by omega), c8]
    · rw [t6 i hi, cI_n _ _ _ _ (by omega), cI_n _ _ _ _ (by omega), a3 _ (by omega), c9 i hi]
  obtain ⟨x4, l1, l2, l3, l4⟩ := s_learn (n := n) hL3 ho (by omega)
  refine ⟨x4, ?_, CL_of (fun c h1 h2 => l2 c (by omega)) hL3, l4, fun c hc => ?_, ?_⟩
  · unfold fX4_become
    have hc8 : (¬ (0 : Int32) < 0 ∧ ¬ (0 : Int32) < 0 ∧ ¬ (8 : Int32) < 0 ∧ (0 : Int32).toNatClampNeg + (8 : Int32).toNatClampNeg ≤ 8 ∧ (0 : Int32).toNatClampNeg + (8 : Int32).toNatClampNeg ≤ 8) := by decide
    have hc2 : (¬ (0 : Int32) < 0 ∧ ¬ (0 : Int32) < 0 ∧ ¬ (2 : Int32) < 0 ∧ (0 : Int32).toNatClampNeg + (2 : Int32).toNatClampNeg ≤ 2 ∧ (0 : Int32).toNatClampNeg + (2 : Int32).toNatClampNeg ≤ 2) := by decide
    rw [a1]
    simp only [Option.bind_some, bd]
    rw [if_pos hc8, if_pos hc2]
    show (fX4_takeHall q0 (q1 + 5) 8 ((bq_cI (bq_cI x2 (q1 + 3) (q0 + 3) 0 0 8) (q1 + 4) (q0 + 4) 0 0 2).1 q1 2) (bq_cI (bq_cI x2 (q1 + 3) (q0 + 3) 0 0 8) (q1 + 4) (q0 + 4) 0 0 2)).bind _ = _
    rw [b1, t1]
    simp only [Option.bind_some, l1]
  · rw [l2 c (by omega), t3 c (by omega) (by omega), cI_n _ _ _ _ (by omega), cI_n _ _ _ _ (by omega), a3 c hc]
  · rw [l3, t2]; exact a2
/-! the reference's image -/
theorem m_lay {y : bq_S} {q k a n : Nat} (hk : k ≤ 8) (ha : a + k ≤ 40) (hq : q ≠ 13) (hn : 20 ≤ n) : ∃ y1, fX10_lay n q k (nI a) y = some (nI (a + k), y1) ∧ y1.2 = y.2 ∧ (∀ c, c ≠ 13 → y1.1 c = y.1 c) ∧ (∀ i, i < k → y1.1 13 (a + i) = y.1 q i) ∧ ∀ i, i < a ∨ a + k ≤ i → y1.1 13 i = y.1 13 i := by
  have hkk : Int32.ofNat k = nI k := rfl
  obtain ⟨z, hz, h1, h2, h3, h4⟩ := wh_for (b := fX10_lay_b2 n q k (nI a)) (fun i z => z.1 = nI i ∧ z.2.2 = y.2 ∧ (∀ c, c ≠ 13 → z.2.1 c = y.1 c) ∧ (∀ j, j < i → z.2.1 13 (a + j) = y.1 q j) ∧ ∀ j, j < a ∨ a + k ≤ j → z.2.1 13 j = y.1 13 j) (fun z => z.2.2 = y.2 ∧ (∀ c, c ≠ 13 → z.2.1 c = y.1 c) ∧ (∀ j, j < k → z.2.1 13 (a + j) = y.1 q j) ∧ ∀ j, j < a ∨ a + k ≤ j → z.2.1 13 j = y.1 13 j) k (by
    rintro i ⟨v, z⟩ hi ⟨h0, h1, h2, h3, h4⟩
    dsimp only at h0 h1 h2 h3 h4
    subst h0
    refine Or.inl ⟨(nI (i + 1), bq_sI z 13 (a + i) (z.1 q i)), ?_, rfl, h1, fun c hc => ?_, fun j hj => ?_, fun j hj => ?_⟩
    · unfold fX10_lay_b2
      have n1 : ¬ k ≤ i := by omega
      simp only [un2, hkk, wIle (show k < 2 ^ 31 by omega) (show i < 2 ^ 31 by omega), n1, if_false, okN hi (show k < 2 ^ 31 by omega), nI_add, okN (show a + i < 40 by omega) (by decide), if_true, bd, nI_1, cl0 (show i < 2 ^ 31 by omega), cl0 (show a + i < 2 ^ 31 by omega)]
    · dsimp only; rw [sI_n _ _ _ hc]; exact h2 c hc
    · dsimp only; rw [sI_s]
      by_cases e : j = i
      · subst e; rw [pk_us, h2 q hq]
      · rw [pk_un (by omega)]; exact h3 j (by omega)
    · dsimp only; rw [sI_s, pk_un (by omega)]; exact h4 j hj) (by
    rintro ⟨v, z⟩ ⟨h0, h1, h2, h3, h4⟩
    dsimp only at h0 h1 h2 h3 h4
    subst h0
    refine ⟨(nI k, z), ?_, h1, h2, h3, h4⟩
    unfold fX10_lay_b2
    simp only [un2, hkk, wIle (show k < 2 ^ 31 by omega) (show k < 2 ^ 31 by omega), Nat.le_refl, if_true]) n 0 ((0 : Int32), y) (by omega) ⟨rfl, rfl, fun _ _ => rfl, fun j hj => by omega, fun _ _ => rfl⟩ (by omega)
  obtain ⟨v, z⟩ := z
  refine ⟨z, ?_, h1, h2, h3, h4⟩
  unfold fX10_lay
  rw [hz]
  simp only [Option.bind_some, un2, hkk, nI_add]
theorem m_gives {y : bq_S} {q k a n : Nat} (hk : k ≤ 8) (ha : a + k ≤ 40) (hq : q ≠ 13) (hn : 20 ≤ n) : ∃ y1, fX10_gives n (nI a) q k y = some (nI (a + k), y1) ∧ y1.2 = y.2 ∧ (∀ c, c ≠ q → y1.1 c = y.1 c) ∧ (∀ i, i < k → y1.1 q i = y.1 13 (a + i)) := by
  have hkk : Int32.ofNat k = nI k := rfl
  obtain ⟨z, hz, h1, h2, h3⟩ := wh_for (b := fX10_gives_b2 n (nI a) q k) (fun i z => z.1 = nI i ∧ z.2.2 = y.2 ∧ (∀ c, c ≠ q → z.2.1 c = y.1 c) ∧ (∀ j, j < i → z.2.1 q j = y.1 13 (a + j))) (fun z => z.2.2 = y.2 ∧ (∀ c, c ≠ q → z.2.1 c = y.1 c) ∧ (∀ j, j < k → z.2.1 q j = y.1 13 (a + j))) k (by
    rintro i ⟨v, z⟩ hi ⟨h0, h1, h2, h3⟩
    dsimp only at h0 h1 h2 h3
    subst h0
    refine Or.inl ⟨(nI (i + 1), bq_sI z q i (z.1 13 (a + i))), ?_, rfl, h1, fun c hc => ?_, fun j hj => ?_⟩
    · unfold fX10_gives_b2
      have n1 : ¬ k ≤ i := by omega
      simp only [un2, hkk, wIle (show k < 2 ^ 31 by omega) (show i < 2 ^ 31 by omega), n1, if_false, okN hi (show k < 2 ^ 31 by omega), nI_add, okN (show a + i < 40 by omega) (by decide), if_true, bd, nI_1, cl0 (show i < 2 ^ 31 by omega), cl0 (show a + i < 2 ^ 31 by omega)]
    · dsimp only; rw [sI_n _ _ _ hc]; exact h2 c hc
    · dsimp only; rw [sI_s]
      by_cases e : j = i
      · subst e; rw [pk_us, h2 13 (Ne.symm hq)]
      · rw [pk_un e]; exact h3 j (by omega)) (by
    rintro ⟨v, z⟩ ⟨h0, h1, h2, h3⟩
    dsimp only at h0 h1 h2 h3
    subst h0
    refine ⟨(nI k, z), ?_, h1, h2, h3⟩
    unfold fX10_gives_b2
    simp only [un2, hkk, wIle (show k < 2 ^ 31 by omega) (show k < 2 ^ 31 by omega), Nat.le_refl, if_true]) n 0 ((0 : Int32), y) (by omega) ⟨rfl, rfl, fun _ _ => rfl, fun j hj => by omega⟩ (by omega)
  obtain ⟨v, z⟩ := z
  refine ⟨z, ?_, h1, h2, h3⟩
  unfold fX10_gives
  rw [hz]
  simp only [Option.bind_some, un2, hkk, nI_add]
theorem st_image {n : Nat} (hn : 70 ≤ n) : bs_image Rl n := by
  rintro x y ⟨A, ho, hx, hy⟩
  obtain ⟨x2, a1, a2, a3, a4, a5⟩ := s_become (q0 := 8) (q1 := 1) (by omega) hn hx.1 ho.1
  obtain ⟨y1, b1, b2, b3, b4, b5⟩ := m_lay (y := y) (q := 1) (k := 8) (a := 0) (n := n) (by omega) (by omega) (by omega) (by omega)
  obtain ⟨y2, c1, c2, c3, c4, c5⟩ := m_lay (y := y1) (q := 2) (k := 8) (a := 8) (n := n) (by omega) (by omega) (by omega) (by omega)
  obtain ⟨y3, d1, d2, d3, d4, d5⟩ := m_lay (y := y2) (q := 3) (k := 8) (a := 16) (n := n) (by omega) (by omega) (by omega) (by omega)
  obtain ⟨y4, e1, e2, e3, e4, e5⟩ := m_lay (y := y3) (q := 4) (k := 2) (a := 24) (n := n) (by omega) (by omega) (by omega) (by omega)
  obtain ⟨y5, f1, f2, f3, f4, f5⟩ := m_lay (y := y4) (q := 5) (k := 8) (a := 26) (n := n) (by omega) (by omega) (by omega) (by omega)
  have hfr : ∀ c, c ≠ 13 → y5.1 c = y.1 c := fun c hc => by rw [f3 c hc, e3 c hc, d3 c hc, c3 c hc, b3 c hc]
  obtain ⟨m1, m2, m3, m4, m5, m6, m7, m8, m9⟩ := hy.1
  refine ⟨1, bq_sI x2 0 11 1, bq_sI (bq_sI (bq_sI (bq_sI y5 13 34 (y5.1 0 0)) 13 35 (y5.1 0 4)) 13 36 (y5.1 0 6)) 0 21 1, ?_, ?_, ?_⟩
  · unfold fX9_image; rw [a1]; rfl
  · unfold fX10_image
    have z0 : (0 : Int32) = nI 0 := rfl
    rw [z0, b1]
    simp only [Option.bind_some, un2]
    rw [show nI (0 + 8) = nI 8 from rfl, c1]
    simp only [Option.bind_some]
    rw [show nI (8 + 8) = nI 16 from rfl, d1]
    simp only [Option.bind_some]
    rw [show nI (16 + 8) = nI 24 from rfl, e1]
    simp only [Option.bind_some]
    rw [show nI (24 + 2) = nI 26 from rfl, f1]
    simp only [Option.bind_some]
    rfl
  · refine ⟨(A.1, some A.1, A.2.2), ⟨ho.1, fun L hL => by cases hL; exact ho.1, ho.2.2⟩, ⟨?_, ?_, ⟨?_, ?_⟩, ?_, ?_⟩, ⟨?_, ⟨rfl, ?_⟩, ?_, ?_⟩⟩
    · exact CL_of (fun c h1 h2 => by rw [sI_n _ _ _ (by omega), a4 c (by omega)]) hx.1
    · intro i hi; rw [sI_n _ _ _ (by omega), a4 _ (by omega)]; exact hx.2.1 i hi
    · rw [sI_s, pk_us]
    · exact CL_of (fun c h1 h2 => by rw [sI_n _ _ _ (by omega)]) a2
    · exact ⟨by rw [sI_n _ _ _ (by omega), a4 _ (by omega)]; exact hx.2.2.2.1.1, fun i hi => by rw [sI_n _ _ _ (by omega), a4 _ (by omega)]; exact hx.2.2.2.1.2 i hi⟩
    · intro s hs
      rw [sI_n _ _ _ (by omega), a4 _ (by omega), sI_2, a5]
      exact hx.2.2.2.2 s hs
    · refine ⟨?_, ?_, ?_, fun i hi => ?_, fun i hi => ?_, fun i hi => ?_, ?_, ?_, fun i hi => ?_⟩
      · rw [sI_s, pk_un (by decide), sI_n _ _ _ (by omega), sI_n _ _ _ (by omega), sI_n _ _ _ (by omega), hfr 0 (by omega)]; exact m1
      · rw [sI_s, pk_un (by decide), sI_n _ _ _ (by omega), sI_n _ _ _ (by omega), sI_n _ _ _ (by omega), hfr 0 (by omega)]; exact m2
      · rw [sI_s, pk_un (by decide), sI_n _ _ _ (by omega), sI_n _ _ _ (by omega), sI_n _ _ _ (by omega), hfr 0 (by omega)]; exact m3
      · rw [sI_n _ _ _ (by omega), sI_n _ _ _ (by omega), sI_n _ _ _ (by omega), sI_n _ _ _ (by omega), hfr _ (by omega)]; exact m4 i hi
      · rw [sI_n _ _ _ (by omega), sI_n _ _ _ (by omega), sI_n _ _ _ (by omega), sI_n _ _ _ (by omega), hfr _ (by omega)]; exact m5 i hi
      · rw [sI_n _ _ _ (by omega), sI_n _ _ _ (by omega), sI_n _ _ _ (by omega), sI_n _ _ _ (by omega), hfr _ (by omega)]; exact m6 i hi
      · rw [sI_n _ _ _ (by omega), sI_n _ _ _ (by omega), sI_n _ _ _ (by omega), sI_n _ _ _ (by omega), hfr _ (by omega)]; exact m7
      · rw [sI_n _ _ _ (by omega), sI_n _ _ _ (by omega), sI_n _ _ _ (by omega), sI_n _ _ _ (by omega), hfr _ (by omega)]; exact m8
      · rw [sI_n _ _ _ (by omega), sI_n _ _ _ (by omega), sI_n _ _ _ (by omega), sI_n _ _ _ (by omega), hfr _ (by omega)]; exact m9 i hi
    · have h8 := ho.1.1
      have hh := hall8 ho.1
      have key : ∀ j, j < 34 → (bq_sI (bq_sI (bq_sI (bq_sI y5 13 34 (y5.1 0 0)) 13 35 (y5.1 0 4)) 13 36 (y5.1 0 6)) 0 21 1).1 13 j = y5.1 13 j := fun j hj => by
        rw [sI_n _ _ _ (by omega), sI_s, pk_un (by omega), sI_s, pk_un (by omega), sI_s, pk_un (by omega)]
      refine ⟨?_, ?_, ?_, fun i hi => ?_, fun i hi => ?_, fun i hi => ?_, ?_, ?_, fun i hi => ?_⟩
      · rw [sI_n _ _ _ (by omega), sI_s, pk_un (by omega), sI_s, pk_un (by omega), sI_s, pk_us, hfr 0 (by omega)]; exact m1
      · rw [sI_n _ _ _ (by omega), sI_s, pk_un (by omega), sI_s, pk_us, hfr 0 (by omega)]; exact m2
      · rw [sI_n _ _ _ (by omega), sI_s, pk_us, hfr 0 (by omega)]; exact m3
      · rw [key i (by omega), f5 i (by omega), e5 i (by omega), d5 i (by omega), c5 i (by omega)]
        have := b4 i (by omega)
        rw [Nat.zero_add] at this
        rw [this]; exact m4 i hi
      · rw [key _ (by omega), f5 _ (by omega), e5 _ (by omega), d5 _ (by omega), c4 i (by omega), b3 2 (by omega)]; exact m5 i hi
      · rw [key _ (by omega), f5 _ (by omega), e5 _ (by omega), d4 i (by omega), c3 3 (by omega), b3 3 (by omega)]; exact m6 i hi
      · rw [key _ (by omega), f5 _ (by omega)]
        have := e4 0 (by omega)
        rw [Nat.add_zero] at this
        rw [this, d3 4 (by omega), c3 4 (by omega), b3 4 (by omega)]; exact m7
      · rw [key _ (by omega), f5 _ (by omega)]
        have := e4 1 (by omega)
        rw [this, d3 4 (by omega), c3 4 (by omega), b3 4 (by omega)]; exact m8
      · rw [key _ (by omega), f4 i (by omega), e3 5 (by omega), d3 5 (by omega), c3 5 (by omega), b3 5 (by omega)]; exact m9 i hi
    · exact ⟨by rw [sI_s, pk_un (by decide), sI_n _ _ _ (by omega), sI_n _ _ _ (by omega), sI_n _ _ _ (by omega), hfr 0 (by omega)]; exact hy.2.2.1.1, fun i hi => by rw [sI_n _ _ _ (by omega), sI_n _ _ _ (by omega), sI_n _ _ _ (by omega), sI_n _ _ _ (by omega), hfr 6 (by omega)]; exact hy.2.2.1.2 i hi⟩
    · intro s hs
      have g2 : (bq_sI (bq_sI (bq_sI (bq_sI y5 13 34 (y5.1 0 0)) 13 35 (y5.1 0 4)) 13 36 (y5.1 0 6)) 0 21 1).2 = y.2 := by
        show y5.2 = y.2
        rw [f2, e2, d2, c2, b2]
      rw [g2, sI_n _ _ _ (by omega), sI_n _ _ _ (by omega), sI_n _ _ _ (by omega), sI_n _ _ _ (by omega), hfr 14 (by omega), sI_n _ _ _ (by omega), sI_n _ _ _ (by omega), sI_n _ _ _ (by omega), sI_n _ _ _ (by omega), hfr 15 (by omega)]
      exact hy.2.2.2 s hs
theorem st_restore {n : Nat} (hn : 70 ≤ n) : bs_restore Rl n := by
  rintro x y ⟨A, ho, hx, hy⟩
  unfold fX9_restore fX10_restore
  cases hi : A.2.1 with
  | none =>
    have h1 : x.1 0 11 = 0 := by have := hx.2.2.1; rw [hi] at this; exact this
    have h2 : y.1 0 21 = 0 := by have := hy.2.1; rw [hi] at this; exact this
    exact ⟨-4, x, y, by rw [if_pos h1], by rw [if_pos h2], A, ho, hx, hy⟩
  | some L =>
    have h1 : x.1 0 11 = 1 ∧ CL x 8 L := by have := hx.2.2.1; rw [hi] at this; exact this
    have h2 : y.1 0 21 = 1 ∧ MI y L := by have := hy.2.1; rw [hi] at this; exact this
    have hoL : OKL L := ho.2.1 L hi
    obtain ⟨x2, a1, a2, a3, a4, a5⟩ := s_become (q0 := 1) (q1 := 8) (by omega) hn h1.2 hoL
    obtain ⟨y1, b1, b2, b3, b4⟩ := m_gives (y := y) (q := 1) (k := 8) (a := 0) (n := n) (by omega) (by omega) (by omega) (by omega)
    obtain ⟨y2, c1, c2, c3, c4⟩ := m_gives (y := y1) (q := 2) (k := 8) (a := 8) (n := n) (by omega) (by omega) (by omega) (by omega)
    obtain ⟨y3, d1, d2, d3, d4⟩ := m_gives (y := y2) (q := 3) (k := 8) (a := 16) (n := n) (by omega) (by omega) (by omega) (by omega)
    obtain ⟨y4, e1, e2, e3, e4⟩ := m_gives (y := y3) (q := 4) (k := 2) (a := 24) (n := n) (by omega) (by omega) (by omega) (by omega)
    obtain ⟨y5, f1, f2, f3, f4⟩ := m_gives (y := y4) (q := 5) (k := 8) (a := 26) (n := n) (by omega) (by omega) (by omega) (by omega)
    have hfr : ∀ c, c < 1 ∨ 5 < c → y5.1 c = y.1 c := fun c hc => by rw [f3 c (by omega), e3 c (by omega), d3 c (by omega), c3 c (by omega), b3 c (by omega)]
    obtain ⟨m1, m2, m3, m4, m5, m6, m7, m8, m9⟩ := h2.2
    have h8 := hoL.1
    have hh := hall8 hoL
    refine ⟨1, x2, bq_sI (bq_sI (bq_sI y5 0 0 (y5.1 13 34)) 0 4 (y5.1 13 35)) 0 6 (y5.1 13 36), ?_, ?_, ?_⟩
    · rw [h1.1, if_neg (by decide), a1]; rfl
    · rw [h2.1, if_neg (by decide)]
      have z0 : (0 : Int32) = nI 0 := rfl
      rw [z0, b1]
      simp only [Option.bind_some, un2]
      rw [show nI (0 + 8) = nI 8 from rfl, c1]
      simp only [Option.bind_some]
      rw [show nI (8 + 8) = nI 16 from rfl, d1]
      simp only [Option.bind_some]
      rw [show nI (16 + 8) = nI 24 from rfl, e1]
      simp only [Option.bind_some]
      rw [show nI (24 + 2) = nI 26 from rfl, f1]
      simp only [Option.bind_some]
      rfl
    · refine Rl_lib (L := L) ho hx hy hoL (fun c hc => a4 c (by omega)) a5 a2 a3 (fun k hk => ?_) (fun c hc => ?_) ?_ ?_
      · rw [sI_s, pk_un (by omega), sI_s, pk_un (by omega), sI_s, pk_un (by omega), hfr 0 (by omega)]
      · rw [sI_n _ _ _ (by omega), sI_n _ _ _ (by omega), sI_n _ _ _ (by omega), hfr c (by omega)]
      · show y5.2 = y.2
        rw [f2, e2, d2, c2, b2]
      · have fr : ∀ c, 1 ≤ c → c ≤ 5 → (bq_sI (bq_sI (bq_sI y5 0 0 (y5.1 13 34)) 0 4 (y5.1 13 35)) 0 6 (y5.1 13 36)).1 c = y5.1 c := fun c h1 h2 => by
          rw [sI_n _ _ _ (by omega), sI_n _ _ _ (by omega), sI_n _ _ _ (by omega)]
        refine ⟨?_, ?_, ?_, fun i hi => ?_, fun i hi => ?_, fun i hi => ?_, ?_, ?_, fun i hi => ?_⟩
        · rw [sI_s, pk_un (by omega), sI_s, pk_un (by omega), sI_s, pk_us, hfr 13 (by omega)]; exact m1
        · rw [sI_s, pk_un (by omega), sI_s, pk_us, hfr 13 (by omega)]; exact m2
        · rw [sI_s, pk_us, hfr 13 (by omega)]; exact m3
        · rw [fr 1 (by omega) (by omega), f3 1 (by omega), e3 1 (by omega), d3 1 (by omega), c3 1 (by omega), b4 i (by omega), Nat.zero_add]; exact m4 i hi
        · rw [fr 2 (by omega) (by omega), f3 2 (by omega), e3 2 (by omega), d3 2 (by omega), c4 i (by omega), b3 13 (by omega)]; exact m5 i hi
        · rw [fr 3 (by omega) (by omega), f3 3 (by omega), e3 3 (by omega), d4 i (by omega), c3 13 (by omega), b3 13 (by omega)]; exact m6 i hi
        · rw [fr 4 (by omega) (by omega), f3 4 (by omega), e4 0 (by omega), d3 13 (by omega), c3 13 (by omega), b3 13 (by omega)]; exact m7
        · rw [fr 4 (by omega) (by omega), f3 4 (by omega), e4 1 (by omega), d3 13 (by omega), c3 13 (by omega), b3 13 (by omega)]; exact m8
        · rw [fr 5 (by omega) (by omega), f4 i (by omega), e3 13 (by omega), d3 13 (by omega), c3 13 (by omega), b3 13 (by omega)]; exact m9 i hi
