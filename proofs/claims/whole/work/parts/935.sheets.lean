/-! ===== at, sheets ===== -/
theorem le16 {i : Nat} (h : i < 2 ^ 31) : ((16 : Int32) ≤ nI i) = (16 ≤ i) := wIle (a := 16) (by decide) h
theorem s_fillL {x : bq_S} {q n : Nat} (hn : 20 ≤ n) (v : Int64) : ∃ x1, fJ7_fill_d0a16 n q 16 v x = some x1 ∧ x1.1 = x.1 ∧ (∀ c, c ≠ q → x1.2 c = x.2 c) ∧ ∀ i, i < 16 → x1.2 q i = v := by
  have h16 : Int32.ofNat 16 = nI 16 := rfl
  obtain ⟨z, hz, h1, h2, h3⟩ := wh_for (b := fJ7_fill_d0a16_b6 n q 16 v (nI 16)) (fun i z => z.1 = nI i ∧ z.2.1 = x.1 ∧ (∀ c, c ≠ q → z.2.2 c = x.2 c) ∧ ∀ j, j < i → z.2.2 q j = v) (fun z => z.2.1 = x.1 ∧ (∀ c, c ≠ q → z.2.2 c = x.2 c) ∧ ∀ i, i < 16 → z.2.2 q i = v) 16 (by
    rintro i ⟨a, z⟩ hi ⟨h0, h1, h2, h3⟩
    dsimp only at h0 h1 h2 h3
    subst h0
    refine Or.inl ⟨(nI (i + 1), bq_sL z q i v), ?_, rfl, h1, fun c hc => ?_, fun j hj => ?_⟩
    · unfold fJ7_fill_d0a16_b6
      have n1 : ¬ 16 ≤ i := by omega
      simp only [un2, wIle (show 16 < 2 ^ 31 by decide) (show i < 2 ^ 31 by omega), n1, if_false, okN hi (by decide), if_true, bd, nI_1, cl0 (show i < 2 ^ 31 by omega)]
    · dsimp only; rw [sL_n _ _ _ hc]; exact h2 c hc
    · dsimp only; rw [sL_s]
      by_cases e : j = i
      · subst e; exact pk_uLs
      · rw [pk_uLn e]; exact h3 j (by omega)) (by
    rintro ⟨a, z⟩ ⟨h0, h1, h2, h3⟩
    dsimp only at h0 h1 h2 h3
    subst h0
    refine ⟨(nI 16, z), ?_, h1, h2, h3⟩
    unfold fJ7_fill_d0a16_b6
    simp only [un2, wIle (show 16 < 2 ^ 31 by decide) (show 16 < 2 ^ 31 by decide), Nat.le_refl, if_true]) n 0 ((0 : Int32), x) (by omega) ⟨rfl, rfl, fun _ _ => rfl, fun j hj => by omega⟩ (by omega)
  obtain ⟨a, z⟩ := z
  refine ⟨z, ?_, h1, h2, h3⟩
  unfold fJ7_fill_d0a16
  rw [h16]
  simp only [bd, hz, Option.bind_some, un2]
theorem s_begin {x : bq_S} {q n : Nat} (hn : 20 ≤ n) (p1 p2 : Int32) : ∃ x1, fX6_begin n q p1 p2 x = some x1 ∧ (∀ c, c ≠ q → x1.1 c = x.1 c) ∧ (∀ c, c ≠ q + 1 → x1.2 c = x.2 c) ∧ (∀ i, i < 16 → x1.2 (q + 1) i = 0) ∧ x1.1 q 1 = p1 ∧ x1.1 q 2 = p2 := by
  obtain ⟨x1, h1, h2, h3, h4⟩ := s_fillL (x := x) (q := q + 1) hn 0
  refine ⟨bq_sI (bq_sI x1 q 1 p1) q 2 p2, ?_, fun c hc => ?_, h3, h4, ?_, ?_⟩
  · unfold fX6_begin; simp only [h1, Option.bind_some, bd]
  · rw [sI_n _ _ _ hc, sI_n _ _ _ hc, h2]
  · rw [sI_s, pk_un (by decide), sI_s, pk_us]
  · rw [sI_s, pk_us]
def okH (sz : Nat) (i n : Int32) : Bool := decide (0 ≤ i.toInt ∧ 0 ≤ n.toInt ∧ i.toInt + n.toInt ≤ sz)
theorem lt0 (p : Int32) : (p < 0) = (p.toInt < 0) := propext Int32.lt_iff_toInt_lt
theorem ge0 (p : Int32) : (0 ≤ p) = (0 ≤ p.toInt) := propext Int32.le_iff_toInt_le
theorem i32r (p : Int32) : -2147483648 ≤ p.toInt ∧ p.toInt < 2147483648 := ⟨p.le_toInt, p.toInt_lt⟩
theorem bm32 {x : Int} (h1 : -2147483648 ≤ x) (h2 : x < 2147483648) : x.bmod (2 ^ 32) = x := by
  have e : ((2 ^ 32 : Nat) : Int) = 4294967296 := rfl
  rw [Int.bmod_def, e]; split <;> omega
theorem bm64 {x : Int} (h1 : -9223372036854775808 ≤ x) (h2 : x < 9223372036854775808) : x.bmod (2 ^ 64) = x := by
  have e : ((2 ^ 64 : Nat) : Int) = 18446744073709551616 := rfl
  rw [Int.bmod_def, e]; split <;> omega
theorem s_holds {x : bq_S} {q sz : Nat} (h : x.1 q 2 = nI sz) (hs : sz ≤ 16) (i n : Int32) : fX6_holds q i n x = some (b2i (okH sz i n), x) := by
  unfold fX6_holds okH
  have e : (nI sz - n < i) = ((nI sz - n).toInt < i.toInt) := propext Int32.lt_iff_toInt_lt
  simp only [h, lt0, e]
  by_cases a : i.toInt < 0
  · have : ¬ (0 ≤ i.toInt ∧ 0 ≤ n.toInt ∧ i.toInt + n.toInt ≤ sz) := by omega
    simp [a, this, b2i]
  · by_cases b : n.toInt < 0
    · have : ¬ (0 ≤ i.toInt ∧ 0 ≤ n.toInt ∧ i.toInt + n.toInt ≤ sz) := by omega
      simp [a, b, this, b2i]
    · have hr := i32r n
      have e2 : (nI sz - n).toInt = (sz : Int) - n.toInt := by
        rw [Int32.toInt_sub, nI_toInt (by omega)]
        exact bm32 (by omega) (by omega)
      simp only [a, b, if_false, e2]
      by_cases c : (sz : Int) - n.toInt < i.toInt
      · have : ¬ (0 ≤ i.toInt ∧ 0 ≤ n.toInt ∧ i.toInt + n.toInt ≤ sz) := by omega
        simp [c, this, b2i]
      · have : (0 ≤ i.toInt ∧ 0 ≤ n.toInt ∧ i.toInt + n.toInt ≤ sz) := by omega
        simp [c, this, b2i]
theorem s_isSheet (p : Int32) (x : bq_S) : fX9_isSheet p x = some (b2i (isB 4 p), x) := by
  unfold fX9_isSheet isB
  have e : ((4 : Int32) ≤ p) = (4 ≤ p.toInt) := propext Int32.le_iff_toInt_le
  simp only [lt0, e]
  by_cases a : p.toInt < 0
  · have : ¬ (0 ≤ p.toInt ∧ p.toInt < (4 : Nat)) := by omega
    simp [a, b2i]; omega
  · by_cases b : 4 ≤ p.toInt
    · simp [a, b, b2i]; try omega
    · simp [a, b, b2i]; try omega
theorem s_isLane (p : Int32) (x : bq_S) : fX9_isLane p x = some (b2i (isB 3 p), x) := by
  unfold fX9_isLane isB
  have e : ((3 : Int32) ≤ p) = (3 ≤ p.toInt) := propext Int32.le_iff_toInt_le
  simp only [lt0, e]
  by_cases a : p.toInt < 0
  · simp [a, b2i]; omega
  · by_cases b : 3 ≤ p.toInt
    · simp [a, b, b2i]; try omega
    · simp [a, b, b2i]; try omega
theorem m_isSheet (p : Int32) (y : bq_S) : fX10_isSheet p y = some (b2i (isB 4 p), y) := by
  unfold fX10_isSheet isB
  simp only [m_in, Option.bind_some, un2, b2i_g, Int32.toInt_toInt64]
  congr 3
  apply decide_eq_decide.mpr
  simp
  omega
theorem m_isLane (p : Int32) (y : bq_S) : fX10_isLane p y = some (b2i (isB 3 p), y) := by
  unfold fX10_isLane isB
  simp only [m_in, Option.bind_some, un2, b2i_g, Int32.toInt_toInt64]
  congr 3
  apply decide_eq_decide.mpr
  simp
  omega
/-- why items of a sheet can't be taken -/
def refu (h : Nat × Nat × (Nat → Int64)) (lane : Nat) (i n : Int32) : Int32 := if h.1 = 0 then -11 else if h.1 = lane + 1 then (if okH h.2.1 i n then 0 else -13) else -12
theorem ln_m1 {k : Nat} (h : k ≤ 3) : (nI k - 1 = (-1 : Int32)) = (k = 0) := by
  have : ∀ k : Fin 4, (nI k.val - 1 = (-1 : Int32)) = (k.val = 0) := by decide
  exact this ⟨k, by omega⟩
theorem ln_eq {k l : Nat} (h : k ≤ 3) (hl : l < 3) : (nI k - 1 = nI l) = (k = l + 1) := by
  have : ∀ k : Fin 4, ∀ l : Fin 3, (nI k.val - 1 = nI l.val) = (k.val = l.val + 1) := by decide
  exact this ⟨k, by omega⟩ ⟨l, hl⟩
theorem ln_ge {k : Nat} (h : k ≤ 3) : (0 ≤ nI k - 1) = (k ≠ 0) := by
  have : ∀ k : Fin 4, (0 ≤ nI k.val - 1) = (k.val ≠ 0) := by decide
  exact this ⟨k, by omega⟩
theorem ln_lt {k : Nat} (h : k ≤ 3) : (nI k - 1 < 0) = (k = 0) := by
  have : ∀ k : Fin 4, (nI k.val - 1 < 0) = (k.val = 0) := by decide
  exact this ⟨k, by omega⟩
theorem ln_e2 {k l : Nat} (h : k ≤ 3) (hl : l ≤ 3) : (nI k - 1 = nI l - 1) = (k = l) := by
  have : ∀ k : Fin 4, ∀ l : Fin 4, (nI k.val - 1 = nI l.val - 1) = (k.val = l.val) := by decide
  exact this ⟨k, by omega⟩ ⟨l, by omega⟩
theorem s_refusal {x : bq_S} {A : AS} (ho : OKS A) (hx : CR x A) (p1 p2 p3 p4 : Int32) : fX9_refusalOf p1 p2 p3 p4 x = some (if isB 4 p1 && isB 3 p2 then refu (A.2.2.2 p1.toNatClampNeg) p2.toNatClampNeg p3 p4 else -1, x) := by
  unfold fX9_refusalOf
  simp only [s_isSheet, Option.bind_some, un2, s_isLane, b2i_0]
  cases h1 : isB 4 p1 with
  | false => simp
  | true =>
    cases h2 : isB 3 p2 with
    | false => simp
    | true =>
      obtain ⟨s, hs, rfl⟩ := isB_of (by decide) h1
      obtain ⟨l, hl, rfl⟩ := isB_of (by decide) h2
      obtain ⟨c1, c2, c3⟩ := hx.2.2.2.2 s hs
      obtain ⟨o1, o2⟩ := ho.2.2.2 s hs
      simp only [Bool.true_eq_false, if_false, okN hs (by decide), if_true, cl0 (show s < 2 ^ 31 by omega), cl0 (show l < 2 ^ 31 by omega), c1, ln_m1 o1, ln_eq o1 hl, s_holds c2 o2, Option.bind_some, b2i_0, Bool.and_self, refu]
      by_cases e1 : (A.2.2.2 s).1 = 0
      · simp [e1]
      · by_cases e2 : (A.2.2.2 s).1 = l + 1
        · simp only [e1, e2, if_false, if_true]
          cases okH (A.2.2.2 s).2.1 p3 p4 <;> simp
        · simp [e1, e2]
theorem m_finds {y : bq_S} {A : AS} (ho : OKS A) (hy : MR y A) {s : Nat} (hs : s < 4) (l : Nat) (hl : l < 3) (i n : Int32) (hn : 0 ≤ n.toInt) : fX10_finds (nI s) (nI l) i n y = some (refu (A.2.2.2 s) l i n, y) := by
  unfold fX10_finds refu okH
  obtain ⟨d1, d2⟩ := hy.2.2.2 s hs
  obtain ⟨o1, o2⟩ := ho.2.2.2 s hs
  simp only [okN hs (by decide), if_true, cl0 (show s < 2 ^ 31 by omega), d1, ln_ge o1, ln_eq o1 hl, lt0]
  by_cases e1 : (A.2.2.2 s).1 = 0
  · simp [e1]
  · by_cases e2 : (A.2.2.2 s).1 = l + 1
    · have d2' := (d2 e1).1
      have hr := i32r i
      have hr2 := i32r n
      have e3 : (i.toInt64 + n.toInt64).toInt = i.toInt + n.toInt := by
        rw [Int64.toInt_add, Int32.toInt_toInt64, Int32.toInt_toInt64]
        exact bm64 (by omega) (by omega)
      have e4 : ((lg_cmp (i.toInt64 + n.toInt64) (nI (A.2.2.2 s).2.1).toInt64) ≤ 0) = (i.toInt + n.toInt ≤ (A.2.2.2 s).2.1) := by
        have h1 := lg_gt (i.toInt64 + n.toInt64) (nI (A.2.2.2 s).2.1).toInt64
        rw [e3, Int32.toInt_toInt64, nI_toInt (by omega)] at h1
        apply propext
        constructor
        · intro h
          by_cases h2 : ((A.2.2.2 s).2.1 : Int) < i.toInt + n.toInt
          · rw [← h1] at h2; exact absurd h2 (Int32.not_lt.mpr h)
          · omega
        · intro h
          by_cases h2 : 0 < lg_cmp (i.toInt64 + n.toInt64) (nI (A.2.2.2 s).2.1).toInt64
          · rw [h1] at h2; omega
          · exact Int32.not_lt.mp h2
      simp only [ne_eq, e1, not_false_eq_true, if_true, e2, d2', e4]
      by_cases a : i.toInt < 0
      · have : ¬ (0 ≤ i.toInt ∧ 0 ≤ n.toInt ∧ i.toInt + n.toInt ≤ (A.2.2.2 s).2.1) := by omega
        simp [a, this]
      · by_cases b : i.toInt + n.toInt ≤ (A.2.2.2 s).2.1
        · have : (0 ≤ i.toInt ∧ 0 ≤ n.toInt ∧ i.toInt + n.toInt ≤ (A.2.2.2 s).2.1) := by omega
          simp [a, b, this]
        · have : ¬ (0 ≤ i.toInt ∧ 0 ≤ n.toInt ∧ i.toInt + n.toInt ≤ (A.2.2.2 s).2.1) := by omega
          simp [a, b, this]
    · simp [e1, e2]
theorem Rl_sh {x y x1 y1 : bq_S} {A : AS} {h : Nat → Nat × Nat × (Nat → Int64)} (ho : OKS A) (hx : CR x A) (hy : MR y A) (hok : ∀ s, s < 4 → (h s).1 ≤ 3 ∧ (h s).2.1 ≤ 16) (cx : ∀ c, c < 34 → x1.1 c = x.1 c) (cS : CSh x1 h) (cy : ∀ c, c ≤ 13 → y1.1 c = y.1 c) (mS : MSh y1 h) : Rl x1 y1 := by
  obtain ⟨a1, a2, a3, a4, a5⟩ := hx
  obtain ⟨b1, b2, b3, b4⟩ := hy
  refine ⟨(A.1, A.2.1, A.2.2.1, h), ⟨ho.1, ho.2.1, ho.2.2.1, hok⟩, ⟨CL_of (fun c _ _ => cx c (by omega)) a1, fun i hi => by rw [cx _ (by omega)]; exact a2 i hi, ?_, ⟨by rw [cx 22 (by omega)]; exact a4.1, fun i hi => by rw [cx 23 (by omega)]; exact a4.2 i hi⟩, cS⟩, ⟨?_, ?_, ⟨by rw [cy 0 (by omega)]; exact b3.1, fun i hi => by rw [cy 6 (by omega)]; exact b3.2 i hi⟩, mS⟩⟩
  · show CI x1 A.2.1
    revert a3
    generalize A.2.1 = o
    intro c3
    cases o with
    | none => show x1.1 0 11 = 0; rw [cx 0 (by omega)]; exact c3
    | some L => exact ⟨by rw [cx 0 (by omega)]; exact c3.1, CL_of (fun c h1 h3 => cx c (by omega)) c3.2⟩
  · show ML y1 A.1
    unfold ML
    rw [cy 0 (by omega), cy 1 (by omega), cy 2 (by omega), cy 3 (by omega), cy 4 (by omega), cy 5 (by omega)]
    exact b1
  · show MIo y1 A.2.1
    revert b2
    generalize A.2.1 = o
    intro c3
    cases o with
    | none => show y1.1 0 21 = 0; rw [cy 0 (by omega)]; exact c3
    | some L =>
      refine ⟨by rw [cy 0 (by omega)]; exact c3.1, ?_⟩
      unfold MI; rw [cy 13 (by omega)]; exact c3.2
def uSh (h : Nat → Nat × Nat × (Nat → Int64)) (s : Nat) (v : Nat × Nat × (Nat → Int64)) : Nat → Nat × Nat × (Nat → Int64) := fun j => if j = s then v else h j
theorem st_at (n : Nat) : bs_at Rl n := by
  rintro x y ⟨A, ho, hx, hy⟩ p1
  unfold fX9_at fX10_at
  have h8 := hall8 ho.1
  rw [s_isPlace hx.1 ho.1, isBl_32]
  have e : fX10_in p1.toInt64 (0 : Int64) ((y.1 0 6) - (1 : Int32)).toInt64 y = some (b2i (isB (lhl A.1).length p1), y) := by
    simp only [m_in, hy.1.2.2.1, Int32.toInt_toInt64, nI_m1 (show (lhl A.1).length < 2 ^ 30 by omega), isB]
    congr 3
    apply decide_eq_decide.mpr
    simp
    omega
  rw [e]
  cases h : isB (lhl A.1).length p1 with
  | false => exact ⟨-1, x, y, by simp [un2, b2i], by simp [un2, b2i], A, ho, hx, hy⟩
  | true =>
    obtain ⟨a, ha, rfl⟩ := isB_of (by omega) h
    refine ⟨nI ((lhl A.1).getD a 0), x, y, ?_, ?_, A, ho, hx, hy⟩
    · have := hx.1.2.2.2.2.2.2.2.2 a ha
      simp only [Option.bind_some, un2, b2i_0, Bool.true_eq_false, if_false, okN (show a < 8 by omega) (by decide), if_true, cl0 (show a < 2 ^ 31 by omega)]
      rw [← this]
    · have := hy.1.2.2.2.2.2.2.2.2 a ha
      simp only [Option.bind_some, un2, b2i_0, Bool.true_eq_false, if_false, okN (show a < 8 by omega) (by decide), if_true, cl0 (show a < 2 ^ 31 by omega)]
      rw [← this]
theorem st_drop {n : Nat} (hn : 20 ≤ n) : bs_drop Rl n := by
  rintro x y ⟨A, ho, hx, hy⟩ p1
  unfold fX9_drop fX10_drop
  rw [s_isSheet, m_isSheet]
  cases h : isB 4 p1 with
  | false => exact ⟨-1, x, y, by simp [un2, b2i], by simp [un2, b2i], A, ho, hx, hy⟩
  | true =>
    obtain ⟨s, hs, rfl⟩ := isB_of (by decide) h
    obtain ⟨c1, c2, c3⟩ := hx.2.2.2.2 s hs
    obtain ⟨d1, d2⟩ := hy.2.2.2 s hs
    obtain ⟨o1, o2⟩ := ho.2.2.2 s hs
    simp only [Option.bind_some, un2, b2i_0, Bool.true_eq_false, if_false, okN hs (by decide), if_true, cl0 (show s < 2 ^ 31 by omega), c1, d1, ln_m1 o1, ln_ge o1]
    by_cases e : (A.2.2.2 s).1 = 0
    · exact ⟨-11, x, y, by simp [e], by simp [e], A, ho, hx, hy⟩
    · obtain ⟨x2, k1, k2, k3, k4, k5, k6⟩ := s_begin (x := x) (q := 34 + 2 * s) hn (-1) 0
      obtain ⟨d3, d4⟩ := d2 e
      refine ⟨nI (A.2.2.2 s).2.1, x2, bq_sI y 14 s (-1), ?_, ?_, ?_⟩
      · simp [e, bd, k1, c2]
      · simp only [ne_eq, e, not_false_eq_true, if_true, bd]
        rw [sI_n _ _ _ (by decide), d3]
      · refine Rl_sh (h := uSh A.2.2.2 s (0, 0, fun _ => 0)) ho hx hy (fun t ht => ?_) (fun c hc => k2 c (by omega)) (fun t ht => ?_) (fun c hc => sI_n _ _ _ (by omega)) (fun t ht => ?_)
        · unfold uSh; by_cases q : t = s
          · simp [q]
          · simp only [q, if_false]; exact ho.2.2.2 t ht
        · unfold uSh; by_cases q : t = s
          · subst q; simp only [if_true]
            exact ⟨k5, k6, fun i hi => by rw [show 35 + 2 * t = 34 + 2 * t + 1 by omega]; exact k4 i hi⟩
          · simp only [q, if_false]
            rw [k2 _ (by omega), k3 _ (by omega)]
            exact hx.2.2.2.2 t ht
        · unfold uSh; by_cases q : t = s
          · subst q; simp only [if_true]
            refine ⟨?_, fun z => absurd rfl z⟩
            rw [sI_s, pk_us]; rfl
          · simp only [q, if_false]
            rw [sI_s, pk_un q, sI_n _ _ _ (by decide)]
            exact hy.2.2.2 t ht
theorem ix16 (s i : Nat) : (16 : Int32) * nI s + nI i = nI (16 * s + i) := by
  show nI 16 * nI s + nI i = _
  rw [pk_mul, nI_add]
theorem m_zero {y : bq_S} {s n : Nat} (hs : s < 4) (hn : 20 ≤ n) (p : Int32) : ∃ y1, wh n (fX10_sheet_b46 n (nI s) p) ((0 : Int32), y) = some (nI 16, y1) ∧ y1.1 = y.1 ∧ (∀ i, i < 16 → y1.2 16 (16 * s + i) = 0) ∧ (∀ j, j < 16 * s ∨ 16 * s + 16 ≤ j → y1.2 16 j = y.2 16 j) := by
  obtain ⟨z, hz, y1, rfl, h1, h2, h3⟩ := wh_for (b := fX10_sheet_b46 n (nI s) p) (fun i z => ∃ y1, z = (nI i, y1) ∧ y1.1 = y.1 ∧ (∀ j, j < i → y1.2 16 (16 * s + j) = 0) ∧ (∀ j, j < 16 * s ∨ 16 * s + 16 ≤ j → y1.2 16 j = y.2 16 j)) (fun z => ∃ y1, z = (nI 16, y1) ∧ y1.1 = y.1 ∧ (∀ i, i < 16 → y1.2 16 (16 * s + i) = 0) ∧ (∀ j, j < 16 * s ∨ 16 * s + 16 ≤ j → y1.2 16 j = y.2 16 j)) 16 (by
    rintro i _ hi ⟨y1, rfl, h1, h2, h3⟩
    refine Or.inl ⟨(nI (i + 1), bq_sL y1 16 (16 * s + i) 0), ?_, _, rfl, h1, fun j hj => ?_, fun j hj => ?_⟩
    · unfold fX10_sheet_b46
      have n1 : ¬ 16 ≤ i := by omega
      simp only [un2, le16 (show i < 2 ^ 31 by omega), n1, if_false, ix16, okN (show 16 * s + i < 64 by omega) (by decide), if_true, bd, nI_1, cl0 (show 16 * s + i < 2 ^ 31 by omega)]
    · rw [sL_s]
      by_cases e : j = i
      · subst e; exact pk_uLs
      · rw [pk_uLn (by omega)]; exact h2 j (by omega)
    · rw [sL_s, pk_uLn (by omega)]; exact h3 j hj) (by
    rintro _ ⟨y1, rfl, h1, h2, h3⟩
    refine ⟨(nI 16, y1), ?_, y1, rfl, h1, h2, h3⟩
    unfold fX10_sheet_b46
    simp only [un2, le16 (show 16 < 2 ^ 31 by decide), Nat.le_refl, if_true]) n 0 ((0 : Int32), y) (by omega) ⟨y, rfl, rfl, fun j hj => by omega, fun j _ => rfl⟩ (by omega)
  exact ⟨y1, hz, h1, h2, h3⟩
theorem st_sheet {n : Nat} (hn : 20 ≤ n) : bs_sheet Rl n := by
  rintro x y ⟨A, ho, hx, hy⟩ p1 p2 p3
  unfold fX9_sheet fX10_sheet
  simp only [s_isSheet, m_isSheet, Option.bind_some, un2, s_isLane, m_isLane, b2i_0]
  cases h1 : isB 4 p1 with
  | false => exact ⟨-1, x, y, by simp, by simp, A, ho, hx, hy⟩
  | true =>
    cases h2 : isB 3 p2 with
    | false => exact ⟨-1, x, y, by simp, by simp, A, ho, hx, hy⟩
    | true =>
      obtain ⟨s, hs, rfl⟩ := isB_of (by decide) h1
      obtain ⟨l, hl, rfl⟩ := isB_of (by decide) h2
      have e16 : (p3 ≤ (16 : Int32)) = (p3.toInt ≤ 16) := propext Int32.le_iff_toInt_le
      simp only [Bool.true_eq_false, if_false, e16, ge0]
      by_cases a : p3.toInt ≤ 16
      · by_cases b : 0 ≤ p3.toInt
        · obtain ⟨k, hk, rfl⟩ := vp_in_of (x := p3) (n := 17) (vp_in_iff.mpr (by omega)) (by decide)
          obtain ⟨x2, k1, k2, k3, k4, k5, k6⟩ := s_begin (x := x) (q := 34 + 2 * s) hn (nI l) (nI k)
          obtain ⟨y2, j1, j2, j3, j4⟩ := m_zero (y := bq_sI (bq_sI y 14 s (nI l)) 15 s (nI k)) hs hn (nI k)
          refine ⟨nI k, x2, y2, ?_, ?_, ?_⟩
          · simp only [a, b, if_true, okN hs (by decide), cl0 (show s < 2 ^ 31 by omega), k1, Option.bind_some]
          · simp only [a, b, if_true, okN hs (by decide), cl0 (show s < 2 ^ 31 by omega), bd, j1, Option.bind_some]
          · refine Rl_sh (h := uSh A.2.2.2 s (l + 1, k, fun _ => 0)) ho hx hy (fun t ht => ?_) (fun c hc => k2 c (by omega)) (fun t ht => ?_) (fun c hc => by rw [j2, sI_n _ _ _ (by omega), sI_n _ _ _ (by omega)]) (fun t ht => ?_)
            · unfold uSh; by_cases q : t = s
              · simp [q]; omega
              · simp only [q, if_false]; exact ho.2.2.2 t ht
            · unfold uSh; by_cases q : t = s
              · subst q; simp only [if_true]
                exact ⟨by rw [k5, nI_pred], k6, fun i hi => by rw [show 35 + 2 * t = 34 + 2 * t + 1 by omega]; exact k4 i hi⟩
              · simp only [q, if_false]
                rw [k2 _ (by omega), k3 _ (by omega)]
                exact hx.2.2.2.2 t ht
            · unfold uSh; by_cases q : t = s
              · subst q; simp only [if_true]
                rw [j2]
                refine ⟨?_, fun _ => ⟨?_, j3⟩⟩
                · rw [sI_n _ _ _ (by decide), sI_s, pk_us, nI_pred]
                · rw [sI_s, pk_us]
              · simp only [q, if_false]
                obtain ⟨d1, d2⟩ := hy.2.2.2 t ht
                rw [j2]
                refine ⟨?_, fun z => ⟨?_, fun i hi => ?_⟩⟩
                · rw [sI_n _ _ _ (by decide), sI_s, pk_un q]; exact d1
                · rw [sI_s, pk_un q, sI_n _ _ _ (by decide)]; exact (d2 z).1
                · rw [j4 _ (by omega)]; exact (d2 z).2 i hi
        · exact ⟨-14, x, y, by simp [a, b], by simp [a, b], A, ho, hx, hy⟩
      · exact ⟨-1, x, y, by simp [a], by simp [a], A, ho, hx, hy⟩
theorem okH_of {sz : Nat} {i n : Int32} (hs : sz ≤ 16) (h : okH sz i n = true) : ∃ a k, a + k ≤ sz ∧ i = nI a ∧ n = nI k := by
  have h1 := of_decide_eq_true h
  obtain ⟨a, ha, rfl⟩ := vp_in_of (x := i) (n := 17) (vp_in_iff.mpr (by omega)) (by decide)
  obtain ⟨k, hk, rfl⟩ := vp_in_of (x := n) (n := 17) (vp_in_iff.mpr (by omega)) (by decide)
  rw [nI_toInt (by omega), nI_toInt (by omega)] at h1
  exact ⟨a, k, by omega, rfl, rfl⟩
def nar (l : Nat) (v : Int64) : Int64 := if l = 0 then v.toInt32.toInt8.toInt32.toInt64 else if l = 1 then v.toInt32.toInt64 else v
theorem st_item (n : Nat) : bs_item Rl n := by
  rintro x y ⟨A, ho, hx, hy⟩ p1 p2 p3 p4
  unfold fX9_item fX10_item
  rw [s_refusal ho hx]
  simp only [m_isSheet, m_isLane, Option.bind_some, un2, b2i_0]
  cases h1 : isB 4 p1 with
  | false => exact ⟨-1, x, y, by simp, by simp, A, ho, hx, hy⟩
  | true =>
    cases h2 : isB 3 p2 with
    | false => exact ⟨-1, x, y, by simp, by simp, A, ho, hx, hy⟩
    | true =>
      obtain ⟨s, hs, rfl⟩ := isB_of (by decide) h1
      obtain ⟨l, hl, rfl⟩ := isB_of (by decide) h2
      obtain ⟨c1, c2, c3⟩ := hx.2.2.2.2 s hs
      obtain ⟨d1, d2⟩ := hy.2.2.2 s hs
      obtain ⟨o1, o2⟩ := ho.2.2.2 s hs
      simp only [Bool.and_self, if_true, Bool.true_eq_false, if_false, cl0 (show s < 2 ^ 31 by omega), cl0 (show l < 2 ^ 31 by omega), m_finds ho hy hs l hl p3 1 (by decide), Option.bind_some, refu]
      by_cases e1 : (A.2.2.2 s).1 = 0
      · exact ⟨-11, x, y, by simp [e1], by simp [e1], A, ho, hx, hy⟩
      · by_cases e2 : (A.2.2.2 s).1 = l + 1
        · cases e3 : okH (A.2.2.2 s).2.1 p3 1 with
          | false => exact ⟨-13, x, y, by simp [e1, e2], by simp [e1, e2], A, ho, hx, hy⟩
          | true =>
            obtain ⟨a, k, hak, rfl, hk⟩ := okH_of o2 e3
            have hk1 : k = 1 := ((nI_eq (a := 1) (b := k) (by decide) (by omega)).mp hk).symm
            subst hk1
            have e4 : (nI l = (0 : Int32)) = (l = 0) := nI_zero (by omega)
            have e5 : (nI l = (1 : Int32)) = (l = 1) := wIeq (b := 1) (by omega) (by decide)
            obtain ⟨d3, d4⟩ := d2 e1
            refine ⟨1, bq_sL x (35 + 2 * s) a (nar l p4), bq_sL y 16 (16 * s + a) (nar l p4), ?_, ?_, ?_⟩
            · unfold fX6_write
              have c1' : x.1 (34 + 2 * s) 1 = nI l := by rw [c1, e2, nI_pred]
              have e6 : (34 + 2 * s) + 1 = 35 + 2 * s := by omega
              simp only [e1, e2, if_false, if_true, okN hs (by decide), bd, c1', e4, e5, okN (show a < 16 by omega) (by decide), cl0 (show a < 2 ^ 31 by omega), e6, nar]
              by_cases q0 : l = 0
              · simp [q0]
              · by_cases q1 : l = 1 <;> simp [q0, q1]
            · simp only [e1, e2, if_false, if_true, e4, e5, ix16, okN (show 16 * s + a < 64 by omega) (by decide), cl0 (show 16 * s + a < 2 ^ 31 by omega), bd, nar]
              by_cases q0 : l = 0
              · simp [q0]
              · by_cases q1 : l = 1 <;> simp [q0, q1]
            · refine Rl_sh (h := uSh A.2.2.2 s ((A.2.2.2 s).1, (A.2.2.2 s).2.1, vp_updL (A.2.2.2 s).2.2 a (nar l p4))) ho hx hy (fun t ht => ?_) (fun c hc => rfl) (fun t ht => ?_) (fun c hc => rfl) (fun t ht => ?_)
              · unfold uSh; by_cases q : t = s
                · simp only [q, if_true]; exact ho.2.2.2 s hs
                · simp only [q, if_false]; exact ho.2.2.2 t ht
              · unfold uSh; by_cases q : t = s
                · subst q; simp only [if_true]
                  refine ⟨c1, c2, fun i hi => ?_⟩
                  rw [sL_s]
                  by_cases e : i = a
                  · subst e; rw [pk_uLs, pk_uLs]
                  · rw [pk_uLn e, pk_uLn e]; exact c3 i hi
                · simp only [q, if_false]
                  rw [sL_1, sL_n _ _ _ (by omega)]
                  exact hx.2.2.2.2 t ht
              · unfold uSh; by_cases q : t = s
                · subst q; simp only [if_true]
                  refine ⟨d1, fun _ => ⟨d3, fun i hi => ?_⟩⟩
                  rw [sL_s]
                  by_cases e : i = a
                  · subst e; rw [pk_uLs, pk_uLs]
                  · rw [pk_uLn (by omega), pk_uLn e]; exact d4 i hi
                · simp only [q, if_false]
                  obtain ⟨f1, f2⟩ := hy.2.2.2 t ht
                  refine ⟨f1, fun z => ⟨(f2 z).1, fun i hi => ?_⟩⟩
                  rw [sL_s, pk_uLn (by omega)]; exact (f2 z).2 i hi
        · exact ⟨-12, x, y, by simp [e1, e2], by simp [e1, e2], A, ho, hx, hy⟩
