/-! ===== sums, how many bits, count ===== -/
def sumN (f : Nat → Nat) : Nat → Nat
  | 0 => 0
  | k + 1 => sumN f k + f k
theorem sumN_congr {f g : Nat → Nat} : ∀ {k : Nat}, (∀ i, i < k → f i = g i) → sumN f k = sumN g k
  | 0, _ => rfl
  | k + 1, h => by simp only [sumN, h k (Nat.lt_succ_self k), sumN_congr (fun i hi => h i (Nat.lt_succ_of_lt hi))]
theorem sumN_0 : ∀ k, sumN (fun _ => 0) k = 0
  | 0 => rfl
  | k + 1 => by simp only [sumN, sumN_0 k]
theorem sumN_le {f : Nat → Nat} {c : Nat} : ∀ {k : Nat}, (∀ i, i < k → f i ≤ c) → sumN f k ≤ k * c
  | 0, _ => by simp [sumN]
  | k + 1, h => by
    have := sumN_le (k := k) (fun i hi => h i (Nat.lt_succ_of_lt hi))
    have := h k (Nat.lt_succ_self k)
    simp only [sumN, Nat.succ_mul]; omega
theorem sumN_more {f : Nat → Nat} {m : Nat} (h : ∀ i, m ≤ i → f i = 0) : ∀ {k : Nat}, m ≤ k → sumN f k = sumN f m := by
  intro k
  induction k with
  | zero =>
    intro hk
    have e : m = 0 := Nat.le_zero.mp hk
    rw [e]
  | succ k ih =>
    intro hk
    by_cases e : m = k + 1
    · rw [e]
    · simp only [sumN, h k (by omega), Nat.add_zero]; exact ih (by omega)
theorem sumN_add {f g : Nat → Nat} : ∀ {k : Nat}, sumN (fun i => f i + g i) k = sumN f k + sumN g k
  | 0 => rfl
  | k + 1 => by simp only [sumN, sumN_add (k := k)]; omega
/-- of what is the same both ways, and not of one with itself, the half -/
theorem sumN_half {f : Nat → Nat → Nat} (hs : ∀ i j, f i j = f j i) (h0 : ∀ i, f i i = 0) : ∀ n, sumN (fun i => sumN (f i) n) n = 2 * sumN (fun a => sumN (f a) a) n
  | 0 => rfl
  | n + 1 => by
    have e : sumN (fun i => sumN (f i) n + f i n) n = sumN (fun i => sumN (f i) n) n + sumN (fun i => f i n) n := sumN_add
    have e2 : sumN (fun i => f i n) n = sumN (f n) n := sumN_congr (fun i _ => hs i n)
    simp only [sumN]
    rw [e, sumN_half hs h0 n, e2]
    simp only [h0]
    omega
def pc (s : Nat) : Nat := sumN (fun i => (s.testBit i).toNat) 8
theorem pc_le (s : Nat) : pc s ≤ 8 := by
  have := sumN_le (f := fun i => (s.testBit i).toNat) (c := 1) (k := 8) (fun i _ => by cases s.testBit i <;> decide)
  simpa [pc] using this
theorem s_bitCount {s : Nat} (hs : s < 256) (x : bq_S) : fJ6_bitCount (nI s) x = some (nI (pc s), x) := by
  have h : ∀ s : Fin 256, (fJ6_bitCount (nI s.val) bq_z0).map Prod.fst = some (nI (pc s.val)) := by decide +kernel
  have h1 := h ⟨s, hs⟩
  obtain ⟨v, hv⟩ : ∃ v, ∀ x : bq_S, fJ6_bitCount (nI s) x = some (v, x) := ⟨_, fun x => rfl⟩
  simp only at h1
  rw [hv] at h1
  have h2 : v = nI (pc s) := Option.some.inj h1
  rw [hv, h2]
theorem m_size {s n : Nat} (hs : s < 256) (hn : 20 ≤ n) (y : bq_S) : fX10_size n (nI s) y = some (nI (pc s), y) := by
  have k1 : ∀ s : Fin 256, s.val ≠ 0 → pc (s.val &&& (s.val - 1)) + 1 = pc s.val := by decide +kernel
  have key : ∀ p f c s, s < 256 → pc s = p → p < f → wh f (fX10_size_b4 n) (nI c, nI s, y) = some (nI (c + p), nI 0, y) := by
    intro p
    induction p with
    | zero =>
      intro f c s hs hp hf
      obtain ⟨f, rfl⟩ : ∃ g, f = g + 1 := ⟨f - 1, by omega⟩
      have : s = 0 := by
        by_cases e : s = 0
        · exact e
        · have := k1 ⟨s, hs⟩ e; simp only at this; omega
      subst this
      apply wh_e
      unfold fX10_size_b4
      have : (nI 0 = (0 : Int32)) := rfl
      simp [un3, this]
    | succ p ih =>
      intro f c s hs hp hf
      obtain ⟨f, rfl⟩ : ∃ g, f = g + 1 := ⟨f - 1, by omega⟩
      have p0 : pc 0 = 0 := by decide
      have e : s ≠ 0 := fun e => by rw [e, p0] at hp; omega
      have h1 := k1 ⟨s, hs⟩ e
      simp only at h1
      have hlt : s &&& (s - 1) < 256 := Nat.lt_of_le_of_lt Nat.and_le_left hs
      have hb : fX10_size_b4 n (nI c, nI s, y) = some (.inl (nI (c + 1), nI (s &&& (s - 1)), y)) := by
        unfold fX10_size_b4
        have e0 : (nI s = (0 : Int32)) = (s = 0) := nI_zero (by omega)
        simp only [un3, e0, e, if_false, bd, nI_1, nI_m (show 0 < s by omega), wI_and]
      rw [wh_c hb, ih f (c + 1) _ hlt (by omega) (by omega)]
      congr 3; omega
  unfold fX10_size
  have h0 : wh n (fX10_size_b4 n) ((0 : Int32), nI s, y) = some (nI (0 + pc s), nI 0, y) := key (pc s) n 0 s hs rfl (by have := pc_le s; omega)
  rw [h0]
  simp [un3]
theorem s_bitsOf {x : bq_S} {q n : Nat} {f : Nat → Nat} (h : ∀ i, i < 8 → x.1 q i = nI (f i) ∧ f i < 256) (hn : 20 ≤ n) : fX4_bitsOf n 1 q 8 x = some (nI (sumN (fun i => pc (f i)) 8), x) := by
  obtain ⟨z, hz, rfl⟩ := wh_for (b := fX4_bitsOf_b4 n q 8) (fun i v => v = (nI (sumN (fun i => pc (f i)) i), nI i, x)) (fun z => z = (nI (sumN (fun i => pc (f i)) 8), nI 8, x)) 8 (by
    rintro i _ hi rfl
    refine Or.inl ⟨_, ?_, rfl⟩
    unfold fX4_bitsOf_b4
    have h1 : ¬ 8 ≤ i := by omega
    simp only [un3, le8 (show i < 2 ^ 31 by omega), h1, if_false, okN hi (by decide), if_true, cl0 (show i < 2 ^ 31 by omega), (h i hi).1, s_bitCount (h i hi).2, Option.bind_some, un2, bd, nI_1, nI_add, sumN]) (by
    rintro _ rfl
    refine ⟨_, ?_, rfl⟩
    unfold fX4_bitsOf_b4
    simp only [un3, le8 (show 8 < 2 ^ 31 by omega), Nat.le_refl, if_true]) n 0 _ (by omega) rfl (by omega)
  unfold fX4_bitsOf
  have hz' : wh n (fX4_bitsOf_b4 n q 8) ((0 : Int32), (0 : Int32), x) = _ := hz
  rw [hz']; rfl
/-- the set of the books of a row from place i on, k of them -/
def mset (r : List Nat) (i : Nat) : Nat → Nat
  | 0 => 0
  | k + 1 => mset r i k ||| 2 ^ gt r (i + k)
theorem mset_bit (r : List Nat) (i b : Nat) : ∀ k, (mset r i k).testBit b = (List.range k).any (fun j => decide (gt r (i + j) = b))
  | 0 => by simp [mset]
  | k + 1 => by
    rw [mset, Nat.testBit_or, mset_bit r i b k, Nat.testBit_two_pow, List.range_succ, List.any_append]
    simp
theorem mset_lt {r : List Nat} {m i : Nat} : ∀ {k : Nat}, (∀ b ∈ r, b < m) → i + k ≤ r.length → mset r i k < 2 ^ m
  | 0, _, _ => by simp [mset, Nat.two_pow_pos]
  | k + 1, h, hk => by
    have h1 := mset_lt (k := k) (i := i) h (by omega)
    exact Nat.or_lt_two_pow h1 (Nat.pow_lt_pow_right (by decide) (h _ (gt_mem (by omega))))
theorem s_setAt {x : bq_S} {q n : Nat} {r : List Nat} (hr : r.length ≤ 8) (h8 : ∀ b ∈ r, b < 8) (hR : CRow x (q + 5) r) (hn : 20 ≤ n) {i j : Nat} (hij : i ≤ j) (hj : j ≤ r.length) : fX4_setAt n q (nI i) (nI j) x = some (nI (mset r i (j - i)), x) := by
  have hb : ∀ i, i < r.length → gt r i < 8 := fun i hi => h8 _ (gt_mem hi)
  obtain ⟨z, hz, rfl⟩ := wh_for (b := fX4_setAt_b5 n q (nI j)) (fun k v => v = (nI (mset r i k), nI (i + k), x)) (fun z => z = (nI (mset r i (j - i)), nI j, x)) (j - i) (by
    rintro k _ hk rfl
    refine Or.inl ⟨_, ?_, rfl⟩
    unfold fX4_setAt_b5
    have h1 : ¬ j ≤ i + k := by omega
    have hbk := hb (i + k) (by omega)
    simp only [un3, wIle (show j < 2 ^ 31 by omega) (show i + k < 2 ^ 31 by omega), h1, if_false, okN (show i + k < 8 by omega) (by decide), if_true, cl0 (show i + k < 2 ^ 31 by omega), hR (i + k) (by omega), s_bit _ x (show gt r (i + k) < 31 by omega), Option.bind_some, un2, bd, nI_1, wI_or, mset, Nat.add_assoc]) (by
    rintro _ rfl
    refine ⟨_, ?_, rfl⟩
    unfold fX4_setAt_b5
    have : i + (j - i) = j := by omega
    simp only [un3, this, Int32.le_refl, if_true]) n 0 ((0 : Int32), nI i, x) (by omega) rfl (by omega)
  unfold fX4_setAt
  rw [hz]; rfl
/-- the set of a row -/
def setOf (r : List Nat) : Nat := mset r 0 r.length
theorem setOf_bit (r : List Nat) (b : Nat) : (setOf r).testBit b = decide (b ∈ r) := by
  unfold setOf
  rw [mset_bit]
  apply Bool.eq_iff_iff.mpr
  rw [List.any_eq_true, decide_eq_true_eq]
  constructor
  · rintro ⟨j, hj, e⟩
    rw [decide_eq_true_eq, Nat.zero_add] at e
    rw [← e]; exact gt_mem (List.mem_range.mp hj)
  · intro hb
    obtain ⟨j, hj, e⟩ := List.mem_iff_getElem.mp hb
    refine ⟨j, List.mem_range.mpr hj, ?_⟩
    rw [decide_eq_true_eq, Nat.zero_add, gt_get hj, e]
theorem setOf_lt {r : List Nat} {m : Nat} (h : ∀ b ∈ r, b < m) : setOf r < 2 ^ m := mset_lt h (by omega)
theorem s_hallSet {x : bq_S} {q n : Nat} {L : AL} (hc : CL x q L) (ho : OKL L) (hn : 20 ≤ n) : fX4_hallSet n q x = some (nI (setOf (lhl L)), x) := by
  unfold fX4_hallSet
  have h8 := hall8 ho
  have hz : (0 : Int32) = nI 0 := rfl
  rw [hc.2.2.1, hz, s_setAt h8 (fun b hb => by have := ho.2.2.2.2.2.2.2.2.2 b hb; have := ho.1; omega) hc.2.2.2.2.2.2.2.2 hn (Nat.zero_le _) (Nat.le_refl _)]
  rfl
theorem m_standingSet {y : bq_S} {n : Nat} {L : AL} (hc : ML y L) (ho : OKL L) (hn : 20 ≤ n) : fX10_standingSet n y = some (nI (setOf (lhl L)), y) := by
  have h8 := hall8 ho
  have hb : ∀ i, i < (lhl L).length → gt (lhl L) i < 8 := fun i hi => by have := ho.2.2.2.2.2.2.2.2.2 _ (gt_mem hi); have := ho.1; omega
  obtain ⟨z, hz, rfl⟩ := wh_for (b := fX10_standingSet_b4 n) (fun k v => v = (nI (mset (lhl L) 0 k), nI k, y)) (fun z => z = (nI (setOf (lhl L)), nI (lhl L).length, y)) (lhl L).length (by
    rintro k _ hk rfl
    refine Or.inl ⟨_, ?_, rfl⟩
    unfold fX10_standingSet_b4
    have h1 : ¬ (lhl L).length ≤ k := by omega
    have hbk := hb k hk
    have hh := hc.2.2.2.2.2.2.2.2 k hk
    have hh' : y.1 5 k = nI (gt (lhl L) k) := hh
    simp only [un3, hc.2.2.1, wIle (show (lhl L).length < 2 ^ 31 by omega) (show k < 2 ^ 31 by omega), h1, if_false, okN (show k < 8 by omega) (by decide), if_true, cl0 (show k < 2 ^ 31 by omega), hh', wI_sh (show gt (lhl L) k < 31 by omega), bd, nI_1, wI_or, mset, Nat.zero_add]) (by
    rintro _ rfl
    refine ⟨_, ?_, rfl⟩
    unfold fX10_standingSet_b4
    simp only [un3, hc.2.2.1, Int32.le_refl, if_true, setOf]) n 0 ((0 : Int32), (0 : Int32), y) (by omega) rfl (by omega)
  unfold fX10_standingSet
  rw [hz]; rfl
/-- the thickness of a set -/
def thS (L : AL) (s : Nat) : Nat := sumN (fun i => if s.testBit i then lth L i else 0) 8
theorem s_thicknessOf {x : bq_S} {q n s : Nat} {L : AL} (hc : CL x q L) (ho : OKL L) (hs : s < 2 ^ lm L) (hn : 20 ≤ n) : fX4_thicknessOf n q (nI s) x = some (nI (thS L s), x) := by
  have hm := ho.1
  obtain ⟨z, hz, rfl⟩ := wh_for (b := fX4_thicknessOf_b4 n q (nI s)) (fun i v => v = (nI (sumN (fun i => if s.testBit i then lth L i else 0) i), nI i, x)) (fun z => z = (nI (thS L s), nI 8, x)) 8 (by
    rintro i _ hi rfl
    refine Or.inl ⟨_, ?_, rfl⟩
    unfold fX4_thicknessOf_b4
    have h1 : ¬ 8 ≤ i := by omega
    simp only [un3, le8 (show i < 2 ^ 31 by omega), h1, if_false, s_has s i x (p8_31 hm hs) (by omega), Option.bind_some, un2, b2i_0, okN hi (by decide), if_true, cl0 (show i < 2 ^ 31 by omega), bd, nI_1, sumN]
    cases hb : s.testBit i with
    | false => simp
    | true =>
      have hi2 : i < lm L := by
        rcases Nat.lt_or_ge i (lm L) with h | h
        · exact h
        · rw [Nat.testBit_lt_two_pow (Nat.lt_of_lt_of_le hs (Nat.pow_le_pow_right (by decide) h))] at hb; cases hb
      simp [hc.2.2.2.1 i hi2, nI_add]) (by
    rintro _ rfl
    refine ⟨_, ?_, rfl⟩
    unfold fX4_thicknessOf_b4
    simp only [un3, le8 (show 8 < 2 ^ 31 by omega), Nat.le_refl, if_true, thS]) n 0 ((0 : Int32), (0 : Int32), x) (by omega) rfl (by omega)
  unfold fX4_thicknessOf
  rw [hz]; rfl
theorem mset_s (r : List Nat) (i k : Nat) : mset r i (k + 1) = mset r i k ||| 2 ^ gt r (i + k) := rfl
/-- a sum over the set of a row is the sum along it -/
theorem sum_set (f : Nat → Nat) {r : List Nat} (hn : r.Nodup) (h8 : ∀ b ∈ r, b < 8) : ∀ k, k ≤ r.length → sumN (fun i => if (mset r 0 k).testBit i then f i else 0) 8 = sumN (fun j => f (gt r j)) k := by
  intro k
  induction k with
  | zero =>
    intro _
    have : ∀ i, i < 8 → (if (mset r 0 0).testBit i then f i else 0) = (fun _ : Nat => 0) i := fun i _ => by simp [mset]
    rw [sumN_congr this]
    rfl
  | succ k ih =>
    intro hk
    have hb : gt r k < 8 := h8 _ (gt_mem (by omega))
    have hnot : (mset r 0 k).testBit (gt r k) = false := by
      rw [mset_bit, List.any_eq_false]
      intro j hj
      have hj := List.mem_range.mp hj
      rw [decide_eq_true_eq, Nat.zero_add]
      exact gt_ne hn (by omega) (by omega) (by omega)
    have e : ∀ i, i < 8 → (if (mset r 0 (k + 1)).testBit i then f i else 0) = (if (mset r 0 k).testBit i then f i else 0) + (if i = gt r k then f (gt r k) else 0) := by
      intro i _
      rw [mset_s, Nat.testBit_or, Nat.testBit_two_pow, Nat.zero_add]
      by_cases h : i = gt r k
      · subst h; simp [hnot]
      · have : ¬ gt r k = i := fun q => h q.symm
        simp [h, this]
    rw [sumN_congr e, sumN_add, ih (by omega)]
    have one : ∀ n v b, b < n → sumN (fun i => if i = b then v else 0) n = v := by
      intro n v b
      induction n with
      | zero => intro h; omega
      | succ n ih2 =>
        intro h
        simp only [sumN]
        by_cases q : n = b
        · subst q
          have : sumN (fun i => if i = n then v else 0) n = sumN (fun _ => 0) n := sumN_congr (fun i hi => by simp; omega)
          have z : ∀ n, sumN (fun _ => 0) n = 0 := by
            intro n
            induction n with
            | zero => rfl
            | succ n ih => simp [sumN, ih]
          rw [this, z]; simp
        · rw [ih2 (by omega)]; simp [q]
    rw [one 8 _ _ hb]
    rfl
theorem bits_sum (s : Nat) : pc s = sumN (fun j => (s.testBit j).toNat) 8 := rfl
theorem m_count_in {y : bq_S} {L : AL} (hc : ML y L) (ho : OKL L) {n : Nat} (hn : 20 ≤ n) (u1 u2 u3 : Int32) {a h p : Nat} (ha : a < lm L) : wh n (fX10_count_b38 n u1 u2 u3 (nI a)) (nI h, nI p, (0 : Int32), y) = some (nI (h + sumN (fun b => ((lha L a).testBit b).toNat) a), nI (p + sumN (fun b => (tch L a b).toNat) a), nI a, y) := by
  have h8 := ho.1
  obtain ⟨z, hz, rfl⟩ := wh_for (b := fX10_count_b38 n u1 u2 u3 (nI a)) (fun i v => v = (nI (h + sumN (fun b => ((lha L a).testBit b).toNat) i), nI (p + sumN (fun b => (tch L a b).toNat) i), nI i, y)) (fun z => z = (nI (h + sumN (fun b => ((lha L a).testBit b).toNat) a), nI (p + sumN (fun b => (tch L a b).toNat) a), nI a, y)) a (by
    rintro i _ hi rfl
    refine Or.inl ⟨_, ?_, rfl⟩
    unfold fX10_count_b38
    have h1 : ¬ a ≤ i := by omega
    have hb : b2i ((lha L a).testBit i) = nI ((lha L a).testBit i).toNat := by cases (lha L a).testBit i <;> rfl
    simp only [un4, wIle (show a < 2 ^ 31 by omega) (show i < 2 ^ 31 by omega), h1, if_false, okN (show a < 8 by omega) (by decide), if_true, cl0 (show a < 2 ^ 31 by omega), hc.2.2.2.2.2.1 a ha, wI_bit (ha31 ho a) (show i < 31 by omega), hb, nI_add, bd, m_mayTouch hc ho a i ha (by omega), Option.bind_some, un2, b2i_0, nI_1, sumN, tch_may ha (show i < lm L by omega) (show a ≠ i by omega), Nat.add_assoc]
    cases mayT L a i <;> simp) (by
    rintro _ rfl
    refine ⟨_, ?_, rfl⟩
    unfold fX10_count_b38
    simp only [un4, Int32.le_refl, if_true]) n 0 _ (by omega) rfl (by omega)
  exact hz
theorem m_count_out {y : bq_S} {L : AL} (hc : ML y L) (ho : OKL L) {n : Nat} (hn : 20 ≤ n) (u1 u2 : Int32) : wh n (fX10_count_b13 n u1 u2) ((0 : Int32), (0 : Int32), (0 : Int32), (0 : Int32), y) = some (nI (sumN (fun a => pc (lqu L a)) (lm L)), nI (sumN (fun a => sumN (fun b => ((lha L a).testBit b).toNat) a) (lm L)), nI (sumN (fun a => sumN (fun b => (tch L a b).toNat) a) (lm L)), nI (lm L), y) := by
  have h8 := ho.1
  obtain ⟨z, hz, rfl⟩ := wh_for (b := fX10_count_b13 n u1 u2) (fun i v => v = (nI (sumN (fun a => pc (lqu L a)) i), nI (sumN (fun a => sumN (fun b => ((lha L a).testBit b).toNat) a) i), nI (sumN (fun a => sumN (fun b => (tch L a b).toNat) a) i), nI i, y)) (fun z => z = (nI (sumN (fun a => pc (lqu L a)) (lm L)), nI (sumN (fun a => sumN (fun b => ((lha L a).testBit b).toNat) a) (lm L)), nI (sumN (fun a => sumN (fun b => (tch L a b).toNat) a) (lm L)), nI (lm L), y)) (lm L) (by
    rintro i _ hi rfl
    refine Or.inl ⟨_, ?_, rfl⟩
    unfold fX10_count_b13
    have h1 : ¬ lm L ≤ i := by omega
    have hq : lqu L i < 256 := p8_256 h8 (ho.2.2.2.1 i).1
    simp only [un5, hc.1, wIle (show lm L < 2 ^ 31 by omega) (show i < 2 ^ 31 by omega), h1, if_false, okN (show i < 8 by omega) (by decide), if_true, cl0 (show i < 2 ^ 31 by omega), hc.2.2.2.2.1 i hi, m_size hq hn, Option.bind_some, un2, bd, nI_add, m_count_in hc ho hn _ _ _ hi, un4, nI_1, sumN]) (by
    rintro _ rfl
    refine ⟨_, ?_, rfl⟩
    unfold fX10_count_b13
    simp only [un5, hc.1, Int32.le_refl, if_true]) n 0 _ (by omega) rfl (by omega)
  exact hz
theorem m_count_th {y : bq_S} {L : AL} (hc : ML y L) (ho : OKL L) {n : Nat} (hn : 20 ≤ n) (u1 u2 u3 u4 : Int32) : wh n (fX10_count_b96 n u1 u2 u3 u4) ((0 : Int32), (0 : Int32), y) = some (nI (sumN (fun j => lth L (gt (lhl L) j)) (lhl L).length), nI (lhl L).length, y) := by
  have h8 := hall8 ho
  have hb : ∀ i, i < (lhl L).length → gt (lhl L) i < lm L := fun i hi => ho.2.2.2.2.2.2.2.2.2 _ (gt_mem hi)
  have hm := ho.1
  obtain ⟨z, hz, rfl⟩ := wh_for (b := fX10_count_b96 n u1 u2 u3 u4) (fun k v => v = (nI (sumN (fun j => lth L (gt (lhl L) j)) k), nI k, y)) (fun z => z = (nI (sumN (fun j => lth L (gt (lhl L) j)) (lhl L).length), nI (lhl L).length, y)) (lhl L).length (by
    rintro k _ hk rfl
    refine Or.inl ⟨_, ?_, rfl⟩
    unfold fX10_count_b96
    have h1 : ¬ (lhl L).length ≤ k := by omega
    have hbk := hb k hk
    have hh' : y.1 5 k = nI (gt (lhl L) k) := hc.2.2.2.2.2.2.2.2 k hk
    simp only [un3, hc.2.2.1, wIle (show (lhl L).length < 2 ^ 31 by omega) (show k < 2 ^ 31 by omega), h1, if_false, okN (show k < 8 by omega) (by decide), if_true, cl0 (show k < 2 ^ 31 by omega), hh', okN (show gt (lhl L) k < 8 by omega) (by decide), cl0 (show gt (lhl L) k < 2 ^ 31 by omega), hc.2.2.2.1 _ hbk, bd, nI_1, nI_add, sumN]) (by
    rintro _ rfl
    refine ⟨_, ?_, rfl⟩
    unfold fX10_count_b96
    simp only [un3, hc.2.2.1, Int32.le_refl, if_true]) n 0 ((0 : Int32), (0 : Int32), y) (by omega) rfl (by omega)
  exact hz
theorem nI_half {a : Nat} (h : a < 2 ^ 30) : nI (2 * a) / (2 : Int32) = nI a := by
  have := pk_div (a := 2 * a) (d := 2) (by omega) (by decide) (by decide)
  rw [show (2 * a) / 2 = a by omega] at this
  exact this
theorem st_count {n : Nat} (hn : 20 ≤ n) : bs_count Rl n := by
  rintro x y ⟨A, ho, hx, hy⟩ p1
  have h8 := ho.1.1
  have ho1 := ho.1
  have q2 : sumN (fun i => pc (lqu A.1 i)) 8 = sumN (fun a => pc (lqu A.1 a)) (lm A.1) := sumN_more (fun i hi => by rw [(ho1.2.2.2.1 i).2.2 hi]; decide) h8
  have q3 : sumN (fun i => pc (lha A.1 i)) 8 = 2 * sumN (fun a => sumN (fun b => ((lha A.1 a).testBit b).toNat) a) (lm A.1) := by
    have := sumN_half (f := fun i j => ((lha A.1 i).testBit j).toNat) (fun i j => by rw [ho1.2.2.2.2.2.1 i j]) (fun i => by rw [(ho1.2.2.2.2.1 i).2.1]; rfl) 8
    have e : sumN (fun i => pc (lha A.1 i)) 8 = sumN (fun i => sumN (fun j => ((lha A.1 i).testBit j).toNat) 8) 8 := rfl
    rw [e, this]
    congr 1
    refine sumN_more (fun i hi => ?_) h8
    rw [(ho1.2.2.2.2.1 i).2.2 hi]
    exact (sumN_congr (fun j _ => by rw [Nat.zero_testBit]; rfl)).trans (sumN_0 i)
  have q4 : sumN (fun i => pc (nearS A.1 i)) 8 = 2 * sumN (fun a => sumN (fun b => (tch A.1 a b).toNat) a) (lm A.1) := by
    have := sumN_half (f := fun i j => (tch A.1 i j).toNat) (fun i j => by rw [tch_sym ho1 i j]) (fun i => by simp [tch]) 8
    have e : sumN (fun i => pc (nearS A.1 i)) 8 = sumN (fun i => sumN (fun j => (tch A.1 i j).toNat) 8) 8 := by
      refine sumN_congr (fun i hi => sumN_congr (fun j hj => ?_))
      rw [nearS, mks_bit]; simp [hj]
    rw [e, this]
    congr 1
    refine sumN_more (fun i hi => ?_) h8
    have : ∀ k, sumN (fun b => (tch A.1 i b).toNat) k = 0 := by
      intro k
      induction k with
      | zero => rfl
      | succ k ih =>
        have : tch A.1 i k = false := by simp [tch]; omega
        simp [sumN, ih, this]
    exact this i
  have b3 : sumN (fun a => sumN (fun b => ((lha A.1 a).testBit b).toNat) a) (lm A.1) < 2 ^ 30 := by
    have h1 : ∀ a, a < lm A.1 → sumN (fun b => ((lha A.1 a).testBit b).toNat) a ≤ 8 := fun a ha => by
      have := sumN_le (f := fun b => ((lha A.1 a).testBit b).toNat) (c := 1) (k := a) (fun i _ => by cases (lha A.1 a).testBit i <;> decide)
      omega
    have := sumN_le h1
    omega
  have b4 : sumN (fun a => sumN (fun b => (tch A.1 a b).toNat) a) (lm A.1) < 2 ^ 30 := by
    have h1 : ∀ a, a < lm A.1 → sumN (fun b => (tch A.1 a b).toNat) a ≤ 8 := fun a ha => by
      have := sumN_le (f := fun b => (tch A.1 a b).toNat) (c := 1) (k := a) (fun i _ => by cases tch A.1 a i <;> decide)
      omega
    have := sumN_le h1
    omega
  have c5 : thS A.1 (setOf (lhl A.1)) = sumN (fun j => lth A.1 (gt (lhl A.1) j)) (lhl A.1).length :=
    sum_set (lth A.1) ho1.2.2.2.2.2.2.2.2.1 (fun b hb => by have := ho1.2.2.2.2.2.2.2.2.2 b hb; omega) _ (Nat.le_refl _)
  have s2 := s_bitsOf (x := x) (q := 3) (n := n) (f := lqu A.1) (fun i hi => ⟨hx.1.2.2.2.2.1 i hi, p8_256 h8 (ho1.2.2.2.1 i).1⟩) hn
  have s3 := s_bitsOf (x := x) (q := 4) (n := n) (f := lha A.1) (fun i hi => ⟨hx.1.2.2.2.2.2.1 i hi, p8_256 h8 (ho1.2.2.2.2.1 i).1⟩) hn
  have s4 := s_bitsOf (x := x) (q := 7) (n := n) (f := nearS A.1) (fun i hi => ⟨hx.2.1 i hi, mks_lt _ _⟩) hn
  refine ⟨if p1 = 0 then nI (lm A.1) else if p1 = 1 then nI (lhl A.1).length else if p1 = 2 then nI (sumN (fun a => pc (lqu A.1 a)) (lm A.1)) else if p1 = 3 then nI (sumN (fun a => sumN (fun b => ((lha A.1 a).testBit b).toNat) a) (lm A.1)) else if p1 = 4 then nI (sumN (fun a => sumN (fun b => (tch A.1 a b).toNat) a) (lm A.1)) else if p1 = 5 then nI (sumN (fun j => lth A.1 (gt (lhl A.1) j)) (lhl A.1).length) else -1, x, y, ?_, ?_, A, ho, hx, hy⟩
  · unfold fX9_count
    rw [s2, s3, s4, s_hallSet hx.1 ho1 hn]
    simp only [Option.bind_some, un2, s_thicknessOf hx.1 ho1 (setOf_lt ho1.2.2.2.2.2.2.2.2.2) hn, q2, q3, q4, nI_half b3, nI_half b4, c5, hx.1.1, hx.1.2.2.1]
    by_cases e0 : p1 = 0
    · simp [e0]
    · by_cases e1 : p1 = 1
      · simp [e1]
      · by_cases e2 : p1 = 2
        · simp [e2]
        · by_cases e3 : p1 = 3
          · simp [e3]
          · by_cases e4 : p1 = 4
            · simp [e4]
            · by_cases e5 : p1 = 5
              · simp [e5]
              · simp [e0, e1, e2, e3, e4, e5]
  · unfold fX10_count
    rw [m_count_out hy.1 ho1 hn]
    simp only [Option.bind_some, un5]
    rw [m_count_th hy.1 ho1 hn]
    simp only [Option.bind_some, un3, hy.1.1, hy.1.2.2.1]
    by_cases e0 : p1 = 0
    · simp [e0]
    · by_cases e1 : p1 = 1
      · simp [e1]
      · by_cases e2 : p1 = 2
        · simp [e2]
        · by_cases e3 : p1 = 3
          · simp [e3]
          · by_cases e4 : p1 = 4
            · simp [e4]
            · by_cases e5 : p1 = 5
              · simp [e5]
              · simp [e0, e1, e2, e3, e4, e5]
