/-! ===== the small methods ===== -/
theorem two31 {m : Nat} (h : m ≤ 8) : m < 2 ^ 31 := by omega
theorem p8_31 {m s : Nat} (hm : m ≤ 8) (h : s < 2 ^ m) : s < 2 ^ 31 := Nat.lt_of_lt_of_le h (Nat.pow_le_pow_right (by decide) (by omega))
theorem p8_256 {m s : Nat} (hm : m ≤ 8) (h : s < 2 ^ m) : s < 256 := Nat.lt_of_lt_of_le h (Nat.pow_le_pow_right (by decide) hm : 2 ^ m ≤ 2 ^ 8)
theorem cl0 {n : Nat} (h : n < 2 ^ 31) : (nI n).toNatClampNeg = n := nI_clamp h
theorem mem8 {L : AL} (h : OKL L) : lm L < 2 ^ 31 := two31 h.1
theorem nI_big (n : Nat) (h : n < 2 ^ 31) : (nI n).toInt = n := nI_toInt h
-- class
theorem s_bit (b : Nat) (x : bq_S) (h : b < 31) : fX9_bit (nI b) x = some (nI (2 ^ b), x) := by
  unfold fX9_bit; rw [wI_sh h]
theorem s_has (s b : Nat) (x : bq_S) (hs : s < 2 ^ 31) (h : b < 31) : fX9_has (nI s) (nI b) x = some (b2i (s.testBit b), x) := by
  unfold fX9_has; simp only [wI_has hs h]
  cases s.testBit b <;> simp [b2i]
theorem s_isThick (p : Int32) (x : bq_S) : fX9_isThickness p x = some (b2i (decide (1 ≤ p.toInt ∧ p.toInt ≤ 9)), x) := by
  unfold fX9_isThickness
  have h1 : (p < 1) = (p.toInt < 1) := propext Int32.lt_iff_toInt_lt
  have h2 : ((9 : Int32) < p) = (9 < p.toInt) := propext Int32.lt_iff_toInt_lt
  simp only [h1, h2]
  by_cases a : p.toInt < 1
  · have : ¬ (1 ≤ p.toInt ∧ p.toInt ≤ 9) := by omega
    simp [a, this, b2i]
  · by_cases b : 9 < p.toInt
    · have : ¬ (1 ≤ p.toInt ∧ p.toInt ≤ 9) := by omega
      simp [a, b, this, b2i]
    · have : (1 ≤ p.toInt ∧ p.toInt ≤ 9) := by omega
      simp [a, b, this, b2i]
theorem s_isBook0 {x : bq_S} {q m : Nat} (hq : x.1 q 0 = nI m) (hm : m < 2 ^ 31) (p : Int64) : fX4_isBook q p x = some (b2i (isBl m p), x) := by
  unfold fX4_isBook
  simp only [lg_lt, lg_ge, hq, Int32.toInt_toInt64, nI_toInt hm]
  unfold isBl
  by_cases a : p.toInt < (0 : Int64).toInt
  · have : ¬ (0 ≤ p.toInt ∧ p.toInt < m) := by simp at a; omega
    rw [if_pos a]; simp [this, b2i]
  · rw [if_neg a]
    simp at a
    by_cases b : (m : Int) ≤ p.toInt
    · have : ¬ (0 ≤ p.toInt ∧ p.toInt < m) := by omega
      rw [if_pos b]; simp [this, b2i]
    · have : (0 ≤ p.toInt ∧ p.toInt < m) := by omega
      rw [if_neg b]; simp [this, b2i]
theorem s_isBook {x : bq_S} {q : Nat} {L : AL} (hc : CL x q L) (ho : OKL L) (p : Int64) : fX4_isBook q p x = some (b2i (isBl (lm L) p), x) := s_isBook0 hc.1 (mem8 ho) p
theorem s_isPlace0 {x : bq_S} {q m : Nat} (hq : x.1 q 2 = nI m) (hm : m < 2 ^ 31) (p : Int64) : fX4_isPlace q p x = some (b2i (isBl m p), x) := by
  unfold fX4_isPlace
  simp only [lg_lt, lg_ge, hq, Int32.toInt_toInt64, nI_toInt hm]
  unfold isBl
  by_cases a : p.toInt < (0 : Int64).toInt
  · have : ¬ (0 ≤ p.toInt ∧ p.toInt < m) := by simp at a; omega
    rw [if_pos a]; simp [this, b2i]
  · rw [if_neg a]
    simp at a
    by_cases b : (m : Int) ≤ p.toInt
    · have : ¬ (0 ≤ p.toInt ∧ p.toInt < m) := by omega
      rw [if_pos b]; simp [this, b2i]
    · have : (0 ≤ p.toInt ∧ p.toInt < m) := by omega
      rw [if_neg b]; simp [this, b2i]
/-- a row of unlike books of at most 8 is at most 8 long -/
theorem rowOK_len {m : Nat} {r : List Nat} (hm : m ≤ 8) (h : rowOK m r) : r.length ≤ m := by
  obtain ⟨h1, h2⟩ := h
  have hs : r ⊆ List.range m := fun b hb => List.mem_range.mpr (h2 b hb)
  have := h1.length_le_of_subset hs
  simpa using this
theorem hall8 {L : AL} (ho : OKL L) : (lhl L).length ≤ 8 := Nat.le_trans (rowOK_len ho.1 ho.2.2.2.2.2.2.2.2) ho.1
theorem s_isPlace {x : bq_S} {q : Nat} {L : AL} (hc : CL x q L) (ho : OKL L) (p : Int64) : fX4_isPlace q p x = some (b2i (isBl (lhl L).length p), x) := s_isPlace0 hc.2.2.1 (two31 (hall8 ho)) p
def are2 (m : Nat) (p1 p2 : Int32) : Bool := isB m p1 && isB m p2 && decide (p1 ≠ p2)
theorem s_areTwo0 {x : bq_S} {q m : Nat} (hq : x.1 q 0 = nI m) (hm : m < 2 ^ 31) (p1 p2 : Int32) : fX4_areTwo q p1 p2 x = some (b2i (are2 m p1 p2), x) := by
  unfold fX4_areTwo are2
  simp only [s_isBook0 hq hm, Option.bind_some, un2, isBl_32]
  cases isB m p1 <;> cases isB m p2 <;> simp [b2i]
  by_cases h : p1 = p2 <;> simp [h]
theorem s_areTwo {x : bq_S} {q : Nat} {L : AL} (hc : CL x q L) (ho : OKL L) (p1 p2 : Int32) : fX4_areTwo q p1 p2 x = some (b2i (are2 (lm L) p1 p2), x) := s_areTwo0 hc.1 (mem8 ho) p1 p2
theorem are2_of {m : Nat} {p1 p2 : Int32} (hm : m < 2 ^ 31) (h : are2 m p1 p2 = true) : ∃ a b, a < m ∧ b < m ∧ a ≠ b ∧ p1 = nI a ∧ p2 = nI b := by
  simp only [are2, Bool.and_eq_true, decide_eq_true_eq] at h
  obtain ⟨⟨h1, h2⟩, h3⟩ := h
  obtain ⟨a, ha, e1⟩ := isB_of hm h1
  obtain ⟨b, hb, e2⟩ := isB_of hm h2
  exact ⟨a, b, ha, hb, fun e => h3 (by rw [e1, e2, e]), e1, e2⟩
theorem are2_n {m a b : Nat} (ha : a < 2 ^ 31) (hb : b < 2 ^ 31) : are2 m (nI a) (nI b) = (decide (a < m) && decide (b < m) && decide (a ≠ b)) := by
  simp only [are2, isB_n ha, isB_n hb]
  congr 1
  have : (nI a ≠ nI b) = (a ≠ b) := by rw [ne_eq, wIeq ha hb]
  simp [this]
def isS (m : Nat) (p : Int32) : Bool := decide (0 ≤ p.toInt ∧ p.toInt < 2 ^ m)
theorem isS_of {m : Nat} {p : Int32} (hm : m ≤ 8) (h : isS m p = true) : ∃ s, s < 2 ^ m ∧ p = nI s := by
  have h1 : 0 ≤ p.toInt ∧ p.toInt < 2 ^ m := of_decide_eq_true h
  have : ((2 ^ m : Nat) : Int) = 2 ^ m := by simp
  exact vp_in_of (vp_in_iff.mpr (by rw [this]; exact h1)) (by have : 2 ^ m ≤ 2 ^ 8 := Nat.pow_le_pow_right (by decide) hm; omega)
theorem isS_n {m s : Nat} (hs : s < 2 ^ 31) : isS m (nI s) = decide (s < 2 ^ m) := by
  simp only [isS, nI_toInt hs]
  have : ((0 : Int) ≤ (s : Int) ∧ (s : Int) < 2 ^ m) = (s < 2 ^ m) := by
    apply propext
    have : ((2 ^ m : Nat) : Int) = 2 ^ m := by simp
    omega
  exact decide_eq_decide.mpr (by rw [this])
theorem wand_m1 (p : Int32) : p &&& (-1) = p := by
  apply Int32.toBitVec_inj.mp
  have h1 : (-1 : Int32).toBitVec = BitVec.allOnes 32 := by decide
  simp [Int32.toBitVec_and, h1]
theorem wand_or (p a b : Int32) : p &&& (a ||| b) = (p &&& a) ||| (p &&& b) := by
  apply Int32.toBitVec_inj.mp
  apply BitVec.eq_of_getLsbD_eq
  intro i hi
  simp only [Int32.toBitVec_and, Int32.toBitVec_or, BitVec.getLsbD_and, BitVec.getLsbD_or]
  cases p.toBitVec.getLsbD i <;> rfl
theorem wor_0 (p : Int32) : p ||| 0 = p := by
  apply Int32.toBitVec_inj.mp
  simp [Int32.toBitVec_or]
theorem neg_mask {m : Nat} (hm : m ≤ 8) (p : Int32) : (p &&& (-(nI (2 ^ m))) = 0) = (0 ≤ p.toInt ∧ p.toInt < 2 ^ m) := by
  have k1 : ∀ m : Fin 9, nI (2 ^ m.val - 1) ||| -(nI (2 ^ m.val)) = -1 := by decide
  have k2 : ∀ m : Fin 9, ∀ s : Fin 256, s.val < 2 ^ m.val → nI s.val &&& -(nI (2 ^ m.val)) = 0 := by decide +kernel
  have k3 : ∀ m : Fin 9, (nI (2 ^ m.val - 1)).toBitVec.toNat = 2 ^ m.val - 1 := by decide
  apply propext
  have h2 : ((2 ^ m : Nat) : Int) = 2 ^ m := by simp
  constructor
  · intro h
    have e : p = nI (p.toBitVec.toNat % 2 ^ m) := by
      have h3 := wand_or p (nI (2 ^ m - 1)) (-(nI (2 ^ m)))
      rw [k1 ⟨m, by omega⟩, wand_m1, h, wor_0, pk_and p m (k3 ⟨m, by omega⟩)] at h3
      exact h3
    have hlt : p.toBitVec.toNat % 2 ^ m < 2 ^ m := Nat.mod_lt _ (Nat.two_pow_pos m)
    rw [e, nI_toInt (p8_31 hm hlt)]
    omega
  · intro h
    obtain ⟨s, hs, rfl⟩ := vp_in_of (vp_in_iff.mpr (by rw [h2]; exact h)) (p8_31 (m := m) (s := 2 ^ m - 1) hm (by have := Nat.two_pow_pos m; omega) |> fun q => by have : 2 ^ m ≤ 2 ^ 8 := Nat.pow_le_pow_right (by decide) hm; omega)
    exact k2 ⟨m, by omega⟩ ⟨s, p8_256 hm hs⟩ hs
theorem s_isSet {x : bq_S} {q : Nat} {L : AL} (hc : CL x q L) (ho : OKL L) (p : Int32) : fX4_isSet q p x = some (b2i (isS (lm L) p), x) := by
  unfold fX4_isSet isS
  have h8 := ho.1
  rw [hc.1, s_bit _ _ (by omega)]
  simp only [Option.bind_some, un2, neg_mask ho.1]
  by_cases h : 0 ≤ p.toInt ∧ p.toInt < 2 ^ lm L <;> simp [h, b2i]
theorem s_touches {x : bq_S} {L : AL} (hn : NR x 1 L) (a b : Nat) (ha : a < 8) (hb : b < 8) : fX4_touches 1 (nI a) (nI b) x = some (b2i (tch L a b), x) := by
  unfold fX4_touches
  have h1 : nearS L a < 2 ^ 31 := Nat.lt_of_lt_of_le (mks_lt _ _) (by decide)
  simp only [okN ha (by decide), if_true, cl0 (show a < 2 ^ 31 by omega), hn a ha, wI_has h1 (show b < 31 by omega)]
  rw [nearS, mks_bit]
  simp only [hb, decide_true, Bool.true_and]
  cases tch L a b <;> simp [b2i]
theorem s_closes {x : bq_S} {q : Nat} {L : AL} (hc : CL x q L) (ho : OKL L) (k : Nat) (hk : k < 2 ^ 31) : fX4_closes q (nI k) x = some (b2i (decide (lri L = 1 ∧ 3 ≤ k)), x) := by
  unfold fX4_closes
  have h1 : x.1 (q + 4) (0 : Int32).toNatClampNeg = nI (lri L) := hc.2.2.2.2.2.2.1
  have h2 : (nI (lri L) = (1 : Int32)) = (lri L = 1) := wIeq (b := 1) (by have := ho.2.2.2.2.2.2.1; omega) (by decide)
  have h3 : (nI k < (3 : Int32)) = (k < 3) := wIlt (b := 3) hk (by decide)
  simp only [h1, h2, h3]
  by_cases a : lri L = 1
  · by_cases b : k < 3
    · have : ¬ 3 ≤ k := by omega
      simp [a, b, this, b2i]
    · have : 3 ≤ k := by omega
      simp [a, b, this, b2i]
  · simp [a, b2i]
theorem s_with (s b : Nat) (p : Int32) (x : bq_S) (hb : b < 31) : fX4_with (nI s) (nI b) p x = some (nI (if p = 0 then andn s (2 ^ b) else s ||| 2 ^ b), x) := by
  unfold fX4_with
  by_cases h : p = 0
  · simp only [h, if_true, s_bit _ _ hb, Option.bind_some, un2, wI_andn]
  · simp only [h, if_false, s_bit _ _ hb, Option.bind_some, un2, wI_or]
theorem qu31 {L : AL} (ho : OKL L) (i : Nat) : lqu L i < 2 ^ 31 := p8_31 ho.1 (ho.2.2.2.1 i).1
theorem ha31 {L : AL} (ho : OKL L) (i : Nat) : lha L i < 2 ^ 31 := p8_31 ho.1 (ho.2.2.2.2.1 i).1
theorem pr31 {L : AL} (ho : OKL L) : lpr L < 2 ^ 31 := p8_31 ho.1 ho.2.1
theorem s_mayTouch {x : bq_S} {q : Nat} {L : AL} (hc : CL x q L) (ho : OKL L) (a b : Nat) (ha : a < 8) (hb : b < 8) : fX4_mayTouch q (nI a) (nI b) x = some (b2i (mayT L a b), x) := by
  unfold fX4_mayTouch mayT
  obtain ⟨c1, c2, c3, c4, c5, c6, c7, c8, c9⟩ := hc
  have ca : (nI a).toNatClampNeg = a := cl0 (by omega)
  have cb : (nI b).toNatClampNeg = b := cl0 (by omega)
  have c8' : x.1 (q + 4) (1 : Int32).toNatClampNeg = nI (lt3 L) := c8
  have e1 : (nI (lt3 L) = (1 : Int32)) = (lt3 L = 1) := wIeq (b := 1) (by have := ho.2.2.2.2.2.2.2.1; omega) (by decide)
  have e2 : (nI (lqu L a &&& lqu L b) = (0 : Int32)) = (lqu L a &&& lqu L b = 0) := nI_zero (and_lt31 (qu31 ho a))
  simp only [okN ha (by decide), okN hb (by decide), if_true, ca, cb, c2, c5 a ha, c5 b hb, c6 a ha, c8', s_has _ _ _ (ha31 ho a) (show b < 31 by omega), s_has _ _ _ (pr31 ho) (show a < 31 by omega), s_has _ _ _ (pr31 ho) (show b < 31 by omega), s_has _ _ _ (qu31 ho a) (show b < 31 by omega), s_has _ _ _ (qu31 ho b) (show a < 31 by omega), Option.bind_some, un2, b2i_0, wI_and, e1, e2]
  cases (lha L a).testBit b <;> cases (lpr L).testBit a <;> cases (lpr L).testBit b <;> cases (lqu L a).testBit b <;> cases (lqu L b).testBit a <;> simp [b2i]
  by_cases h1 : lt3 L = 1 <;> by_cases h2 : lqu L a &&& lqu L b = 0 <;> simp [h1, h2]
-- the reference
theorem m_in (v lo hi : Int64) (y : bq_S) : fX10_in v lo hi y = some (b2i (decide (lo.toInt ≤ v.toInt ∧ v.toInt ≤ hi.toInt)), y) := by
  unfold fX10_in
  simp only [lg_lt, lg_gt]
  by_cases a : v.toInt < lo.toInt
  · have : ¬ (lo.toInt ≤ v.toInt ∧ v.toInt ≤ hi.toInt) := by omega
    simp [a, this, b2i]
  · by_cases b : hi.toInt < v.toInt
    · have : ¬ (lo.toInt ≤ v.toInt ∧ v.toInt ≤ hi.toInt) := by omega
      simp [a, b, this, b2i]
    · have : (lo.toInt ≤ v.toInt ∧ v.toInt ≤ hi.toInt) := by omega
      simp [a, b, this, b2i]
theorem nI_m1 {m : Nat} (hm : m < 2 ^ 30) : (nI m - 1).toInt = (m : Int) - 1 := pk_sub_toInt (b := 1) hm (by decide)
theorem b2i_g (b : Bool) {α : Type} (t e : α) : (if b2i b = 0 ∨ b2i b = 1 then t else e) = t := if_pos (b2i_01 b)
theorem m_isBook0 {y : bq_S} {m : Nat} (h : y.1 0 0 = nI m) (hm : m < 2 ^ 30) (p : Int32) : fX10_isBook p y = some (b2i (isB m p), y) := by
  unfold fX10_isBook
  simp only [m_in, Option.bind_some, un2, b2i_g, h, Int32.toInt_toInt64, nI_m1 hm, isB]
  congr 3
  apply decide_eq_decide.mpr
  simp
  omega
theorem m_areTwo0 {y : bq_S} {m : Nat} (h : y.1 0 0 = nI m) (hm : m < 2 ^ 30) (p1 p2 : Int32) : fX10_areTwo p1 p2 y = some (b2i (are2 m p1 p2), y) := by
  unfold fX10_areTwo are2
  simp only [m_isBook0 h hm, Option.bind_some, un2]
  cases isB m p1 <;> cases isB m p2 <;> simp [b2i]
  by_cases e : p1 = p2 <;> simp [e]
theorem m_isBook {y : bq_S} {L : AL} (hc : ML y L) (ho : OKL L) (p : Int32) : fX10_isBook p y = some (b2i (isB (lm L) p), y) := m_isBook0 hc.1 (by have := ho.1; omega) p
theorem m_areTwo {y : bq_S} {L : AL} (hc : ML y L) (ho : OKL L) (p1 p2 : Int32) : fX10_areTwo p1 p2 y = some (b2i (are2 (lm L) p1 p2), y) := m_areTwo0 hc.1 (by have := ho.1; omega) p1 p2
theorem m_isSet {y : bq_S} {L : AL} (hc : ML y L) (ho : OKL L) (p : Int32) : fX10_isSet p y = some (b2i (isS (lm L) p), y) := by
  unfold fX10_isSet
  have h8 := ho.1
  have h1 : 2 ^ lm L < 2 ^ 30 := Nat.pow_lt_pow_right (by decide) (by omega)
  simp only [m_in, Option.bind_some, un2, b2i_g, hc.1, wI_sh (show lm L < 31 by omega), Int32.toInt_toInt64, nI_m1 h1, isS]
  congr 3
  apply decide_eq_decide.mpr
  simp
  omega
theorem tb_andn2 (s a b i : Nat) : (andn s (2 ^ a ||| 2 ^ b)).testBit i = (s.testBit i && decide (i ≠ a) && decide (i ≠ b)) := by
  rw [andn_bit, Nat.testBit_or, Nat.testBit_two_pow, Nat.testBit_two_pow]
  by_cases h1 : a = i <;> by_cases h2 : b = i <;> simp [h1, h2, eq_comm] <;> (first | omega | (simp [Ne.symm h1, Ne.symm h2]) | skip)
theorem m_mayTouch {y : bq_S} {L : AL} (hc : ML y L) (ho : OKL L) (a b : Nat) (ha : a < lm L) (hb : b < lm L) : fX10_mayTouch (nI a) (nI b) y = some (b2i (mayT L a b), y) := by
  have h8 := ho.1
  have a8 : a < 8 := by omega
  have b8 : b < 8 := by omega
  obtain ⟨c1, c2, c3, c4, c5, c6, c7, c8, c9⟩ := hc
  have ca : (nI a).toNatClampNeg = a := cl0 (by omega)
  have cb : (nI b).toNatClampNeg = b := cl0 (by omega)
  have c8' : y.1 4 (1 : Int32).toNatClampNeg = nI (lt3 L) := c8
  have e1 : (nI (lt3 L) = (1 : Int32)) = (lt3 L = 1) := wIeq (b := 1) (by have := ho.2.2.2.2.2.2.2.1; omega) (by decide)
  have q1 := (ho.2.2.2.1 a).2.1
  have q2 := (ho.2.2.2.1 b).2.1
  have q3 : andn (lqu L a &&& lqu L b) (2 ^ a ||| 2 ^ b) < 2 ^ 31 := by
    unfold andn
    exact Nat.xor_lt_two_pow (and_lt31 (qu31 ho a)) (and_lt31 (and_lt31 (qu31 ho a)))
  have e2 : (nI (andn (lqu L a &&& lqu L b) (2 ^ a ||| 2 ^ b)) = (0 : Int32)) = (andn (lqu L a &&& lqu L b) (2 ^ a ||| 2 ^ b) = 0) := nI_zero q3
  have e3 : (andn (lqu L a &&& lqu L b) (2 ^ a ||| 2 ^ b) = 0) = (lqu L a &&& lqu L b = 0) := by
    have : andn (lqu L a &&& lqu L b) (2 ^ a ||| 2 ^ b) = lqu L a &&& lqu L b := by
      apply Nat.eq_of_testBit_eq
      intro i
      rw [tb_andn2]
      by_cases h1 : i = a
      · subst h1; simp [q1]
      · by_cases h2 : i = b
        · subst h2; simp [q2]
        · simp [h1, h2]
    rw [this]
  unfold fX10_mayTouch fX10_mayTouch_j19 fX10_mayTouch_j53 mayT
  simp only [okN a8 (by decide), okN b8 (by decide), if_true, ca, cb, c2, c5 a ha, c5 b hb, c6 a ha, c8', wI_bit (ha31 ho a) (show b < 31 by omega), wI_bit (pr31 ho) (show a < 31 by omega), wI_bit (pr31 ho) (show b < 31 by omega), wI_bit (qu31 ho a) (show b < 31 by omega), wI_bit (qu31 ho b) (show a < 31 by omega), b2i_1, wI_sh (show a < 31 by omega), wI_sh (show b < 31 by omega), wI_and, wI_or, wI_andn, e1, e2, e3, bd]
  cases (lha L a).testBit b <;> cases (lpr L).testBit a <;> cases (lpr L).testBit b <;> cases (lqu L a).testBit b <;> cases (lqu L b).testBit a <;> simp [b2i]
  by_cases h1 : lt3 L = 1 <;> by_cases h2 : lqu L a &&& lqu L b = 0 <;> simp [h1, h2]
theorem tch_may {L : AL} {a b : Nat} (ha : a < lm L) (hb : b < lm L) (h : a ≠ b) : tch L a b = mayT L a b := by simp [tch, ha, hb, h]
theorem tch_sym {L : AL} (ho : OKL L) (a b : Nat) : tch L a b = tch L b a := by
  unfold tch mayT
  rw [ho.2.2.2.2.2.1 a b, Nat.and_comm (lqu L a)]
  have : decide (a ≠ b) = decide (b ≠ a) := decide_eq_decide.mpr ⟨Ne.symm, Ne.symm⟩
  rw [this]
  cases decide (a < lm L) <;> cases decide (b < lm L) <;> cases (lpr L).testBit a <;> cases (lpr L).testBit b <;> cases (lqu L a).testBit b <;> cases (lqu L b).testBit a <;> simp
