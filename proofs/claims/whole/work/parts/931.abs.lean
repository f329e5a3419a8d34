/-! ===== what both sides are held against: a library ===== -/
/-- many, props, thickness, quotes, hates, ring, thirds, hall -/
abbrev AL : Type := Nat × Nat × (Nat → Nat) × (Nat → Nat) × (Nat → Nat) × Nat × Nat × List Nat
def lm (L : AL) : Nat := L.1
def lpr (L : AL) : Nat := L.2.1
def lth (L : AL) : Nat → Nat := L.2.2.1
def lqu (L : AL) : Nat → Nat := L.2.2.2.1
def lha (L : AL) : Nat → Nat := L.2.2.2.2.1
def lri (L : AL) : Nat := L.2.2.2.2.2.1
def lt3 (L : AL) : Nat := L.2.2.2.2.2.2.1
def lhl (L : AL) : List Nat := L.2.2.2.2.2.2.2
/-- a row of unlike books -/
def rowOK (m : Nat) (r : List Nat) : Prop := r.Nodup ∧ ∀ b ∈ r, b < m
def OKL (L : AL) : Prop := lm L ≤ 8 ∧ lpr L < 2 ^ lm L ∧ (∀ i, i < lm L → 1 ≤ lth L i ∧ lth L i ≤ 9) ∧ (∀ i, lqu L i < 2 ^ lm L ∧ (lqu L i).testBit i = false ∧ (lm L ≤ i → lqu L i = 0)) ∧
  (∀ i, lha L i < 2 ^ lm L ∧ (lha L i).testBit i = false ∧ (lm L ≤ i → lha L i = 0)) ∧ (∀ i j, (lha L i).testBit j = (lha L j).testBit i) ∧ lri L ≤ 1 ∧ lt3 L ≤ 1 ∧ rowOK (lm L) (lhl L)
/-- may two touch -/
def mayT (L : AL) (a b : Nat) : Bool := !(lha L a).testBit b && ((lpr L).testBit a || (lpr L).testBit b || (lqu L a).testBit b || (lqu L b).testBit a || (decide (lt3 L = 1) && decide (lqu L a &&& lqu L b ≠ 0)))
def tch (L : AL) (a b : Nat) : Bool := decide (a < lm L) && decide (b < lm L) && decide (a ≠ b) && mayT L a b
def nearS (L : AL) (a : Nat) : Nat := mks (tch L a) 8
/-- the class's library at a cell -/
def CL (x : bq_S) (q : Nat) (L : AL) : Prop := x.1 q 0 = nI (lm L) ∧ x.1 q 1 = nI (lpr L) ∧ x.1 q 2 = nI (lhl L).length ∧ (∀ i, i < lm L → x.1 (q + 1) i = nI (lth L i)) ∧ (∀ i, i < 8 → x.1 (q + 2) i = nI (lqu L i)) ∧ (∀ i, i < 8 → x.1 (q + 3) i = nI (lha L i)) ∧ x.1 (q + 4) 0 = nI (lri L) ∧ x.1 (q + 4) 1 = nI (lt3 L) ∧ ∀ i, i < (lhl L).length → x.1 (q + 5) i = nI ((lhl L).getD i 0)
def NR (x : bq_S) (q : Nat) (L : AL) : Prop := ∀ i, i < 8 → x.1 (q + 6) i = nI (nearS L i)
/-- the reference's library, and its image -/
def ML (y : bq_S) (L : AL) : Prop := y.1 0 0 = nI (lm L) ∧ y.1 0 4 = nI (lpr L) ∧ y.1 0 6 = nI (lhl L).length ∧ (∀ i, i < lm L → y.1 1 i = nI (lth L i)) ∧ (∀ i, i < lm L → y.1 2 i = nI (lqu L i)) ∧ (∀ i, i < lm L → y.1 3 i = nI (lha L i)) ∧ y.1 4 0 = nI (lri L) ∧ y.1 4 1 = nI (lt3 L) ∧ ∀ i, i < (lhl L).length → y.1 5 i = nI ((lhl L).getD i 0)
def MI (y : bq_S) (L : AL) : Prop := y.1 13 34 = nI (lm L) ∧ y.1 13 35 = nI (lpr L) ∧ y.1 13 36 = nI (lhl L).length ∧ (∀ i, i < lm L → y.1 13 i = nI (lth L i)) ∧ (∀ i, i < lm L → y.1 13 (8 + i) = nI (lqu L i)) ∧ (∀ i, i < lm L → y.1 13 (16 + i) = nI (lha L i)) ∧ y.1 13 24 = nI (lri L) ∧ y.1 13 25 = nI (lt3 L) ∧ ∀ i, i < (lhl L).length → y.1 13 (26 + i) = nI ((lhl L).getD i 0)
/-- library, image, tape, sheets (lane and 1, size, items) -/
abbrev AS : Type := AL × Option AL × List Nat × (Nat → Nat × Nat × (Nat → Int64))
def OKS (A : AS) : Prop := OKL A.1 ∧ (∀ L, A.2.1 = some L → OKL L) ∧ (A.2.2.1.length ≤ 60 ∧ ∀ c ∈ A.2.2.1, 32 ≤ c ∧ c ≤ 126) ∧ ∀ s, s < 4 → (A.2.2.2 s).1 ≤ 3 ∧ (A.2.2.2 s).2.1 ≤ 16
def CT (x : bq_S) (t : List Nat) : Prop := x.1 22 2 = nI t.length ∧ ∀ i, i < t.length → x.1 23 i = nI (t.getD i 0)
def MT (y : bq_S) (t : List Nat) : Prop := y.1 0 9 = nI t.length ∧ ∀ i, i < t.length → y.1 6 i = nI (t.getD i 0)
def CSh (x : bq_S) (h : Nat → Nat × Nat × (Nat → Int64)) : Prop := ∀ s, s < 4 → x.1 (34 + 2 * s) 1 = nI (h s).1 - 1 ∧ x.1 (34 + 2 * s) 2 = nI (h s).2.1 ∧ ∀ i, i < 16 → x.2 (35 + 2 * s) i = (h s).2.2 i
def MSh (y : bq_S) (h : Nat → Nat × Nat × (Nat → Int64)) : Prop := ∀ s, s < 4 → y.1 14 s = nI (h s).1 - 1 ∧ ((h s).1 ≠ 0 → y.1 15 s = nI (h s).2.1 ∧ ∀ i, i < 16 → y.2 16 (16 * s + i) = (h s).2.2 i)
def CI (x : bq_S) (o : Option AL) : Prop := match o with
  | none => x.1 0 11 = 0
  | some L => x.1 0 11 = 1 ∧ CL x 8 L
def MIo (y : bq_S) (o : Option AL) : Prop := match o with
  | none => y.1 0 21 = 0
  | some L => y.1 0 21 = 1 ∧ MI y L
def CR (x : bq_S) (A : AS) : Prop := CL x 1 A.1 ∧ NR x 1 A.1 ∧ CI x A.2.1 ∧ CT x A.2.2.1 ∧ CSh x A.2.2.2
def MR (y : bq_S) (A : AS) : Prop := ML y A.1 ∧ MIo y A.2.1 ∧ MT y A.2.2.1 ∧ MSh y A.2.2.2
def Rl (x y : bq_S) : Prop := ∃ A, OKS A ∧ CR x A ∧ MR y A
/-! frames -/
def sameC (x x1 : bq_S) : Prop := (∀ c, c ≤ 14 → x1.1 c = x.1 c) ∧ x1.1 22 2 = x.1 22 2 ∧ x1.1 23 = x.1 23 ∧ (∀ s, s < 4 → x1.1 (34 + 2 * s) = x.1 (34 + 2 * s)) ∧ x1.2 = x.2
theorem CL_of {x x1 : bq_S} {q : Nat} {L : AL} (h : ∀ c, q ≤ c → c ≤ q + 5 → x1.1 c = x.1 c) (hc : CL x q L) : CL x1 q L := by
  obtain ⟨h1, h2, h3, h4, h5, h6, h7, h8, h9⟩ := hc
  refine ⟨?_, ?_, ?_, ?_, ?_, ?_, ?_, ?_, ?_⟩
  all_goals first | rw [h q (by omega) (by omega)]; assumption | (rw [h (q + 4) (by omega) (by omega)]; assumption) | (intro i hi; first | (rw [h (q + 1) (by omega) (by omega)]; exact h4 i hi) | (rw [h (q + 2) (by omega) (by omega)]; exact h5 i hi) | (rw [h (q + 3) (by omega) (by omega)]; exact h6 i hi) | (rw [h (q + 5) (by omega) (by omega)]; exact h9 i hi))
theorem CR_same {x x1 : bq_S} {A : AS} (h : sameC x x1) (hc : CR x A) : CR x1 A := by
  obtain ⟨s1, s2, s3, s4, s5⟩ := h
  obtain ⟨h1, h2, h3, h4, h5⟩ := hc
  refine ⟨CL_of (fun c a b => s1 c (by omega)) h1, fun i hi => by rw [s1 (1 + 6) (by omega)]; exact h2 i hi, ?_, ⟨by rw [s2]; exact h4.1, fun i hi => by rw [s3]; exact h4.2 i hi⟩, fun s hs => ?_⟩
  · revert h3
    generalize A.2.1 = o
    intro h3
    cases o with
    | none => show x1.1 0 11 = 0; rw [s1 0 (by omega)]; exact h3
    | some L => exact ⟨by rw [s1 0 (by omega)]; exact h3.1, CL_of (fun c a b => s1 c (by omega)) h3.2⟩
  · rw [s4 s hs, s5]; exact h5 s hs
def sameM (y y1 : bq_S) : Prop := (∀ k, k = 0 ∨ k = 4 ∨ k = 6 ∨ k = 9 ∨ k = 21 → y1.1 0 k = y.1 0 k) ∧ (∀ c, 1 ≤ c → c ≤ 6 → y1.1 c = y.1 c) ∧ (∀ c, 13 ≤ c → c ≤ 15 → y1.1 c = y.1 c) ∧ y1.2 16 = y.2 16
theorem MR_same {y y1 : bq_S} {A : AS} (h : sameM y y1) (hc : MR y A) : MR y1 A := by
  obtain ⟨s1, s2, s3, s4⟩ := h
  obtain ⟨⟨a1, a2, a3, a4, a5, a6, a7, a8, a9⟩, h2, h3, h4⟩ := hc
  refine ⟨⟨by rw [s1 0 (by omega)]; exact a1, by rw [s1 4 (by omega)]; exact a2, by rw [s1 6 (by omega)]; exact a3, fun i hi => by rw [s2 1 (by omega) (by omega)]; exact a4 i hi, fun i hi => by rw [s2 2 (by omega) (by omega)]; exact a5 i hi, fun i hi => by rw [s2 3 (by omega) (by omega)]; exact a6 i hi, by rw [s2 4 (by omega) (by omega)]; exact a7, by rw [s2 4 (by omega) (by omega)]; exact a8, fun i hi => by rw [s2 5 (by omega) (by omega)]; exact a9 i hi⟩, ?_, ⟨by rw [s1 9 (by omega)]; exact h3.1, fun i hi => by rw [s2 6 (by omega) (by omega)]; exact h3.2 i hi⟩, fun s hs => ?_⟩
  · revert h2
    generalize A.2.1 = o
    intro h2
    cases o with
    | none => show y1.1 0 21 = 0; rw [s1 21 (by omega)]; exact h2
    | some L =>
      refine ⟨by rw [s1 21 (by omega)]; exact h2.1, ?_⟩
      unfold MI
      rw [s3 13 (by omega) (by omega)]
      exact h2.2
  · rw [s3 14 (by omega) (by omega), s3 15 (by omega) (by omega), s4]; exact h4 s hs
theorem sameC_rf (x : bq_S) : sameC x x := ⟨fun _ _ => rfl, rfl, rfl, fun _ _ => rfl, rfl⟩
theorem sameC_tr {x y z : bq_S} (h1 : sameC x y) (h2 : sameC y z) : sameC x z := ⟨fun c hc => (h2.1 c hc).trans (h1.1 c hc), h2.2.1.trans h1.2.1, h2.2.2.1.trans h1.2.2.1, fun s hs => (h2.2.2.2.1 s hs).trans (h1.2.2.2.1 s hs), h2.2.2.2.2.trans h1.2.2.2.2⟩
theorem sameM_rf (x : bq_S) : sameM x x := ⟨fun _ _ => rfl, fun _ _ _ => rfl, fun _ _ _ => rfl, rfl⟩
theorem sameM_tr {x y z : bq_S} (h1 : sameM x y) (h2 : sameM y z) : sameM x z := ⟨fun c hc => (h2.1 c hc).trans (h1.1 c hc), fun c a b => (h2.2.1 c a b).trans (h1.2.1 c a b), fun c a b => (h2.2.2.1 c a b).trans (h1.2.2.1 c a b), h2.2.2.2.trans h1.2.2.2⟩
/-! long and int compares -/
theorem lg_lt (a b : Int64) : (lg_cmp a b < 0) = (a.toInt < b.toInt) := by
  unfold lg_cmp
  by_cases h : a > b
  · have h2 : b.toInt < a.toInt := Int64.lt_iff_toInt_lt.mp h
    rw [if_pos h]; apply propext; constructor
    · intro hc; exact absurd hc (by decide)
    · intro hc; omega
  · have h2 : ¬ b.toInt < a.toInt := fun q => h (Int64.lt_iff_toInt_lt.mpr q)
    rw [if_neg h]
    by_cases e : a = b
    · subst e; rw [if_pos rfl]; simp
    · rw [if_neg e]
      have h3 : a.toInt ≠ b.toInt := fun q => e (Int64.toInt_inj.mp q)
      apply propext; constructor
      · intro _; omega
      · intro _; decide
theorem lg_ge (a b : Int64) : (0 ≤ lg_cmp a b) = (b.toInt ≤ a.toInt) := by
  have h := lg_lt a b
  apply propext; constructor
  · intro h1
    by_cases h2 : a.toInt < b.toInt
    · rw [← h] at h2; exact absurd h2 (Int32.not_lt.mpr h1)
    · omega
  · intro h1
    by_cases h2 : lg_cmp a b < 0
    · rw [h] at h2; omega
    · exact Int32.not_lt.mp h2
theorem lg_gt (a b : Int64) : (0 < lg_cmp a b) = (b.toInt < a.toInt) := by
  unfold lg_cmp
  by_cases h : a > b
  · have h2 : b.toInt < a.toInt := Int64.lt_iff_toInt_lt.mp h
    rw [if_pos h]; simp [h2]
  · have h2 : ¬ b.toInt < a.toInt := fun q => h (Int64.lt_iff_toInt_lt.mpr q)
    rw [if_neg h]
    by_cases e : a = b
    · subst e; rw [if_pos rfl]; simp
    · rw [if_neg e]; apply propext; constructor
      · intro hc; exact absurd hc (by decide)
      · intro hc; exact absurd hc h2
def isB (m : Nat) (p : Int32) : Bool := decide (0 ≤ p.toInt ∧ p.toInt < m)
def isBl (m : Nat) (p : Int64) : Bool := decide (0 ≤ p.toInt ∧ p.toInt < m)
theorem isBl_32 (m : Nat) (p : Int32) : isBl m p.toInt64 = isB m p := by simp [isBl, isB]
theorem isB_n {m b : Nat} (hb : b < 2 ^ 31) : isB m (nI b) = decide (b < m) := by
  simp only [isB, nI_toInt hb]
  have : ((0 : Int) ≤ (b : Int) ∧ (b : Int) < (m : Int)) = (b < m) := by apply propext; omega
  simp [this]
theorem isB_of {m : Nat} {p : Int32} (hm : m < 2 ^ 31) (h : isB m p = true) : ∃ b, b < m ∧ p = nI b := by
  have h1 := of_decide_eq_true h
  exact vp_in_of (vp_in_iff.mpr h1) hm
theorem isBl_of {m : Nat} {p : Int64} (hm : m < 2 ^ 31) (h : isBl m p = true) : ∃ b, b < m ∧ p = lN b := by
  have h1 : 0 ≤ p.toInt ∧ p.toInt < m := of_decide_eq_true h
  have h2 : ¬ p < 0 := fun q => by
    have := Int64.lt_iff_toInt_lt.mp q
    simp at this; omega
  obtain ⟨k, hk, e⟩ := pk_lOf h2
  refine ⟨k, ?_, e⟩
  rw [e, pk_lT hk] at h1
  omega
