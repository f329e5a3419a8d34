/-! ===== books: the text, pure ===== -/
abbrev PS : Type := (Nat → Nat) × (Nat → Nat) × Nat × (Nat → Nat)
def qF (t : List Nat) (bk : Nat) : Nat → Nat → Nat → (Nat → Nat) → Nat × (Nat → Nat) × Nat
  | 0, p, u, ta => (u, ta, skp t p)
  | k + 1, p, u, ta => if dgOK t (skp t p) 0 8 (u ||| 2 ^ bk) = true then qF t bk k (skp t p + 1) (u ||| 2 ^ (gt t (skp t p) - 48)) (uNat ta (gt t (skp t p) - 48) (if skp t p < ta (gt t (skp t p) - 48) then skp t p else ta (gt t (skp t p) - 48))) else (u, ta, skp t p)
theorem qF_t {t : List Nat} {bk k p u : Nat} {ta : Nat → Nat} (h : dgOK t (skp t p) 0 8 (u ||| 2 ^ bk) = true) : qF t bk (k + 1) p u ta = qF t bk k (skp t p + 1) (u ||| 2 ^ (gt t (skp t p) - 48)) (uNat ta (gt t (skp t p) - 48) (if skp t p < ta (gt t (skp t p) - 48) then skp t p else ta (gt t (skp t p) - 48))) := by rw [qF, if_pos h]
theorem qF_f {t : List Nat} {bk p u : Nat} {ta : Nat → Nat} (h : dgOK t (skp t p) 0 8 (u ||| 2 ^ bk) = false) : ∀ k, qF t bk k p u ta = (u, ta, skp t p)
  | 0 => rfl
  | k + 1 => by rw [qF, if_neg (by rw [h]; decide)]
theorem qF_skp {t : List Nat} {bk p u : Nat} {ta : Nat → Nat} : ∀ k, qF t bk k (skp t p) u ta = qF t bk k p u ta
  | 0 => by show (u, ta, skp t (skp t p)) = (u, ta, skp t p); rw [skp_skp]
  | k + 1 => by unfold qF; rw [skp_skp]
theorem dg_of {t : List Nat} {q s : Nat} (h : dgOK t q 0 8 s = true) : q < t.length ∧ 48 ≤ gt t q ∧ gt t q < 56 ∧ s.testBit (gt t q - 48) = false := by
  have h1 := of_decide_eq_true h
  exact ⟨h1.1, by omega, by omega, h1.2.2.2⟩
theorem uNat_s (f : Nat → Nat) (k v : Nat) : uNat f k v k = v := by simp [uNat]
theorem uNat_n (f : Nat → Nat) {k j : Nat} (v : Nat) (h : j ≠ k) : uNat f k v j = f j := by simp [uNat, h]
theorem or3 (u d b : Nat) : (u ||| 2 ^ d) ||| 2 ^ b = (u ||| 2 ^ b) ||| 2 ^ d := by
  rw [Nat.or_assoc, Nat.or_comm (2 ^ d), ← Nat.or_assoc]
theorem or_l8 {u d : Nat} (hu : u < 256) (hd : d < 8) : u ||| 2 ^ d < 256 := Nat.or_lt_two_pow (n := 8) hu (Nat.pow_lt_pow_right (by decide) hd)
theorem or_bit {u d i : Nat} (h : (u ||| 2 ^ d).testBit i = true) : u.testBit i = true ∨ i = d := by
  rw [Nat.testBit_or, Bool.or_eq_true, Nat.testBit_two_pow, decide_eq_true_iff] at h
  rcases h with h | h
  · exact Or.inl h
  · exact Or.inr h.symm
theorem or_no {u d i : Nat} (h : (u ||| 2 ^ d).testBit i = false) : u.testBit i = false ∧ i ≠ d := by
  rw [Nat.testBit_or, Bool.or_eq_false_iff, Nat.testBit_two_pow] at h
  exact ⟨h.1, fun e => by subst e; simp at h⟩
def TA (p : Nat) (ta : Nat → Nat) : Prop := ∀ i, ta i = 60 ∨ ta i < p
/-- one more is told -/
theorem ta_one {t : List Nat} {p u bk : Nat} {ta : Nat → Nat} (ht : tpOK t) (hp : p ≤ t.length) (hta : TA p ta) (hq : skp t p < t.length) (d : Nat) : TA (skp t p + 1) (uNat ta d (if skp t p < ta d then skp t p else ta d)) ∧ uNat ta d (if skp t p < ta d then skp t p else ta d) d < 60 ∧ (∀ c, ta c < 60 → uNat ta d (if skp t p < ta d then skp t p else ta d) c < 60) ∧ (if skp t p < ta d then skp t p else ta d) = (if ta d = 60 then skp t p else ta d) := by
  have h60 := ht.1
  have hge := skp_ge t p
  have hv : (if skp t p < ta d then skp t p else ta d) = (if ta d = 60 then skp t p else ta d) ∧ (if skp t p < ta d then skp t p else ta d) < skp t p + 1 := by
    rcases hta d with h | h
    · rw [h, if_pos (by omega), if_pos rfl]; exact ⟨rfl, by omega⟩
    · rw [if_neg (by omega), if_neg (by omega)]; exact ⟨rfl, by omega⟩
  refine ⟨fun i => ?_, ?_, fun c hc => ?_, hv.1⟩
  · by_cases e : i = d
    · subst e; rw [uNat_s]; exact Or.inr hv.2
    · rw [uNat_n _ _ e]
      rcases hta i with h | h
      · exact Or.inl h
      · exact Or.inr (by omega)
  · rw [uNat_s]; omega
  · by_cases e : c = d
    · subst e; rw [uNat_s]; omega
    · rw [uNat_n _ _ e]; exact hc
theorem qF_ok {t : List Nat} {bk : Nat} (ht : tpOK t) (hbk : bk < 8) : ∀ (k p u : Nat) (ta : Nat → Nat), u < 256 → u.testBit bk = false → p ≤ t.length → TA p ta → (∀ c, u.testBit c = true → ta c < 60) →
    (qF t bk k p u ta).1 < 256 ∧ (qF t bk k p u ta).1.testBit bk = false ∧ (qF t bk k p u ta).2.2 ≤ t.length ∧ skp t (qF t bk k p u ta).2.2 = (qF t bk k p u ta).2.2 ∧ TA (qF t bk k p u ta).2.2 (qF t bk k p u ta).2.1 ∧ (∀ c, (qF t bk k p u ta).1.testBit c = true → (qF t bk k p u ta).2.1 c < 60) ∧ (∀ c, ta c < 60 → (qF t bk k p u ta).2.1 c < 60) := by
  intro k
  induction k with
  | zero =>
    intro p u ta h1 h2 h3 h4 h5
    have hge := skp_ge t p
    refine ⟨h1, h2, skp_le h3, skp_skp t p, fun i => ?_, h5, fun c hc => hc⟩
    rcases h4 i with h | h
    · exact Or.inl h
    · exact Or.inr (Nat.lt_of_lt_of_le h hge)
  | succ k ih =>
    intro p u ta h1 h2 h3 h4 h5
    have hge := skp_ge t p
    cases hd : dgOK t (skp t p) 0 8 (u ||| 2 ^ bk) with
    | false =>
      rw [qF_f hd]
      refine ⟨h1, h2, skp_le h3, skp_skp t p, fun i => ?_, h5, fun c hc => hc⟩
      rcases h4 i with h | h
      · exact Or.inl h
      · exact Or.inr (Nat.lt_of_lt_of_le h hge)
    | true =>
      obtain ⟨d1, d2, d3, d4⟩ := dg_of hd
      obtain ⟨d5, d6⟩ := or_no d4
      obtain ⟨e1, e2, e3, e4⟩ := ta_one (u := u) (bk := bk) ht h3 h4 d1 (gt t (skp t p) - 48)
      rw [qF_t hd]
      obtain ⟨i1, i2, i3, i4, i5, i6, i7⟩ := ih (skp t p + 1) (u ||| 2 ^ (gt t (skp t p) - 48)) (uNat ta (gt t (skp t p) - 48) (if skp t p < ta (gt t (skp t p) - 48) then skp t p else ta (gt t (skp t p) - 48))) (or_l8 h1 (by omega)) (by
        rw [Nat.testBit_or, h2, Nat.testBit_two_pow, Bool.false_or]
        exact decide_eq_false d6) (by omega) e1 (fun c hc => by
        rcases or_bit hc with h | h
        · exact e3 c (h5 c h)
        · rw [h]; exact e2)
      exact ⟨i1, i2, i3, i4, i5, i6, fun c hc => i7 c (e3 c hc)⟩
def isAt (t : List Nat) (q c : Nat) : Bool := decide (q < t.length ∧ gt t q = c)
def c3 (t : List Nat) (p : Nat) : Nat := skp t (if isAt t (skp t (skp t p + 1)) 112 then skp t (skp t p + 1) + 1 else skp t (skp t p + 1))
def cS (t : List Nat) (bk p : Nat) (S : PS) : PS := (uNat S.1 bk (gt t (skp t p) - 48), S.2.1, (if isAt t (skp t (skp t p + 1)) 112 then S.2.2.1 ||| 2 ^ bk else S.2.2.1), S.2.2.2)
def cF (t : List Nat) (bk p : Nat) (S : PS) : Bool × Nat × PS :=
  if dgOK t (skp t p) 1 10 0 = true then
    (if isAt t (c3 t p) 58 = true then (decide ((qF t bk 8 (c3 t p + 1) 0 S.2.2.2).1 ≠ 0), (qF t bk 8 (c3 t p + 1) 0 S.2.2.2).2.2, ((cS t bk p S).1, uNat S.2.1 bk (qF t bk 8 (c3 t p + 1) 0 S.2.2.2).1, (cS t bk p S).2.2.1, (qF t bk 8 (c3 t p + 1) 0 S.2.2.2).2.1))
    else (true, c3 t p, cS t bk p S))
  else (false, skp t p, S)
def PW (n p : Nat) (S : PS) : Prop := (∀ i, i < n → 1 ≤ S.1 i ∧ S.1 i ≤ 9) ∧ (∀ i, S.2.1 i < 256 ∧ (S.2.1 i).testBit i = false ∧ (n ≤ i → S.2.1 i = 0)) ∧ S.2.2.1 < 2 ^ n ∧ TA p S.2.2.2 ∧ (∀ i c, (S.2.1 i).testBit c = true → S.2.2.2 c < 60)
theorem dg1_of {t : List Nat} {q : Nat} (h : dgOK t q 1 10 0 = true) : q < t.length ∧ 49 ≤ gt t q ∧ gt t q < 58 := by
  have h1 := of_decide_eq_true h
  exact ⟨h1.1, by omega, by omega⟩
theorem isAt_lt {t : List Nat} {q c : Nat} (h : isAt t q c = true) : q < t.length := (of_decide_eq_true h).1
theorem c3_ok {t : List Nat} {p : Nat} (h : skp t p < t.length) : skp t p + 1 ≤ c3 t p ∧ c3 t p ≤ t.length ∧ skp t (c3 t p) = c3 t p := by
  have h1 := skp_ge t (skp t p + 1)
  have h2 := skp_le (t := t) (p := skp t p + 1) (by omega)
  unfold c3
  cases hc : isAt t (skp t (skp t p + 1)) 112 with
  | true =>
    have h3 := isAt_lt hc
    rw [if_pos rfl]
    have h4 := skp_ge t (skp t (skp t p + 1) + 1)
    exact ⟨by omega, skp_le (by omega), skp_skp _ _⟩
  | false =>
    rw [if_neg (by decide)]
    have h4 := skp_ge t (skp t (skp t p + 1))
    exact ⟨by omega, skp_le h2, skp_skp _ _⟩
theorem TA_le {p q : Nat} {ta : Nat → Nat} (h : TA p ta) (hpq : p ≤ q) : TA q ta := fun i => by
  rcases h i with h | h
  · exact Or.inl h
  · exact Or.inr (by omega)
theorem cF_ok {t : List Nat} {bk p : Nat} {S : PS} (ht : tpOK t) (hbk : bk < 8) (hp : p ≤ t.length) (hS : PW bk p S) : (cF t bk p S).2.1 ≤ t.length ∧ skp t (cF t bk p S).2.1 = (cF t bk p S).2.1 ∧ ((cF t bk p S).1 = true → PW (bk + 1) (cF t bk p S).2.1 (cF t bk p S).2.2) := by
  obtain ⟨s1, s2, s3, s4, s5⟩ := hS
  unfold cF
  cases hd : dgOK t (skp t p) 1 10 0 with
  | false =>
    rw [if_neg (by decide)]
    exact ⟨skp_le hp, skp_skp t p, fun h => by cases h⟩
  | true =>
    rw [if_pos rfl]
    obtain ⟨d1, d2, d3⟩ := dg1_of hd
    obtain ⟨e1, e2, e3⟩ := c3_ok d1
    have hge := skp_ge t p
    have hpr : (cS t bk p S).2.2.1 < 2 ^ (bk + 1) := by
      show (if isAt t (skp t (skp t p + 1)) 112 then S.2.2.1 ||| 2 ^ bk else S.2.2.1) < 2 ^ (bk + 1)
      have : S.2.2.1 < 2 ^ (bk + 1) := Nat.lt_of_lt_of_le s3 (pw_le (by omega))
      split
      · exact lt_or_two this (by omega)
      · exact this
    have hth : ∀ i, i < bk + 1 → 1 ≤ (cS t bk p S).1 i ∧ (cS t bk p S).1 i ≤ 9 := fun i hi => by
      show 1 ≤ uNat S.1 bk (gt t (skp t p) - 48) i ∧ uNat S.1 bk (gt t (skp t p) - 48) i ≤ 9
      by_cases e : i = bk
      · subst e; rw [uNat_s]; omega
      · rw [uNat_n _ _ e]; exact s1 i (by omega)
    cases hc : isAt t (c3 t p) 58 with
    | false =>
      rw [if_neg (by decide)]
      exact ⟨e2, e3, fun _ => ⟨hth, fun i => ⟨(s2 i).1, (s2 i).2.1, fun h => (s2 i).2.2 (by omega)⟩, hpr, TA_le s4 (show p ≤ c3 t p by omega), s5⟩⟩
    | true =>
      rw [if_pos rfl]
      have hlt := isAt_lt hc
      obtain ⟨q1, q2, q3, q4, q5, q6, q7⟩ := qF_ok (t := t) (bk := bk) ht hbk 8 (c3 t p + 1) 0 S.2.2.2 (by decide) (by simp) (by omega) (TA_le s4 (by omega)) (fun c hc => by simp at hc)
      refine ⟨q3, q4, fun _ => ⟨hth, fun i => ?_, hpr, q5, fun i c h => ?_⟩⟩
      · show uNat S.2.1 bk _ i < 256 ∧ (uNat S.2.1 bk _ i).testBit i = false ∧ (bk + 1 ≤ i → uNat S.2.1 bk _ i = 0)
        by_cases e : i = bk
        · subst e; rw [uNat_s]; exact ⟨q1, q2, fun h => by omega⟩
        · rw [uNat_n _ _ e]; exact ⟨(s2 i).1, (s2 i).2.1, fun h => (s2 i).2.2 (by omega)⟩
      · have h' : (uNat S.2.1 bk (qF t bk 8 (c3 t p + 1) 0 S.2.2.2).1 i).testBit c = true := h
        show (qF t bk 8 (c3 t p + 1) 0 S.2.2.2).2.1 c < 60
        by_cases e : i = bk
        · subst e; rw [uNat_s] at h'; exact q6 c h'
        · rw [uNat_n _ _ e] at h'; exact q7 c (s5 i c h')
def bF (t : List Nat) : Nat → Nat → Nat → PS → Option Nat × Nat × PS
  | 0, n, p, S => (some p, n, S)
  | k + 1, n, p, S => if (cF t n p S).1 = true then (if (cF t n p S).2.1 < t.length then (if gt t (cF t n p S).2.1 = 59 ∧ k ≠ 0 then bF t k (n + 1) ((cF t n p S).2.1 + 1) (cF t n p S).2.2 else (some (cF t n p S).2.1, n + 1, (cF t n p S).2.2)) else (none, n + 1, (cF t n p S).2.2)) else (some (cF t n p S).2.1, n, S)
theorem bF_ok {t : List Nat} (ht : tpOK t) : ∀ (k n p : Nat) (S : PS), n + k = 8 → p ≤ t.length → PW n p S → (∀ q, (bF t k n p S).1 = some q → q ≤ t.length) ∧ ((bF t k n p S).1 = none → 1 ≤ (bF t k n p S).2.1 ∧ (bF t k n p S).2.1 ≤ 8 ∧ ∃ p1, p1 ≤ t.length ∧ PW (bF t k n p S).2.1 p1 (bF t k n p S).2.2) := by
  intro k
  induction k with
  | zero =>
    intro n p S h1 h2 h3
    exact ⟨fun q hq => by cases hq; exact h2, fun h => by cases h⟩
  | succ k ih =>
    intro n p S h1 h2 h3
    obtain ⟨c1, c2, c3⟩ := cF_ok ht (show n < 8 by omega) h2 h3
    unfold bF
    by_cases a : (cF t n p S).1 = true
    · rw [if_pos a]
      by_cases b : (cF t n p S).2.1 < t.length
      · rw [if_pos b]
        by_cases c : gt t (cF t n p S).2.1 = 59 ∧ k ≠ 0
        · rw [if_pos c]
          have hw := c3 a
          exact ih (n + 1) ((cF t n p S).2.1 + 1) (cF t n p S).2.2 (by omega) (by omega) ⟨hw.1, hw.2.1, hw.2.2.1, TA_le hw.2.2.2.1 (by omega), hw.2.2.2.2⟩
        · rw [if_neg c]
          exact ⟨fun q hq => by cases hq; exact c1, fun h => by cases h⟩
      · rw [if_neg b]
        exact ⟨fun q hq => (by cases hq), fun _ => ⟨by simp, by dsimp only; omega, _, c1, c3 a⟩⟩
    · rw [if_neg a]
      exact ⟨fun q hq => by cases hq; exact c1, fun h => by cases h⟩
/-- the first that tells one that does not come -/
def msF (ta : Nat → Nat) : Nat → Nat → Nat → Nat
  | 0, _, a => a
  | k + 1, b, a => msF ta k (b + 1) (if ta b < a then ta b else a)
theorem msF_le {ta : Nat → Nat} : ∀ (k b a : Nat), msF ta k b a ≤ a ∧ ∀ c, b ≤ c → c < b + k → msF ta k b a ≤ ta c
  | 0, b, a => ⟨Nat.le_refl _, fun c h1 h2 => by omega⟩
  | k + 1, b, a => by
    have ih := msF_le (ta := ta) k (b + 1) (if ta b < a then ta b else a)
    have e : msF ta (k + 1) b a = msF ta k (b + 1) (if ta b < a then ta b else a) := rfl
    rw [e]
    have hv : (if ta b < a then ta b else a) ≤ a ∧ (if ta b < a then ta b else a) ≤ ta b := by split <;> omega
    refine ⟨by omega, fun c h1 h2 => ?_⟩
    by_cases e : c = b
    · subst e; omega
    · exact ih.2 c (by omega) (by omega)
