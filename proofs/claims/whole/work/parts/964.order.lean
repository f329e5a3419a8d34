/-! ===== rows in their order; burnt: what stands beside ===== -/
def lxb : List Nat → List Nat → Bool
  | a :: r, b :: q => decide (a < b) || (decide (a = b) && lxb r q)
  | _, _ => false
theorem lxb_c (a b : Nat) (r q : List Nat) : lxb (a :: r) (b :: q) = (decide (a < b) || (decide (a = b) && lxb r q)) := rfl
theorem lxb_irr : ∀ r : List Nat, lxb r r = false
  | [] => rfl
  | a :: r => by rw [lxb_c, lxb_irr r]; simp
theorem lxb_cp {a b : Nat} {r q : List Nat} : lxb (a :: r) (b :: q) = true ↔ (a < b ∨ (a = b ∧ lxb r q = true)) := by
  rw [lxb_c]; simp
theorem lxb_tr : ∀ {r q s : List Nat}, lxb r q = true → lxb q s = true → lxb r s = true
  | [], _, _, h, _ => by simp [lxb] at h
  | _ :: _, [], _, h, _ => by simp [lxb] at h
  | _ :: _, _ :: _, [], _, h => by simp [lxb] at h
  | a :: r, b :: q, c :: s, h1, h2 => by
    rw [lxb_cp] at *
    rcases h1 with h1 | ⟨h1, h3⟩
    · rcases h2 with h2 | ⟨h2, _⟩
      · left; omega
      · left; omega
    · rcases h2 with h2 | ⟨h2, h4⟩
      · left; omega
      · right; exact ⟨by omega, lxb_tr h3 h4⟩
theorem lxb_tot : ∀ {r q : List Nat}, r.length = q.length → lxb r q = false → r = q ∨ lxb q r = true
  | [], [], _, _ => Or.inl rfl
  | [], _ :: _, h, _ => by simp at h
  | _ :: _, [], h, _ => by simp at h
  | a :: r, b :: q, h, h1 => by
    have hn : ¬ (a < b ∨ (a = b ∧ lxb r q = true)) := fun hh => by
      rw [← lxb_cp] at hh
      rw [h1] at hh
      exact absurd hh (by decide)
    by_cases e : a = b
    · subst e
      have h2 : lxb r q = false := by
        cases c : lxb r q
        · rfl
        · exact absurd (Or.inr ⟨rfl, c⟩) hn
      rcases lxb_tot (by simpa using h) h2 with e | e
      · left; rw [e]
      · right; rw [lxb_cp]; exact Or.inr ⟨rfl, e⟩
    · right; rw [lxb_cp]; left
      have : ¬ a < b := fun hh => hn (Or.inl hh)
      omega
theorem arr_sorted : ∀ (k : Nat) (S : List Nat), S.Pairwise (fun i j => i < j) → (arrL k S).Pairwise (fun r q => lxb r q = true)
  | 0, S, _ => by simp [arrL]
  | k + 1, S, hS => by
    unfold arrL
    rw [List.pairwise_flatMap]
    refine ⟨fun b hb => ?_, ?_⟩
    · rw [List.pairwise_map]
      refine (arr_sorted k _ (hS.filter _)).imp ?_
      intro r q h
      rw [lxb_cp]; exact Or.inr ⟨rfl, h⟩
    · refine hS.imp ?_
      intro b c hbc u hu v hv
      obtain ⟨r, _, rfl⟩ := List.mem_map.mp hu
      obtain ⟨q, _, rfl⟩ := List.mem_map.mp hv
      rw [lxb_cp]; exact Or.inl hbc
theorem sorted_nodup {l : List (List Nat)} (h : l.Pairwise (fun r q => lxb r q = true)) : l.Nodup := by
  refine h.imp ?_
  intro r q h e
  rw [e, lxb_irr] at h
  exact absurd h (by decide)
theorem PL_nodup (s : Nat) : (PL s).Nodup := sorted_nodup (arr_sorted _ _ (bits_asc s))
/-- the first of all -/
def IsLx (P : List (List Nat)) (r0 : List Nat) : Prop := r0 ∈ P ∧ ∀ r ∈ P, r = r0 ∨ lxb r0 r = true
theorem IsLx_eq {P Q : List (List Nat)} {r q : List Nat} (h1 : IsLx P r) (h2 : IsLx Q q) (e : ∀ z, z ∈ P ↔ z ∈ Q) : r = q := by
  rcases h1.2 q ((e q).mpr h2.1) with h | h
  · exact h.symm
  · rcases h2.2 r ((e r).mp h1.1) with h3 | h3
    · exact h3
    · have := lxb_tr h h3
      rw [lxb_irr] at this
      exact absurd this (by decide)
theorem IsLx_head {a : List Nat} {l : List (List Nat)} (h : (a :: l).Pairwise (fun r q => lxb r q = true)) : IsLx (a :: l) a := by
  refine ⟨by simp, fun r hr => ?_⟩
  rcases List.mem_cons.mp hr with e | e
  · exact Or.inl e
  · exact Or.inr ((List.pairwise_cons.mp h).1 r e)
theorem PL_set {u : Nat} {r : List Nat} (hu : u < 256) (h : r ∈ PL u) : setOf r = u := by
  obtain ⟨i, hi, rfl⟩ := List.getElem_of_mem h
  apply Nat.eq_of_testBit_eq
  intro c
  rw [setOf_bit]
  cases hb : u.testBit c with
  | true =>
    have hc8 : c < 8 := by
      apply Classical.byContradiction
      intro hge
      rw [Nat.testBit_lt_two_pow (Nat.lt_of_lt_of_le (show u < 2 ^ 8 from hu) (Nat.pow_le_pow_right (by decide) (by omega)))] at hb
      exact absurd hb (by decide)
    exact decide_eq_true (PL_all hi (bits_mem.mpr ⟨hc8, hb⟩))
  | false =>
    apply decide_eq_false
    intro hc
    have := (bits_mem.mp ((PL_row hi).2.2 c hc)).2
    rw [hb] at this
    exact absurd this (by decide)
theorem PL_of {r : List Nat} (hn : r.Nodup) (h8 : ∀ c ∈ r, c < 8) : r ∈ PL (setOf r) ∧ (bits (setOf r)).length = r.length := by
  have hm : ∀ c, c ∈ bits (setOf r) ↔ c ∈ r := fun c => by
    rw [bits_mem, setOf_bit]
    constructor
    · intro h; exact of_decide_eq_true h.2
    · intro h; exact ⟨h8 c h, decide_eq_true h⟩
  have hb : (bits (setOf r)).Nodup := (bits_asc _).imp (fun h e => by omega)
  have hl := ((List.perm_ext_iff_of_nodup hb hn).mpr hm).length_eq
  exact ⟨arr_mem.mpr ⟨hl.symm, hn, fun c hc => (hm c).mpr hc⟩, hl⟩
theorem sub_le {u s : Nat} (h : andn u s = 0) : u ≤ s := by
  have e : u &&& s = u := by
    apply Nat.eq_of_testBit_eq
    intro i
    rw [Nat.testBit_and]
    cases hu : u.testBit i
    · rfl
    · rw [andn_sub h hu]; rfl
  rw [← e]
  exact Nat.and_le_right
/-! beside -/
def rndB (L : AL) : Bool := decide (lri L = 1 ∧ 3 ≤ (lhl L).length)
def allB (L : AL) (a b : Nat) : Bool := decide (a = 0 ∧ b = (lhl L).length - 1)
def clB (L : AL) (a b : Nat) : Bool := rndB L && allB L a b
def fiS (L : AL) (a b : Nat) : Nat := if 1 ≤ a then nearS L (gt (lhl L) (a - 1)) else if (rndB L && !allB L a b) = true then nearS L (gt (lhl L) ((lhl L).length - 1)) else 255
def laS (L : AL) (a b : Nat) : Nat := if b + 1 < (lhl L).length then nearS L (gt (lhl L) (b + 1)) else if (rndB L && !allB L a b) = true then nearS L (gt (lhl L) 0) else 255
def othS (L : AL) (a b : Nat) : Nat := mset (lhl L) 0 a ||| mset (lhl L) (b + 1) ((lhl L).length - (b + 1))
theorem near_lt (L : AL) (a : Nat) : nearS L a < 256 := mks_lt _ 8
theorem near_bit {L : AL} {a c : Nat} (hc : c < 8) : (nearS L a).testBit c = tch L a c := by
  unfold nearS; rw [mks_bit]; simp [hc]
theorem fiS_lt (L : AL) (a b : Nat) : fiS L a b < 256 := by
  unfold fiS
  split
  · exact near_lt _ _
  · split
    · exact near_lt _ _
    · decide
theorem laS_lt (L : AL) (a b : Nat) : laS L a b < 256 := by
  unfold laS
  split
  · exact near_lt _ _
  · split
    · exact near_lt _ _
    · decide
theorem hallR {L : AL} (ho : OKL L) {i : Nat} (h : i < (lhl L).length) : gt (lhl L) i < lm L := ho.2.2.2.2.2.2.2.2.2 _ (gt_mem h)
theorem bes_j {y : bq_S} {L : AL} (hc : ML y L) (ho : OKL L) {c a b t : Nat} (hcl : c < lm L) (ha : a ≤ 8) (hb : b ≤ 8) (ht : t ≤ 16) : fX10_isBeside_j33 (nI c) (nI a) (nI b) (nI t) y = some (b2i (decide ((lhl L).length ≤ t) || (decide (a ≤ t ∧ t ≤ b) || mayT L c (gt (lhl L) t))), y) := by
  have h8 := hall8 ho
  have n0 : ¬ nI t < 0 := nI_pos (by omega)
  have h6 : y.1 0 6 = nI (lhl L).length := hc.2.2.1
  unfold fX10_isBeside_j33
  simp only [n0, if_false, h6, wIle (show (lhl L).length < 2 ^ 31 by omega) (show t < 2 ^ 31 by omega), m_in, Option.bind_some, un2, b2i_0, Int32.toInt_toInt64, nI_toInt (show t < 2 ^ 31 by omega), nI_toInt (show a < 2 ^ 31 by omega), nI_toInt (show b < 2 ^ 31 by omega), Int.ofNat_le]
  by_cases c1 : (lhl L).length ≤ t
  · simp [c1, b2i]
  · have h5 : y.1 5 t = nI (gt (lhl L) t) := hc.2.2.2.2.2.2.2.2 t (by omega)
    simp only [c1, if_false, decide_false, Bool.false_or, okN (show t < 8 by omega) (by decide), if_true, cl0 (show t < 2 ^ 31 by omega), h5, m_mayTouch hc ho c _ hcl (hallR ho (show t < (lhl L).length by omega)), Option.bind_some, b2i_0]
    by_cases c2 : a ≤ t ∧ t ≤ b
    · simp [c2, b2i]
    · simp only [c2, decide_false, if_true, Bool.false_or]
      cases mayT L c (gt (lhl L) t) <;> simp [b2i]
theorem bes_m {y : bq_S} (p1 p3 p4 : Int32) : fX10_isBeside_j33 p1 p3 p4 (-1 : Int32) y = some ((1 : Int32), y) := by
  unfold fX10_isBeside_j33
  have : ((-1 : Int32) < 0) := by decide
  rw [if_pos this]
theorem bes_near {L : AL} (ho : OKL L) {c t : Nat} (hcl : c < lm L) (ht : t < (lhl L).length) (hne : c ≠ gt (lhl L) t) : mayT L c (gt (lhl L) t) = (nearS L (gt (lhl L) t)).testBit c := by
  have := ho.1
  rw [near_bit (by omega), tch_sym ho, tch_may hcl (hallR ho ht) hne]
theorem m_besF {y : bq_S} {L : AL} (hc : ML y L) (ho : OKL L) {c a b : Nat} (hcl : c < lm L) (hab : a ≤ b) (hb : b < (lhl L).length) (hd : ∀ j, j < (lhl L).length → ¬ (a ≤ j ∧ j ≤ b) → c ≠ gt (lhl L) j) : fX10_isBeside (nI c) (nI a - 1) (nI a) (nI b) y = some (b2i ((fiS L a b).testBit c), y) := by
  have h8 := hall8 ho
  have hm := ho.1
  have h6 : y.1 0 6 = nI (lhl L).length := hc.2.2.1
  have h7 : y.1 4 (0 : Int32).toNatClampNeg = nI (lri L) := hc.2.2.2.2.2.2.1
  have e1 : (nI (lri L) = (1 : Int32)) = (lri L = 1) := wIeq (b := 1) (by have := ho.2.2.2.2.2.2.1; omega) (by decide)
  have e2 : (nI (lhl L).length ≤ (2 : Int32)) = ((lhl L).length ≤ 2) := wIle (b := 2) (by omega) (by decide)
  have n0 : ¬ nI (lhl L).length = 0 := nI_ne0 (by omega) (by omega)
  have ei : nI a - 1 + nI (lhl L).length = nI (a + (lhl L).length - 1) := by
    have : ∀ a : Fin 9, ∀ k : Fin 9, 1 ≤ k.val → nI a.val - 1 + nI k.val = nI (a.val + k.val - 1) := by decide
    exact this ⟨a, by omega⟩ ⟨(lhl L).length, by omega⟩ (by show 1 ≤ (lhl L).length; omega)
  have rem : nI (a + (lhl L).length - 1) - nI (a + (lhl L).length - 1) / nI (lhl L).length * nI (lhl L).length = nI ((a + (lhl L).length - 1) % (lhl L).length) := pk_rem (by omega) (by omega) (by omega)
  unfold fX10_isBeside
  simp only [h7, e1, h6, e2, n0, not_false_eq_true, if_true, ei, rem]
  have plain : rndB L = false → fX10_isBeside_j33 (nI c) (nI a) (nI b) (nI a - 1) y = some (b2i ((fiS L a b).testBit c), y) := by
    intro hr
    by_cases c0 : 1 ≤ a
    · rw [nI_m (by omega), bes_j hc ho hcl (by omega) (by omega) (by omega)]
      unfold fiS
      have n1 : ¬ (lhl L).length ≤ a - 1 := by omega
      have n2 : ¬ (a ≤ a - 1 ∧ a - 1 ≤ b) := by omega
      rw [if_pos c0, ← bes_near ho hcl (by omega) (hd (a - 1) (by omega) n2)]
      simp only [n1, n2, decide_false, Bool.false_or]
    · have ea : a = 0 := by omega
      subst ea
      have : nI 0 - 1 = (-1 : Int32) := by decide
      rw [this, bes_m]
      unfold fiS
      rw [if_neg c0, hr]
      rw [show (false && !allB L 0 b) = false from rfl, if_neg (by decide), b255 (by omega)]; rfl
  by_cases c1 : lri L = 1
  · rw [if_pos c1]
    by_cases c2 : (lhl L).length ≤ 2
    · rw [if_pos c2]
      exact plain (decide_eq_false (by omega))
    · rw [if_neg c2]
      have hr : rndB L = true := decide_eq_true ⟨c1, by omega⟩
      by_cases c0 : 1 ≤ a
      · have em : (a + (lhl L).length - 1) % (lhl L).length = a - 1 := by
          rw [show a + (lhl L).length - 1 = (a - 1) + (lhl L).length by omega, Nat.add_mod_right, Nat.mod_eq_of_lt (by omega)]
        rw [em, bes_j hc ho hcl (by omega) (by omega) (by omega)]
        unfold fiS
        have n1 : ¬ (lhl L).length ≤ a - 1 := by omega
        have n2 : ¬ (a ≤ a - 1 ∧ a - 1 ≤ b) := by omega
        rw [if_pos c0, ← bes_near ho hcl (by omega) (hd (a - 1) (by omega) n2)]
        simp only [n1, n2, decide_false, Bool.false_or]
      · have ea : a = 0 := by omega
        subst ea
        have em : (0 + (lhl L).length - 1) % (lhl L).length = (lhl L).length - 1 := by
          rw [Nat.zero_add, Nat.mod_eq_of_lt (by omega)]
        rw [em, bes_j hc ho hcl (by omega) (by omega) (by omega)]
        unfold fiS
        rw [if_neg c0, hr]
        have n1 : ¬ (lhl L).length ≤ (lhl L).length - 1 := by omega
        by_cases c3 : b = (lhl L).length - 1
        · have hA : allB L 0 b = true := decide_eq_true ⟨rfl, c3⟩
          have n2 : (0 ≤ (lhl L).length - 1 ∧ (lhl L).length - 1 ≤ b) := by omega
          rw [hA, if_neg (by decide), b255 (by omega)]
          simp [n2]
        · have hA : allB L 0 b = false := decide_eq_false (fun h => c3 h.2)
          have n2 : ¬ (0 ≤ (lhl L).length - 1 ∧ (lhl L).length - 1 ≤ b) := by omega
          rw [hA, show (true && !false) = true from rfl, if_pos rfl, ← bes_near ho hcl (by omega) (hd _ (by omega) n2)]
          have n3 : ¬ (lhl L).length - 1 ≤ b := by omega
          simp only [n1, decide_false, Bool.false_or, Nat.zero_le, true_and, n3]
  · rw [if_neg c1]
    exact plain (decide_eq_false (fun h => c1 h.1))
theorem m_besL {y : bq_S} {L : AL} (hc : ML y L) (ho : OKL L) {c a b : Nat} (hcl : c < lm L) (hab : a ≤ b) (hb : b < (lhl L).length) (hd : ∀ j, j < (lhl L).length → ¬ (a ≤ j ∧ j ≤ b) → c ≠ gt (lhl L) j) : fX10_isBeside (nI c) (nI (b + 1)) (nI a) (nI b) y = some (b2i ((laS L a b).testBit c), y) := by
  have h8 := hall8 ho
  have hm := ho.1
  have h6 : y.1 0 6 = nI (lhl L).length := hc.2.2.1
  have h7 : y.1 4 (0 : Int32).toNatClampNeg = nI (lri L) := hc.2.2.2.2.2.2.1
  have e1 : (nI (lri L) = (1 : Int32)) = (lri L = 1) := wIeq (b := 1) (by have := ho.2.2.2.2.2.2.1; omega) (by decide)
  have e2 : (nI (lhl L).length ≤ (2 : Int32)) = ((lhl L).length ≤ 2) := wIle (b := 2) (by omega) (by decide)
  have n0 : ¬ nI (lhl L).length = 0 := nI_ne0 (by omega) (by omega)
  have rem : nI (b + 1 + (lhl L).length) - nI (b + 1 + (lhl L).length) / nI (lhl L).length * nI (lhl L).length = nI ((b + 1 + (lhl L).length) % (lhl L).length) := pk_rem (by omega) (by omega) (by omega)
  unfold fX10_isBeside
  simp only [h7, e1, h6, e2, n0, not_false_eq_true, if_true, nI_add, rem]
  have inn : b + 1 < (lhl L).length → fX10_isBeside_j33 (nI c) (nI a) (nI b) (nI (b + 1)) y = some (b2i ((laS L a b).testBit c), y) := by
    intro c0
    rw [bes_j hc ho hcl (by omega) (by omega) (by omega)]
    unfold laS
    have n1 : ¬ (lhl L).length ≤ b + 1 := by omega
    have n2 : ¬ (a ≤ b + 1 ∧ b + 1 ≤ b) := by omega
    rw [if_pos c0, ← bes_near ho hcl c0 (hd (b + 1) c0 n2)]
    simp only [n1, n2, decide_false, Bool.false_or]
  have plain : rndB L = false → fX10_isBeside_j33 (nI c) (nI a) (nI b) (nI (b + 1)) y = some (b2i ((laS L a b).testBit c), y) := by
    intro hr
    by_cases c0 : b + 1 < (lhl L).length
    · exact inn c0
    · rw [bes_j hc ho hcl (by omega) (by omega) (by omega)]
      unfold laS
      have n1 : (lhl L).length ≤ b + 1 := by omega
      rw [if_neg c0, hr, show (false && !allB L a b) = false from rfl, if_neg (by decide), b255 (by omega)]
      simp only [n1, decide_true, Bool.true_or]
  by_cases c1 : lri L = 1
  · rw [if_pos c1]
    by_cases c2 : (lhl L).length ≤ 2
    · rw [if_pos c2]
      exact plain (decide_eq_false (by omega))
    · rw [if_neg c2]
      have hr : rndB L = true := decide_eq_true ⟨c1, by omega⟩
      rw [Nat.add_mod_right]
      by_cases c0 : b + 1 < (lhl L).length
      · rw [Nat.mod_eq_of_lt c0]
        exact inn c0
      · have eb : b + 1 = (lhl L).length := by omega
        rw [eb, Nat.mod_self, bes_j hc ho hcl (by omega) (by omega) (by omega)]
        unfold laS
        rw [if_neg c0, hr]
        have n1 : ¬ (lhl L).length ≤ 0 := by omega
        by_cases c3 : a = 0
        · have hA : allB L a b = true := decide_eq_true ⟨c3, by omega⟩
          have n2 : (a ≤ 0 ∧ 0 ≤ b) := by omega
          rw [hA, if_neg (by decide), b255 (by omega)]
          simp only [n2, and_self, decide_true, Bool.true_or, Bool.or_true]
        · have hA : allB L a b = false := decide_eq_false (fun h => c3 h.1)
          have n2 : ¬ (a ≤ 0 ∧ 0 ≤ b) := by omega
          rw [hA, show (true && !false) = true from rfl, if_pos rfl, ← bes_near ho hcl (by omega) (hd _ (by omega) n2)]
          simp only [n1, n2, decide_false, Bool.false_or]
  · rw [if_neg c1]
    exact plain (decide_eq_false (fun h => c1 h.1))
/-! the class beside -/
theorem isB_pred {m a : Nat} (ha : a ≤ m) (hm : m ≤ 8) : isB m (nI a - 1) = decide (1 ≤ a) := by
  by_cases c : 1 ≤ a
  · rw [nI_m (by omega), isB_n (by omega)]
    have : a - 1 < m := by omega
    simp [this, c]
  · have : a = 0 := by omega
    subst this
    have e : nI 0 - 1 = (-1 : Int32) := by decide
    rw [e]
    unfold isB
    have : ((-1 : Int32)).toInt = -1 := by decide
    rw [this]
    simp
theorem s_besF {x : bq_S} {L : AL} (hc : CL x 1 L) (hN : NR x 1 L) (ho : OKL L) {a b : Nat} (hab : a ≤ b) (hb : b < (lhl L).length) : fX0_besides (nI a - 1) (b2i (rndB L && !allB L a b)) x = some (nI (fiS L a b), x) := by
  have h8 := hall8 ho
  have hm := ho.1
  have h2 : x.1 1 2 = nI (lhl L).length := hc.2.2.1
  have h6 : ∀ t, t < (lhl L).length → x.1 6 t = nI (gt (lhl L) t) := fun t ht => hc.2.2.2.2.2.2.2.2 t ht
  have h7 : ∀ t, t < (lhl L).length → x.1 7 (gt (lhl L) t) = nI (nearS L (gt (lhl L) t)) := fun t ht => hN _ (by have := hallR ho ht; omega)
  unfold fX0_besides
  simp only [bd, s_isPlace hc ho, isBl_32, isB_pred (show a ≤ (lhl L).length by omega) h8, Option.bind_some, un2, b2i_0]
  unfold fiS
  by_cases c0 : 1 ≤ a
  · have hg := hallR ho (show a - 1 < (lhl L).length by omega)
    simp only [c0, decide_true, Bool.true_eq_false, if_false, if_true, nI_m (show 0 < a by omega), okN (show a - 1 < 8 by omega) (by decide), cl0 (show a - 1 < 2 ^ 31 by omega), h6 (a - 1) (by omega), okN (show gt (lhl L) (a - 1) < 8 by omega) (by decide), cl0 (show gt (lhl L) (a - 1) < 2 ^ 31 by omega), h7 (a - 1) (by omega)]
  · have ea : a = 0 := by omega
    subst ea
    have e : nI 0 - 1 = (-1 : Int32) := by decide
    have n1 : ¬ (0 : Int32) ≤ (-1 : Int32) := by decide
    have hg := hallR ho (show (lhl L).length - 1 < (lhl L).length by omega)
    simp only [c0, decide_false, if_true, if_false, e, n1, h2, nI_m (show 0 < (lhl L).length by omega), okN (show (lhl L).length - 1 < 8 by omega) (by decide), cl0 (show (lhl L).length - 1 < 2 ^ 31 by omega), h6 ((lhl L).length - 1) (by omega), okN (show gt (lhl L) ((lhl L).length - 1) < 8 by omega) (by decide), cl0 (show gt (lhl L) ((lhl L).length - 1) < 2 ^ 31 by omega), h7 ((lhl L).length - 1) (by omega)]
    cases (rndB L && !allB L 0 b)
    · rw [if_pos rfl, if_neg (by decide)]; rfl
    · rw [if_neg (by decide), if_pos rfl]
theorem s_besL {x : bq_S} {L : AL} (hc : CL x 1 L) (hN : NR x 1 L) (ho : OKL L) {a b : Nat} (hab : a ≤ b) (hb : b < (lhl L).length) : fX0_besides (nI (b + 1)) (b2i (rndB L && !allB L a b)) x = some (nI (laS L a b), x) := by
  have h8 := hall8 ho
  have hm := ho.1
  have h6 : ∀ t, t < (lhl L).length → x.1 6 t = nI (gt (lhl L) t) := fun t ht => hc.2.2.2.2.2.2.2.2 t ht
  have h7 : ∀ t, t < (lhl L).length → x.1 7 (gt (lhl L) t) = nI (nearS L (gt (lhl L) t)) := fun t ht => hN _ (by have := hallR ho ht; omega)
  unfold fX0_besides
  simp only [bd, s_isPlace hc ho, isBl_32, isB_n (show b + 1 < 2 ^ 31 by omega), Option.bind_some, un2, b2i_0]
  unfold laS
  by_cases c0 : b + 1 < (lhl L).length
  · have hg := hallR ho c0
    simp only [c0, decide_true, Bool.true_eq_false, if_false, if_true, okN (show b + 1 < 8 by omega) (by decide), cl0 (show b + 1 < 2 ^ 31 by omega), h6 (b + 1) c0, okN (show gt (lhl L) (b + 1) < 8 by omega) (by decide), cl0 (show gt (lhl L) (b + 1) < 2 ^ 31 by omega), h7 (b + 1) c0]
  · have p1 : (0 : Int32) ≤ nI (b + 1) := nI_pos' (by omega)
    have c00 : (0 : Int32).toNatClampNeg = 0 := rfl
    have hg := hallR ho (show 0 < (lhl L).length by omega)
    simp only [c0, decide_false, if_true, if_false, p1, c00, h6 0 (by omega), okN (show gt (lhl L) 0 < 8 by omega) (by decide), cl0 (show gt (lhl L) 0 < 2 ^ 31 by omega), h7 0 (by omega)]
    cases (rndB L && !allB L a b)
    · rw [if_pos rfl, if_neg (by decide)]; rfl
    · rw [if_neg (by decide), if_pos rfl]
theorem s_askBurnt {x : bq_S} {L : AL} (hc : CL x 1 L) (hN : NR x 1 L) (ho : OKL L) {a b s n : Nat} (th : Int32) (hab : a ≤ b) (hb : b < (lhl L).length) (hs : s < 2 ^ lm L) (hn : 20 ≤ n) : ∃ x1, fX0_askBurnt n (nI a) (nI b) (nI s) th x = some x1 ∧ CW x1 L (andn s (othS L a b)) (b - a + 1) (clB L a b) (fiS L a b) (laS L a b) th ∧ (∀ c, c ≠ 26 → x1.1 c = x.1 c) ∧ x1.2 = x.2 := by
  have h8 := hall8 ho
  have hm := ho.1
  have h2 : x.1 1 2 = nI (lhl L).length := hc.2.2.1
  have hcl : fX4_closes 1 (nI (lhl L).length) x = some (b2i (rndB L), x) := s_closes hc ho (lhl L).length (by omega)
  have hA : fX0_askBurnt n (nI a) (nI b) (nI s) th x = fX0_askBurnt_j37 n (nI a) (nI b) (nI s) th (nI (lhl L).length) (b2i (rndB L)) (b2i (allB L a b)) x := by
    unfold fX0_askBurnt
    have ea : (nI a = (0 : Int32)) = (a = 0) := nI_zero (by omega)
    have eb : (nI b = nI ((lhl L).length - 1)) = (b = (lhl L).length - 1) := wIeq (by omega) (by omega)
    simp only [bd, h2, hcl, Option.bind_some, un2, ea, nI_m (show 0 < (lhl L).length by omega), eb]
    unfold allB
    by_cases c1 : a = 0
    · rw [if_pos c1]
      by_cases c2 : b = (lhl L).length - 1
      · rw [if_pos c2]; simp [c1, c2, b2i]
      · rw [if_neg c2]; simp [c2, b2i]
    · rw [if_neg c1]; simp [c1, b2i]
  have hR : CRow x (1 + 5) (lhl L) := hc.2.2.2.2.2.2.2.2
  have s1 : fX4_setAt n 1 (nI 0) (nI a) x = some (nI (mset (lhl L) 0 (a - 0)), x) := s_setAt h8 (hall_lt8 ho) hR hn (by omega) (by omega)
  have s2 : fX4_setAt n 1 (nI (b + 1)) (nI (lhl L).length) x = some (nI (mset (lhl L) (b + 1) ((lhl L).length - (b + 1))), x) := s_setAt h8 (hall_lt8 ho) hR hn (by omega) (by omega)
  rw [Nat.sub_zero] at s1
  have hB : fX0_askBurnt_j37 n (nI a) (nI b) (nI s) th (nI (lhl L).length) (b2i (rndB L)) (b2i (allB L a b)) x = fX0_askBurnt_j90 n (nI a) (nI b) th (b2i (rndB L)) (b2i (allB L a b)) (nI (andn s (othS L a b))) (nI (b - a + 1)) (b2i (clB L a b)) x := by
    have s1' : fX4_setAt n 1 (0 : Int32) (nI a) x = some (nI (mset (lhl L) 0 a), x) := s1
    have es : nI b - nI a = nI (b - a) := pk_sub hab
    unfold fX0_askBurnt_j37
    simp only [s1', Option.bind_some, un2, nI_1, s2, bd, wI_or, wI_andn, es, b2i_0]
    unfold clB othS
    cases rndB L <;> cases allB L a b <;> rfl
  have f0 : ∀ (z : bq_S), (∀ c, c ≠ 26 → z.1 c = x.1 c) → CL z 1 L ∧ NR z 1 L := fun z hz => ⟨CL_of (fun c a b => hz c (by omega)) hc, NR_of (hz 7 (by decide)) hN⟩
  let xa := bq_sI (bq_sI (bq_sI x 26 2 (nI (andn s (othS L a b)))) 26 3 (nI (b - a + 1))) 26 5 (b2i (clB L a b))
  have fa : ∀ c, c ≠ 26 → xa.1 c = x.1 c := fun c h => by show (bq_sI (bq_sI (bq_sI x 26 2 _) 26 3 _) 26 5 _).1 c = _; rw [sI_n _ _ _ h, sI_n _ _ _ h, sI_n _ _ _ h]
  let xb := bq_sI xa 26 6 (nI (fiS L a b))
  have fb : ∀ c, c ≠ 26 → xb.1 c = x.1 c := fun c h => by show (bq_sI xa 26 6 _).1 c = _; rw [sI_n _ _ _ h]; exact fa c h
  have hask : fX8X0_ask (nI (andn s (othS L a b))) (nI (b - a + 1)) (b2i (clB L a b)) x = some xa := by
    unfold fX8X0_ask
    simp only [bd, b2i_01, if_true]
    rfl
  have hF := s_besF (f0 xa fa).1 (f0 xa fa).2 ho hab hb
  have hL := s_besL (f0 xb fb).1 (f0 xb fb).2 ho hab hb
  have hD : fX0_askBurnt_j139 n th (nI (b + 1)) (b2i (rndB L && !allB L a b)) xb = some (bq_sI (bq_sI xb 26 7 (nI (laS L a b))) 26 8 th) := by
    unfold fX0_askBurnt_j139
    simp only [hL, Option.bind_some, un2, bd]
  have hC : fX0_askBurnt_j90 n (nI a) (nI b) th (b2i (rndB L)) (b2i (allB L a b)) (nI (andn s (othS L a b))) (nI (b - a + 1)) (b2i (clB L a b)) x = some (bq_sI (bq_sI xb 26 7 (nI (laS L a b))) 26 8 th) := by
    have hE : fX0_askBurnt_j113 n (nI b) th (b2i (rndB L)) (b2i (allB L a b)) (nI a - 1) (b2i (rndB L && !allB L a b)) xa = some (bq_sI (bq_sI xb 26 7 (nI (laS L a b))) 26 8 th) := by
      rw [← hD]
      unfold fX0_askBurnt_j113
      simp only [hF, Option.bind_some, un2, bd, b2i_0, nI_1]
      show _ = fX0_askBurnt_j139 n th (nI (b + 1)) (b2i (rndB L && !allB L a b)) (bq_sI xa 26 6 (nI (fiS L a b)))
      cases rndB L <;> cases allB L a b <;> rfl
    rw [← hE]
    unfold fX0_askBurnt_j90
    simp only [hask, Option.bind_some, b2i_0]
    cases rndB L <;> cases allB L a b <;> rfl
  refine ⟨bq_sI (bq_sI xb 26 7 (nI (laS L a b))) 26 8 th, by rw [hA, hB, hC], ?_, fun c hc => ?_, rfl⟩
  · have hz : ∀ c, c ≠ 26 → (bq_sI (bq_sI xb 26 7 (nI (laS L a b))) 26 8 th).1 c = x.1 c := fun c h => by rw [sI_n _ _ _ h, sI_n _ _ _ h]; exact fb c h
    refine ⟨(f0 _ hz).1, (f0 _ hz).2, ?_, ?_, ?_, ?_, ?_, ?_⟩
    · rw [sI_s, pk_un (by decide), sI_s, pk_un (by decide)]
      show (bq_sI xa 26 6 _).1 26 2 = _
      rw [sI_s, pk_un (by decide)]
      show (bq_sI (bq_sI (bq_sI x 26 2 _) 26 3 _) 26 5 _).1 26 2 = _
      rw [sI_s, pk_un (by decide), sI_s, pk_un (by decide), sI_s, pk_us]
    · rw [sI_s, pk_un (by decide), sI_s, pk_un (by decide)]
      show (bq_sI xa 26 6 _).1 26 3 = _
      rw [sI_s, pk_un (by decide)]
      show (bq_sI (bq_sI (bq_sI x 26 2 _) 26 3 _) 26 5 _).1 26 3 = _
      rw [sI_s, pk_un (by decide), sI_s, pk_us]
    · rw [sI_s, pk_un (by decide), sI_s, pk_un (by decide)]
      show (bq_sI xa 26 6 _).1 26 5 = _
      rw [sI_s, pk_un (by decide)]
      show (bq_sI (bq_sI (bq_sI x 26 2 _) 26 3 _) 26 5 _).1 26 5 = _
      rw [sI_s, pk_us]
    · rw [sI_s, pk_un (by decide), sI_s, pk_un (by decide)]
      show (bq_sI xa 26 6 _).1 26 6 = _
      rw [sI_s, pk_us]
    · rw [sI_s, pk_un (by decide), sI_s, pk_us]
    · rw [sI_s, pk_us]
  · rw [sI_n _ _ _ hc, sI_n _ _ _ hc]; exact fb c hc
