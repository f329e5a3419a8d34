/-! ===== step cut ===== -/
theorem low_bit {l : Nat} (h : l < 256) (h0 : l ≠ 0) : ∃ j, j < 8 ∧ nI l &&& (-(nI l)) = nI (2 ^ j) ∧ l.testBit j = true ∧ ∀ i, i < j → l.testBit i = false := by
  have : ∀ l : Fin 256, l.val ≠ 0 → ∃ j : Fin 8, nI l.val &&& (-(nI l.val)) = nI (2 ^ j.val) ∧ l.val.testBit j.val = true ∧ ∀ i : Fin 8, i.val < j.val → l.val.testBit i.val = false := by decide +kernel
  obtain ⟨j, h1, h2, h3⟩ := this ⟨l, h⟩ h0
  exact ⟨j.val, j.isLt, h1, h2, fun i hi => h3 ⟨i, by omega⟩ hi⟩
/-- one round of the reference's growing, in what is left -/
def gstep (L : AL) (l C a : Nat) : Nat → Nat
  | 0 => C
  | k + 1 => if a ≠ k ∧ (gstep L l C a k).testBit a = true ∧ l.testBit k = true ∧ tch L a k = true then gstep L l C a k ||| 2 ^ k else gstep L l C a k
theorem gstep_bit (L : AL) (l C a i : Nat) : ∀ k, (gstep L l C a k).testBit i = true ↔ C.testBit i = true ∨ (i < k ∧ C.testBit a = true ∧ l.testBit i = true ∧ tch L a i = true)
  | 0 => by
    constructor
    · intro h; exact Or.inl h
    · rintro (h | ⟨h, _⟩)
      · exact h
      · omega
  | k + 1 => by
    have haa : ((gstep L l C a k).testBit a = true) ↔ C.testBit a = true := by
      rw [gstep_bit L l C a a k]
      constructor
      · rintro (h | ⟨_, h, _⟩) <;> exact h
      · intro h; exact Or.inl h
    unfold gstep
    by_cases c : a ≠ k ∧ (gstep L l C a k).testBit a = true ∧ l.testBit k = true ∧ tch L a k = true
    · rw [if_pos c, Nat.testBit_or, Bool.or_eq_true, gstep_bit L l C a i k, Nat.testBit_two_pow, decide_eq_true_iff]
      obtain ⟨c1, c2, c3, c4⟩ := c
      rw [haa] at c2
      constructor
      · rintro ((h | ⟨h, h1⟩) | e)
        · exact Or.inl h
        · exact Or.inr ⟨by omega, h1⟩
        · subst e; exact Or.inr ⟨by omega, c2, c3, c4⟩
      · rintro (h | ⟨h, h1⟩)
        · exact Or.inl (Or.inl h)
        · by_cases e : i = k
          · exact Or.inr e.symm
          · exact Or.inl (Or.inr ⟨by omega, h1⟩)
    · rw [if_neg c, gstep_bit L l C a i k]
      constructor
      · rintro (h | ⟨h, h1⟩)
        · exact Or.inl h
        · exact Or.inr ⟨by omega, h1⟩
      · rintro (h | ⟨h, h1, h2, h3⟩)
        · exact Or.inl h
        · by_cases e : i = k
          · subst e
            by_cases ea : a = i
            · subst ea; exact Or.inl h1
            · exact absurd ⟨ea, haa.mpr h1, h2, h3⟩ c
          · exact Or.inr ⟨by omega, h1, h2, h3⟩
theorem gstep_lt {L : AL} {l C a m : Nat} (hC : C < 2 ^ m) : ∀ k, k ≤ m → gstep L l C a k < 2 ^ m
  | 0, _ => hC
  | k + 1, h => by
    unfold gstep
    split
    · exact lt_or_two (gstep_lt hC k (by omega)) (by omega)
    · exact gstep_lt hC k (by omega)
def gall (L : AL) (l C : Nat) : Nat → Nat
  | 0 => C
  | k + 1 => gstep L l (gall L l C k) k (lm L)
theorem gall_lt {L : AL} {l C : Nat} (hC : C < 2 ^ lm L) : ∀ k, gall L l C k < 2 ^ lm L
  | 0 => hC
  | k + 1 => gstep_lt (gall_lt hC k) (lm L) (Nat.le_refl _)
theorem gall_sub {L : AL} {l C i : Nat} (h : C.testBit i = true) : ∀ k, (gall L l C k).testBit i = true
  | 0 => h
  | k + 1 => (gstep_bit _ _ _ _ _ _).mpr (Or.inl (gall_sub h k))
theorem gall_new {L : AL} {l C i : Nat} (hil : i < lm L) (hl : l.testBit i = true) {a : Nat} (ha : C.testBit a = true) (ht : tch L a i = true) : ∀ k, a < k → (gall L l C k).testBit i = true
  | 0, h => by omega
  | k + 1, h => by
    by_cases e : a = k
    · subst e
      exact (gstep_bit _ _ _ _ _ _).mpr (Or.inr ⟨hil, gall_sub ha a, hl, ht⟩)
    · exact (gstep_bit _ _ _ _ _ _).mpr (Or.inl (gall_new hil hl ha ht k (by omega)))
theorem gall_in {L : AL} {l C D : Nat} (hD : Cl L l D) (hC : ∀ i, C.testBit i = true → D.testBit i = true) : ∀ k i, (gall L l C k).testBit i = true → D.testBit i = true
  | 0, i, h => hC i h
  | k + 1, i, h => by
    rcases (gstep_bit _ _ _ _ _ _).mp h with h1 | ⟨_, h1, h2, h3⟩
    · exact gall_in hD hC k i h1
    · exact hD k i (gall_in hD hC k k h1) h2 h3
theorem m_gstep {y : bq_S} {L : AL} (hc : ML y L) (ho : OKL L) {n l C a : Nat} (u1 u2 : Int32) (hn : 20 ≤ n) (hl : l < 2 ^ lm L) (hC : C < 2 ^ lm L) (ha : a < lm L) : wh n (fX10_partsOf_b43 n (nI l) u1 u2 (nI a)) (nI C, (0 : Int32), y) = some (nI (gstep L l C a (lm L)), nI (lm L), y) := by
  have h8 := ho.1
  have h0 : y.1 0 0 = nI (lm L) := hc.1
  obtain ⟨z, hz, rfl⟩ := wh_for (b := fX10_partsOf_b43 n (nI l) u1 u2 (nI a)) (fun i z => z = (nI (gstep L l C a i), nI i, y)) (fun z => z = (nI (gstep L l C a (lm L)), nI (lm L), y)) (lm L) (by
    rintro i _ hi rfl
    have n1 : ¬ lm L ≤ i := by omega
    have hg := gstep_lt (L := L) (l := l) (a := a) hC i (by omega)
    have hg31 : gstep L l C a i < 2 ^ 31 := p8_31 h8 hg
    have hl31 : l < 2 ^ 31 := p8_31 h8 hl
    refine Or.inl ⟨_, ?_, rfl⟩
    have eg : gstep L l C a (i + 1) = if a ≠ i ∧ (gstep L l C a i).testBit a = true ∧ l.testBit i = true ∧ tch L a i = true then gstep L l C a i ||| 2 ^ i else gstep L l C a i := rfl
    rw [eg]
    have j96 : ∀ v : Bool, fX10_partsOf_j96 n (nI l) u1 (nI (gstep L l C a i)) u2 (nI a) (nI i) (b2i v) y = some (.inl (nI (if v then gstep L l C a i ||| 2 ^ i else gstep L l C a i), nI (i + 1), y)) := by
      intro v
      unfold fX10_partsOf_j96
      simp only [b2i_0, bd, wor_0, nI_1, wI_sh (show i < 31 by omega), wI_or]
      cases v
      · rw [if_pos rfl]; rfl
      · rw [if_neg (by decide)]; rfl
    have z0 : (0 : Int32) = b2i false := rfl
    have z1 : (1 : Int32) = b2i true := rfl
    unfold fX10_partsOf_b43
    simp only [un3, h0, wIle (show lm L < 2 ^ 31 by omega) (show i < 2 ^ 31 by omega), n1, if_false, wIeq (show a < 2 ^ 31 by omega) (show i < 2 ^ 31 by omega), wI_bit hg31 (show a < 31 by omega), wI_bit hl31 (show i < 31 by omega), b2i_1, m_mayTouch hc ho a i ha hi, Option.bind_some, un2, b2i_0]
    rw [z0, z1, j96, j96]
    by_cases c1 : a = i
    · have hn1 : ¬ (a ≠ i ∧ (gstep L l C a i).testBit a = true ∧ l.testBit i = true ∧ tch L a i = true) := fun h => h.1 c1
      rw [if_pos c1, if_neg hn1]; rfl
    · rw [if_neg c1, ← tch_may ha hi c1]
      cases c2 : (gstep L l C a i).testBit a
      · simp
      · cases c3 : l.testBit i
        · simp
        · cases c4 : tch L a i
          · simp
          · simp [c1]) (by
    rintro _ rfl
    refine ⟨_, ?_, rfl⟩
    unfold fX10_partsOf_b43
    simp only [un3, h0, Int32.le_refl, if_true]) n 0 (nI C, (0 : Int32), y) (by omega) rfl (by omega)
  exact hz
theorem m_gall {y : bq_S} {L : AL} (hc : ML y L) (ho : OKL L) {n l C : Nat} (u1 u2 : Int32) (hn : 20 ≤ n) (hl : l < 2 ^ lm L) (hC : C < 2 ^ lm L) : wh n (fX10_partsOf_b31 n (nI l) u1 u2) (nI C, (0 : Int32), y) = some (nI (gall L l C (lm L)), nI (lm L), y) := by
  have h8 := ho.1
  have h0 : y.1 0 0 = nI (lm L) := hc.1
  obtain ⟨z, hz, rfl⟩ := wh_for (b := fX10_partsOf_b31 n (nI l) u1 u2) (fun i z => z = (nI (gall L l C i), nI i, y)) (fun z => z = (nI (gall L l C (lm L)), nI (lm L), y)) (lm L) (by
    rintro i _ hi rfl
    have n1 : ¬ lm L ≤ i := by omega
    refine Or.inl ⟨_, ?_, rfl⟩
    unfold fX10_partsOf_b31
    simp only [un3, h0, wIle (show lm L < 2 ^ 31 by omega) (show i < 2 ^ 31 by omega), n1, if_false, m_gstep hc ho u1 u2 hn hl (gall_lt hC i) hi, Option.bind_some, bd, nI_1]
    rfl) (by
    rintro _ rfl
    refine ⟨_, ?_, rfl⟩
    unfold fX10_partsOf_b31
    simp only [un3, h0, Int32.le_refl, if_true]) n 0 (nI C, (0 : Int32), y) (by omega) rfl (by omega)
  exact hz
theorem m_part {y : bq_S} {L : AL} (hc : ML y L) (ho : OKL L) {n l j : Nat} (u1 : Int32) (hn : 20 ≤ n) (hl : l < 2 ^ lm L) (hj : l.testBit j = true) : ∃ w, wh n (fX10_partsOf_b17 n (nI l) u1) (nI (2 ^ j), (0 : Int32), y) = some (nI (cmp L l j), w, y) := by
  have h8 := ho.1
  have hl256 := p8_256 h8 hl
  have hj8 := tb8 hl256 hj
  have hjm : j < lm L := by
    apply Classical.byContradiction
    intro hge
    rw [Nat.testBit_lt_two_pow (Nat.lt_of_lt_of_le hl (Nat.pow_le_pow_right (by decide) (by omega)))] at hj
    exact absurd hj (by decide)
  have hk := cmp_ok (L := L) hl256 hj8
  obtain ⟨z, hz, h1, h2⟩ := wh_for (b := fX10_partsOf_b17 n (nI l) u1) (fun i z => ∃ C W, z = (nI C, nI W, y) ∧ C < 2 ^ lm L ∧ W < 256 ∧ C.testBit j = true ∧ (∀ k, C.testBit k = true → (cmp L l j).testBit k = true) ∧ (∀ k, W.testBit k = true → C.testBit k = true) ∧ (∀ a c, W.testBit a = true → l.testBit c = true → tch L a c = true → C.testBit c = true) ∧ i ≤ pc W) (fun z => z.1 = nI (cmp L l j) ∧ z.2.2 = y) 9 (by
    rintro i _ hi ⟨C, W, rfl, c1, c2, c3, c4, c5, c6, c7⟩
    have hC256 := p8_256 h8 c1
    have ee : (nI C = nI W) = (C = W) := wIeq (by omega) (by omega)
    have hbody : fX10_partsOf_b17 n (nI l) u1 (nI C, nI W, y) = if C = W then some (.inr (nI C, nI W, y)) else some (.inl (nI (gall L l C (lm L)), nI C, y)) := by
      unfold fX10_partsOf_b17
      simp only [un3, ee, m_gall hc ho u1 (nI C) hn hl c1, Option.bind_some]
    by_cases c : C = W
    · rw [if_pos c] at hbody
      refine Or.inr ⟨_, hbody, ?_, rfl⟩
      dsimp only
      congr 1
      refine sub_eq c4 (hk.2.2.2 C hC256 c3 (fun a d ha hd ht => c6 a d (by rw [← c]; exact ha) hd ht))
    · rw [if_neg c] at hbody
      refine Or.inl ⟨_, hbody, gall L l C (lm L), C, rfl, gall_lt c1 _, hC256, gall_sub c3 _, fun k hk2 => gall_in hk.2.2.1 c4 _ k hk2, fun k hk2 => gall_sub hk2 _, fun a d ha hd ht => ?_, ?_⟩
      · have hlt : ∀ {u k : Nat}, u < 2 ^ lm L → u.testBit k = true → k < lm L := fun {u k} hu hb => by
          apply Classical.byContradiction
          intro hge
          rw [Nat.testBit_lt_two_pow (Nat.lt_of_lt_of_le hu (Nat.pow_le_pow_right (by decide) (by omega)))] at hb
          exact absurd hb (by decide)
        exact gall_new (hlt hl hd) hd ha ht (lm L) (hlt c1 ha)
      · have := pc_slt hC256 c5 (fun e => c e.symm)
        omega) (by
    rintro _ ⟨C, W, rfl, c1, c2, c3, c4, c5, c6, c7⟩
    have := pc_le W
    omega) n 0 (nI (2 ^ j), (0 : Int32), y) (by omega) ⟨2 ^ j, 0, rfl, Nat.pow_lt_pow_right (by decide) hjm, by decide, (pc_two hj8).2.2, fun k hk2 => by
      rw [Nat.testBit_two_pow] at hk2
      rw [← of_decide_eq_true hk2]; exact hk.2.1, fun k hk2 => by simp at hk2, fun a c ha => by simp at ha, Nat.zero_le _⟩ (by omega)
  obtain ⟨v, w, z⟩ := z
  dsimp only at h1 h2
  subst h1 h2
  exact ⟨w, hz⟩
theorem m_partsOf {y : bq_S} {L : AL} (hc : ML y L) (ho : OKL L) {n R : Nat} (hn : 20 ≤ n) (hR : R < 2 ^ lm L) : fX10_partsOf n (nI R) y = some (nI (parts L R), y) := by
  have h8 := ho.1
  have hR256 := p8_256 h8 hR
  obtain ⟨z, hz, h1, h2⟩ := wh_for (b := fX10_partsOf_b4 n) (fun i z => ∃ k, i ≤ k ∧ k ≤ 8 ∧ z = (nI (cpF L R k).2, nI (cpF L R k).1, y)) (fun z => z.2.1 = nI (parts L R) ∧ z.2.2 = y) 8 (by
    rintro i _ hi ⟨k, k1, k2, rfl⟩
    obtain ⟨q1, q2, q3⟩ := cpF_ok ho hR256 k k2
    have hsubl : ∀ j, (cpF L R k).2.testBit j = true → R.testBit j = true := fun j h => (q2 j h).1
    have hand : (cpF L R k).2 &&& R = (cpF L R k).2 := sub_eq (fun j h => by rw [Nat.testBit_and, Bool.and_eq_true] at h; exact h.1) (fun j h => by rw [Nat.testBit_and, h, hsubl j h]; rfl)
    have hl : (cpF L R k).2 < 2 ^ lm L := by
      rw [← hand]
      exact Nat.lt_of_le_of_lt Nat.and_le_right hR
    have hl256 := p8_256 h8 hl
    have e0 : (nI (cpF L R k).2 = (0 : Int32)) = ((cpF L R k).2 = 0) := nI_zero (by omega)
    by_cases c : (cpF L R k).2 = 0
    · refine Or.inr ⟨(nI (cpF L R k).2, nI (cpF L R k).1, y), ?_, ?_, rfl⟩
      · unfold fX10_partsOf_b4
        have e1 : nI (cpF L R k).2 = (0 : Int32) := by rw [c]; rfl
        simp only [un3, e1, if_true]
      · dsimp only
        have := cpF_skip (L := L) (R := R) (k := k) (8 - k) (fun j _ _ => by rw [c]; simp)
        rw [show k + (8 - k) = 8 by omega] at this
        unfold parts
        rw [this]
    · obtain ⟨j, j1, j2, j3, j4⟩ := low_bit hl256 c
      have hkj := (q2 j j3).2
      have hskip : cpF L R j = cpF L R k := by
        have := cpF_skip (L := L) (R := R) (k := k) (j - k) (fun i h1 h2 => j4 i (by omega))
        rw [show k + (j - k) = j by omega] at this
        exact this
      have hnext : cpF L R (j + 1) = ((cpF L R k).1 + 1, andn (cpF L R k).2 (cmp L R j)) := by
        rw [cpF_t (by rw [hskip]; exact j3), hskip]
      obtain ⟨w, hw⟩ := m_part hc ho (n := n) (nI (cpF L R k).1) hn hl j3
      rw [cmp_left hR256 hsubl q3 j3] at hw
      refine Or.inl ⟨(nI (cpF L R (j + 1)).2, nI (cpF L R (j + 1)).1, y), ?_, j + 1, by omega, by omega, rfl⟩
      rw [hnext]
      unfold fX10_partsOf_b4
      simp only [un3, e0, c, if_false, bd, j2, hw, Option.bind_some, wI_andn, nI_1]) (by
    rintro _ ⟨k, k1, k2, rfl⟩
    have ek : k = 8 := by omega
    subst ek
    obtain ⟨q1, q2, q3⟩ := cpF_ok ho hR256 8 (by omega)
    have c : (cpF L R 8).2 = 0 := by
      apply Nat.eq_of_testBit_eq
      intro i
      rw [Nat.zero_testBit]
      cases hb : (cpF L R 8).2.testBit i
      · rfl
      · have h3 := q2 i hb
        have := tb8 hR256 h3.1
        omega
    refine ⟨(nI (cpF L R 8).2, nI (cpF L R 8).1, y), ?_, rfl, rfl⟩
    unfold fX10_partsOf_b4
    have e0 : nI (cpF L R 8).2 = (0 : Int32) := by rw [c]; rfl
    simp only [un3, e0, if_true]) n 0 (nI R, (0 : Int32), y) (by omega) ⟨0, Nat.le_refl _, by omega, rfl⟩ (by omega)
  obtain ⟨v, w, z⟩ := z
  dsimp only at h1 h2
  subst h1 h2
  unfold fX10_partsOf
  simp only [hz, Option.bind_some, un3]
