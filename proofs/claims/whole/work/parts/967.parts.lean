/-! ===== parts that hang together ===== -/
def Cl (L : AL) (R D : Nat) : Prop := ∀ a c, D.testBit a = true → R.testBit c = true → tch L a c = true → D.testBit c = true
def IsComp (L : AL) (R b C : Nat) : Prop := C < 256 ∧ C.testBit b = true ∧ Cl L R C ∧ ∀ D, D < 256 → D.testBit b = true → Cl L R D → ∀ i, C.testBit i = true → D.testBit i = true
theorem tb8 {u i : Nat} (hu : u < 256) (h : u.testBit i = true) : i < 8 := by
  apply Classical.byContradiction
  intro hge
  rw [Nat.testBit_lt_two_pow (Nat.lt_of_lt_of_le (show u < 2 ^ 8 from hu) (Nat.pow_le_pow_right (by decide) (by omega)))] at h
  exact absurd h (by decide)
theorem sub_eq {u v : Nat} (h1 : ∀ i, u.testBit i = true → v.testBit i = true) (h2 : ∀ i, v.testBit i = true → u.testBit i = true) : u = v := by
  apply Nat.eq_of_testBit_eq
  intro i
  rw [Bool.eq_iff_iff]
  exact ⟨h1 i, h2 i⟩
theorem IsComp_eq {L : AL} {R b C D : Nat} (h1 : IsComp L R b C) (h2 : IsComp L R b D) : C = D :=
  sub_eq (h1.2.2.2 D h2.1 h2.2.1 h2.2.2.1) (h2.2.2.2 C h1.1 h1.2.1 h1.2.2.1)
noncomputable def cmp (L : AL) (R b : Nat) : Nat := mks (fun i => @decide (∀ D, D < 256 → D.testBit b = true → Cl L R D → D.testBit i = true) (Classical.propDecidable _)) 8
theorem cmp_bit {L : AL} {R b i : Nat} : (cmp L R b).testBit i = true ↔ i < 8 ∧ ∀ D, D < 256 → D.testBit b = true → Cl L R D → D.testBit i = true := by
  unfold cmp
  rw [mks_bit, Bool.and_eq_true, decide_eq_true_iff]
  exact and_congr Iff.rfl (@decide_eq_true_iff _ (Classical.propDecidable _))
theorem cmp_ok {L : AL} {R b : Nat} (hR : R < 256) (hb : b < 8) : IsComp L R b (cmp L R b) := by
  refine ⟨mks_lt _ 8, cmp_bit.mpr ⟨hb, fun D _ h _ => h⟩, fun a c ha hc ht => ?_, fun D h1 h2 h3 i hi => (cmp_bit.mp hi).2 D h1 h2 h3⟩
  exact cmp_bit.mpr ⟨tb8 hR hc, fun D h1 h2 h3 => h3 a c ((cmp_bit.mp ha).2 D h1 h2 h3) hc ht⟩
theorem cmp_lt (L : AL) (R b : Nat) : cmp L R b < 256 := mks_lt _ 8
/-- in what is left, too -/
theorem cmp_left {L : AL} {R l b : Nat} (hR : R < 256) (hsub : ∀ i, l.testBit i = true → R.testBit i = true) (hcl : ∀ a c, l.testBit a = true → R.testBit c = true → tch L a c = true → l.testBit c = true) (hb : l.testBit b = true) : cmp L l b = cmp L R b := by
  have hl : l < 256 := by
    have : l &&& R = l := sub_eq (fun i h => by rw [Nat.testBit_and, Bool.and_eq_true] at h; exact h.1) (fun i h => by rw [Nat.testBit_and, h, hsub i h]; rfl)
    rw [← this]
    exact Nat.lt_of_le_of_lt Nat.and_le_right hR
  have hb8 := tb8 hl hb
  have h1 := cmp_ok (L := L) hl hb8
  have hin : ∀ i, (cmp L l b).testBit i = true → l.testBit i = true := h1.2.2.2 l hl hb (fun a c _ hc _ => hc)
  refine IsComp_eq (R := R) (b := b) ⟨h1.1, h1.2.1, fun a c ha hc ht => h1.2.2.1 a c ha (hcl a c (hin a ha) hc ht) ht, fun D d1 d2 d3 i hi => h1.2.2.2 D d1 d2 (fun a c ha hc ht => d3 a c ha (hsub c hc) ht) i hi⟩ (cmp_ok hR hb8)
/-- how many parts -/
noncomputable def cpF (L : AL) (R : Nat) : Nat → Nat × Nat
  | 0 => (0, R)
  | k + 1 => if (cpF L R k).2.testBit k then ((cpF L R k).1 + 1, andn (cpF L R k).2 (cmp L R k)) else cpF L R k
noncomputable def parts (L : AL) (R : Nat) : Nat := (cpF L R 8).1
theorem cpF_t {L : AL} {R k : Nat} (h : (cpF L R k).2.testBit k = true) : cpF L R (k + 1) = ((cpF L R k).1 + 1, andn (cpF L R k).2 (cmp L R k)) := by
  rw [cpF, if_pos h]
theorem cpF_f {L : AL} {R k : Nat} (h : (cpF L R k).2.testBit k = false) : cpF L R (k + 1) = cpF L R k := by
  rw [cpF, if_neg (by rw [h]; decide)]
theorem cpF_ok {L : AL} (ho : OKL L) {R : Nat} (hR : R < 256) : ∀ k, k ≤ 8 → (cpF L R k).1 ≤ k ∧ (∀ i, (cpF L R k).2.testBit i = true → R.testBit i = true ∧ k ≤ i) ∧ (∀ a c, (cpF L R k).2.testBit a = true → R.testBit c = true → tch L a c = true → (cpF L R k).2.testBit c = true)
  | 0, _ => ⟨Nat.le_refl _, fun i h => ⟨h, Nat.zero_le _⟩, fun a c _ h _ => h⟩
  | k + 1, hk => by
    obtain ⟨h1, h2, h3⟩ := cpF_ok ho hR k (by omega)
    cases h : (cpF L R k).2.testBit k with
    | false =>
      rw [cpF_f h]
      refine ⟨by omega, fun i hi => ⟨(h2 i hi).1, ?_⟩, h3⟩
      have := (h2 i hi).2
      by_cases e : i = k
      · subst e; rw [h] at hi; exact absurd hi (by decide)
      · omega
    | true =>
      rw [cpF_t h]
      have hc := cmp_ok (L := L) (b := k) hR (by omega)
      refine ⟨by dsimp only; omega, fun i hi => ?_, fun a c ha hcR ht => ?_⟩
      · dsimp only at hi
        have hi' := tb_andn hi
        refine ⟨(h2 i hi'.1).1, ?_⟩
        have := (h2 i hi'.1).2
        by_cases e : i = k
        · subst e; rw [hc.2.1] at hi'; exact absurd hi'.2 (by decide)
        · omega
      · dsimp only at ha ⊢
        obtain ⟨a1, a2⟩ := tb_andn ha
        rw [andn_bit, h3 a c a1 hcR ht]
        cases hcc : (cmp L R k).testBit c
        · rfl
        · have := hc.2.2.1 c a hcc (h2 a a1).1 (by rw [tch_sym ho]; exact ht)
          rw [a2] at this
          exact absurd this (by decide)
theorem cpF_skip {L : AL} {R k : Nat} : ∀ d, (∀ i, k ≤ i → i < k + d → (cpF L R k).2.testBit i = false) → cpF L R (k + d) = cpF L R k
  | 0, _ => rfl
  | d + 1, h => by
    have e := cpF_skip (L := L) (R := R) (k := k) d (fun i h1 h2 => h i h1 (by omega))
    have h2 := h (k + d) (by omega) (by omega)
    rw [← e] at h2
    rw [show k + (d + 1) = k + d + 1 by omega, cpF_f h2, e]
theorem parts_0 (L : AL) : parts L 0 = 0 := by
  have := cpF_skip (L := L) (R := 0) (k := 0) 8 (fun i _ _ => by show (0 : Nat).testBit i = false; simp)
  unfold parts
  rw [show (8 : Nat) = 0 + 8 from rfl, this]; rfl
theorem sumN_mono {f g : Nat → Nat} : ∀ {k : Nat}, (∀ i, i < k → f i ≤ g i) → sumN f k ≤ sumN g k
  | 0, _ => Nat.le_refl _
  | k + 1, h => by
    have h1 := sumN_mono (k := k) (fun i hi => h i (by omega))
    have h2 := h k (by omega)
    show sumN f k + f k ≤ sumN g k + g k
    omega
theorem sumN_slt {f g : Nat → Nat} : ∀ {k j : Nat}, (∀ i, i < k → f i ≤ g i) → j < k → f j < g j → sumN f k < sumN g k
  | 0, _, _, h, _ => by omega
  | k + 1, j, h, hj, hlt => by
    show sumN f k + f k < sumN g k + g k
    by_cases e : j = k
    · subst e
      have h1 := sumN_mono (k := j) (fun i hi => h i (by omega))
      omega
    · have h1 := sumN_slt (k := k) (fun i hi => h i (by omega)) (show j < k by omega) hlt
      have h2 := h k (by omega)
      omega
theorem pc_slt {u v : Nat} (hv : v < 256) (h1 : ∀ i, u.testBit i = true → v.testBit i = true) (hne : u ≠ v) : pc u < pc v := by
  have : ∃ i, v.testBit i = true ∧ u.testBit i = false := by
    apply Classical.byContradiction
    intro hn
    apply hne
    refine sub_eq h1 (fun i hi => ?_)
    cases c : u.testBit i
    · exact absurd ⟨i, hi, c⟩ hn
    · rfl
  obtain ⟨i, a, b⟩ := this
  unfold pc
  refine sumN_slt (j := i) (fun j _ => ?_) (tb8 hv a) ?_
  · cases c : u.testBit j
    · exact Nat.zero_le _
    · rw [h1 j c]; exact Nat.le_refl _
  · rw [a, b]; decide
theorem pc_mono {u v : Nat} (h1 : ∀ i, u.testBit i = true → v.testBit i = true) : pc u ≤ pc v := by
  unfold pc
  refine sumN_mono (fun j _ => ?_)
  cases c : u.testBit j
  · exact Nat.zero_le _
  · rw [h1 j c]; exact Nat.le_refl _
/-! the class's part -/
def grw (L : AL) (R C : Nat) : Nat → Nat
  | 0 => C
  | k + 1 => if C.testBit k then grw L R C k ||| (nearS L k &&& R) else grw L R C k
theorem grw_bit (L : AL) (R C i : Nat) (hi : i < 8) : ∀ k, (grw L R C k).testBit i = true ↔ C.testBit i = true ∨ ∃ a, a < k ∧ C.testBit a = true ∧ R.testBit i = true ∧ tch L a i = true
  | 0 => by
    constructor
    · intro h; exact Or.inl h
    · rintro (h | ⟨a, h, _⟩)
      · exact h
      · omega
  | k + 1 => by
    unfold grw
    by_cases c : C.testBit k = true
    · rw [if_pos c, Nat.testBit_or, Bool.or_eq_true, grw_bit L R C i hi k, Nat.testBit_and, Bool.and_eq_true, near_bit hi]
      constructor
      · rintro ((h | ⟨a, h, h1⟩) | ⟨h1, h2⟩)
        · exact Or.inl h
        · exact Or.inr ⟨a, by omega, h1⟩
        · exact Or.inr ⟨k, by omega, c, h2, h1⟩
      · rintro (h | ⟨a, h, h1, h2, h3⟩)
        · exact Or.inl (Or.inl h)
        · by_cases e : a = k
          · subst e; exact Or.inr ⟨h3, h2⟩
          · exact Or.inl (Or.inr ⟨a, by omega, h1, h2, h3⟩)
    · rw [if_neg c, grw_bit L R C i hi k]
      constructor
      · rintro (h | ⟨a, h, h1⟩)
        · exact Or.inl h
        · exact Or.inr ⟨a, by omega, h1⟩
      · rintro (h | ⟨a, h, h1, h2⟩)
        · exact Or.inl h
        · by_cases e : a = k
          · subst e; exact absurd h1 c
          · exact Or.inr ⟨a, by omega, h1, h2⟩
theorem grw_lt {L : AL} {R C : Nat} (hC : C < 256) : ∀ k, grw L R C k < 256
  | 0 => hC
  | k + 1 => by
    unfold grw
    split
    · exact Nat.or_lt_two_pow (n := 8) (grw_lt hC k) (Nat.lt_of_le_of_lt Nat.and_le_left (near_lt L k))
    · exact grw_lt hC k
theorem s_grow {x : bq_S} {L : AL} (hN : NR x 1 L) {n R C : Nat} (u : Int32) (hn : 20 ≤ n) (hR : R < 256) (hC : C < 256) : wh n (fX1_partOf_b21 n (nI R) (nI C) u) (nI C, (0 : Int32), x) = some (nI (grw L R C 8), nI 8, x) := by
  obtain ⟨z, hz, rfl⟩ := wh_for (b := fX1_partOf_b21 n (nI R) (nI C) u) (fun i z => z = (nI (grw L R C i), nI i, x)) (fun z => z = (nI (grw L R C 8), nI 8, x)) 8 (by
    rintro i _ hi rfl
    have n8 : ¬ 8 ≤ i := by omega
    have h7 : x.1 7 i = nI (nearS L i) := hN i hi
    refine Or.inl ⟨_, ?_, rfl⟩
    unfold fX1_partOf_b21
    simp only [un3, le8 (show i < 2 ^ 31 by omega), n8, if_false, s_has _ _ x (show C < 2 ^ 31 by omega) (show i < 31 by omega), Option.bind_some, un2, b2i_0, bd, wor_0, nI_1, okN hi (by decide), if_true, cl0 (show i < 2 ^ 31 by omega), h7, wI_and, wI_or]
    have eg : grw L R C (i + 1) = if C.testBit i then grw L R C i ||| (nearS L i &&& R) else grw L R C i := rfl
    rw [eg]
    cases C.testBit i
    · rw [if_pos rfl, if_neg (by decide)]
    · rw [if_neg (by decide), if_pos rfl]) (by
    rintro _ rfl
    refine ⟨_, ?_, rfl⟩
    unfold fX1_partOf_b21
    simp only [un3, le8 (show 8 < 2 ^ 31 by omega), Nat.le_refl, if_true]) n 0 (nI C, (0 : Int32), x) (by omega) rfl (by omega)
  exact hz
theorem s_partOf {x : bq_S} {L : AL} (hN : NR x 1 L) {n R b : Nat} (hn : 20 ≤ n) (hR : R < 256) (hb : b < 8) : fX1_partOf n (nI b) (nI R) x = some (nI (cmp L R b), x) := by
  have hk := cmp_ok (L := L) hR hb
  obtain ⟨z, hz, h1, h2⟩ := wh_for (b := fX1_partOf_b8 n (nI R)) (fun i z => ∃ C, z = (nI C, nI i, x) ∧ C < 256 ∧ C.testBit b = true ∧ (∀ j, C.testBit j = true → (cmp L R b).testBit j = true) ∧ i + 1 ≤ pc C) (fun z => z.1 = nI (cmp L R b) ∧ z.2.2 = x) 8 (by
    rintro i _ hi ⟨C, rfl, c1, c2, c3, c4⟩
    have n8 : ¬ 8 ≤ i := by omega
    have hg := grw_lt (L := L) (R := R) c1 8
    have hsub : ∀ j, C.testBit j = true → (grw L R C 8).testBit j = true := fun j hj => (grw_bit L R C j (tb8 c1 hj) 8).mpr (Or.inl hj)
    have ee : (nI (grw L R C 8) = nI C) = (grw L R C 8 = C) := wIeq (by omega) (by omega)
    have hbody : fX1_partOf_b8 n (nI R) (nI C, nI i, x) = if grw L R C 8 = C then some (.inr (nI C, nI i, x)) else some (.inl (nI (grw L R C 8), nI (i + 1), x)) := by
      unfold fX1_partOf_b8
      simp only [un3, le8 (show i < 2 ^ 31 by omega), n8, if_false, s_grow hN (nI i) hn hR c1, Option.bind_some, ee, bd, nI_1]
    by_cases c : grw L R C 8 = C
    · rw [if_pos c] at hbody
      refine Or.inr ⟨_, hbody, ?_, rfl⟩
      dsimp only
      congr 1
      refine sub_eq c3 (hk.2.2.2 C c1 c2 (fun a d ha hd ht => ?_))
      rw [← c]
      exact (grw_bit L R C d (tb8 hR hd) 8).mpr (Or.inr ⟨a, tb8 c1 ha, ha, hd, ht⟩)
    · rw [if_neg c] at hbody
      refine Or.inl ⟨_, hbody, grw L R C 8, rfl, hg, hsub b c2, fun j hj => ?_, ?_⟩
      · rcases (grw_bit L R C j (tb8 hg hj) 8).mp hj with h | ⟨a, _, h1, h2, h3⟩
        · exact c3 j h
        · exact hk.2.2.1 a j (c3 a h1) h2 h3
      · have := pc_slt hg hsub (fun e => c e.symm)
        omega) (by
    rintro _ ⟨C, rfl, c1, c2, c3, c4⟩
    have := pc_le C
    omega) n 0 (nI (2 ^ b), (0 : Int32), x) (by omega) ⟨2 ^ b, rfl, (pc_two hb).2.1, (pc_two hb).2.2, fun j hj => by
      rw [Nat.testBit_two_pow] at hj
      rw [← of_decide_eq_true hj]; exact hk.2.1, by rw [(pc_two hb).1]; exact Nat.le_refl _⟩ (by omega)
  obtain ⟨v, w, z⟩ := z
  dsimp only at h1 h2
  subst h1 h2
  unfold fX1_partOf
  simp only [s_bit b z (show b < 31 by omega), Option.bind_some, un2, hz, un3]
theorem s_partsOf {x : bq_S} {L : AL} (hN : NR x 1 L) {n R : Nat} (hn : 20 ≤ n) (hR : R < 256) (ho : OKL L) : fX1_partsOf n (nI R) x = some (nI (parts L R), x) := by
  obtain ⟨z, hz, h1, h2⟩ := wh_for (b := fX1_partsOf_b7 n (nI R)) (fun i z => z = (nI (cpF L R i).1, nI (cpF L R i).2, nI i, x)) (fun z => z.1 = nI (parts L R) ∧ z.2.2.2 = x) 8 (by
    rintro i _ hi rfl
    have n8 : ¬ 8 ≤ i := by omega
    obtain ⟨q1, q2, q3⟩ := cpF_ok ho hR i (by omega)
    have hl : (cpF L R i).2 < 256 := by
      have : (cpF L R i).2 &&& R = (cpF L R i).2 := sub_eq (fun j h => by rw [Nat.testBit_and, Bool.and_eq_true] at h; exact h.1) (fun j h => by rw [Nat.testBit_and, h, (q2 j h).1]; rfl)
      rw [← this]
      exact Nat.lt_of_le_of_lt Nat.and_le_right hR
    refine Or.inl ⟨_, ?_, rfl⟩
    unfold fX1_partsOf_b7
    simp only [un4, le8 (show i < 2 ^ 31 by omega), n8, if_false, s_has _ _ x (show (cpF L R i).2 < 2 ^ 31 by omega) (show i < 31 by omega), Option.bind_some, un2, b2i_0, bd, nI_1, s_partOf hN hn hR hi, wI_andn]
    cases c : (cpF L R i).2.testBit i
    · rw [if_pos rfl, cpF_f c]
    · rw [if_neg (by decide), cpF_t c]) (by
    rintro _ rfl
    refine ⟨(nI (cpF L R 8).1, nI (cpF L R 8).2, nI 8, x), ?_, rfl, rfl⟩
    unfold fX1_partsOf_b7
    simp only [un4, le8 (show 8 < 2 ^ 31 by omega), Nat.le_refl, if_true]) n 0 ((0 : Int32), nI R, (0 : Int32), x) (by omega) rfl (by omega)
  obtain ⟨v, w, t, z⟩ := z
  dsimp only at h1 h2
  subst h1 h2
  unfold fX1_partsOf
  simp only [hz, Option.bind_some, un4]
