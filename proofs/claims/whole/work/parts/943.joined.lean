/-! ===== joined ===== -/
def bk (w : Int64) : Nat := w.toInt.toNat
theorem bk_n {b : Nat} (h : b < 2 ^ 31) : bk (lN b) = b := by unfold bk; rw [lN_toInt h]; rfl
/-- the set behind k told books, if they are books, not told twice, not in the set -/
def othF (m : Nat) (w : Nat → Int64) (s : Nat) : Nat → Option Nat
  | 0 => some s
  | k + 1 => (othF m w s k).bind (fun t => if isBl m (w k) = true ∧ t.testBit (bk (w k)) = false then some (t ||| 2 ^ bk (w k)) else none)
theorem othF_mono {m : Nat} {w : Nat → Int64} {s k : Nat} (h : othF m w s k = none) : ∀ {j : Nat}, k ≤ j → othF m w s j = none := by
  intro j
  induction j with
  | zero => intro hk; have e : k = 0 := by omega
            rw [e] at h; exact h
  | succ j ih =>
    intro hk
    by_cases e : k = j + 1
    · rw [← e]; exact h
    · rw [othF, ih (by omega)]; rfl
theorem othF_s {m : Nat} {w : Nat → Int64} {s k t : Nat} (hm : m ≤ 8) (hs : s < 2 ^ m) (h : othF m w s k = some t) : t < 2 ^ m ∧ (∀ j, j < k → isBl m (w j) = true ∧ bk (w j) < m ∧ t.testBit (bk (w j)) = true ∧ s.testBit (bk (w j)) = false) ∧ (∀ b, s.testBit b = true → t.testBit b = true) ∧ (∀ i j, i < j → j < k → bk (w i) ≠ bk (w j)) := by
  induction k generalizing t with
  | zero =>
    have : s = t := Option.some.inj h
    subst this
    exact ⟨hs, fun j hj => by omega, fun _ h => h, fun i j _ h => by omega⟩
  | succ k ih =>
    rw [othF] at h
    obtain ⟨u, hu, h⟩ := Option.bind_eq_some_iff.mp h
    obtain ⟨i1, i2, i3, i4⟩ := ih hu
    by_cases c : isBl m (w k) = true ∧ u.testBit (bk (w k)) = false
    · rw [if_pos c] at h
      have e : u ||| 2 ^ bk (w k) = t := Option.some.inj h
      subst e
      obtain ⟨b, hb, eb⟩ := isBl_of (by omega) c.1
      have hbk : bk (w k) < m := by rw [eb, bk_n (by omega)]; exact hb
      refine ⟨lt_or_two i1 hbk, fun j hj => ?_, fun b hb => by rw [Nat.testBit_or, i3 b hb]; rfl, fun i j h1 h2 => ?_⟩
      · by_cases e : j = k
        · subst e
          refine ⟨c.1, hbk, by rw [Nat.testBit_or, Nat.testBit_two_pow_self, Bool.or_true], ?_⟩
          cases hsb : s.testBit (bk (w j)) with
          | false => rfl
          | true => rw [i3 _ hsb] at c; cases c.2
        · obtain ⟨a1, a2, a3, a4⟩ := i2 j (by omega)
          exact ⟨a1, a2, by rw [Nat.testBit_or, a3]; rfl, a4⟩
      · by_cases e : j = k
        · subst e
          intro q
          have := (i2 i h1).2.2.1
          rw [q, c.2] at this; cases this
        · exact i4 i j h1 (by omega)
    · rw [if_neg c] at h; cases h
def bks (w : Nat → Int64) (k : Nat) : List Nat := (List.range k).map (fun j => bk (w j))
theorem bks_len (w : Nat → Int64) (k : Nat) : (bks w k).length = k := by simp [bks]
theorem bks_gt (w : Nat → Int64) {k j : Nat} (h : j < k) : gt (bks w k) j = bk (w j) := by
  rw [gt_get (by rw [bks_len]; exact h)]; simp [bks]
def turn (b : Bool) (r : List Nat) : List Nat := if b then r.reverse else r
theorem turn_len (b : Bool) (r : List Nat) : (turn b r).length = r.length := by unfold turn; split <;> simp
theorem turn_gt (b : Bool) {r : List Nat} {i : Nat} (h : i < r.length) : gt (turn b r) i = gt r (if b then r.length - 1 - i else i) := by
  unfold turn
  cases b with
  | false => rfl
  | true =>
    simp only [if_true]
    rw [gt_get (by rw [List.length_reverse]; exact h), gt_get (by omega)]
    simp [List.getElem_reverse]
def jrow (hl bs : List Nat) (way : Nat) : List Nat := turn (way.testBit 1) hl ++ turn (way.testBit 0) bs
theorem jrow_len (hl bs : List Nat) (way : Nat) : (jrow hl bs way).length = hl.length + bs.length := by simp [jrow, turn_len]
theorem jrow_l {hl bs : List Nat} {way i : Nat} (h : i < hl.length) : gt (jrow hl bs way) i = gt hl (if way.testBit 1 then hl.length - 1 - i else i) := by
  unfold jrow
  rw [gt_app2 (by rw [turn_len]; exact h), turn_gt _ h]
theorem gt_app3 {a b : List Nat} {i : Nat} : gt (a ++ b) (a.length + i) = gt b i := by
  unfold gt; rw [getD_app, if_neg (by omega)]; congr 1; omega
theorem jrow_r {hl bs : List Nat} {way i : Nat} (h : i < bs.length) : gt (jrow hl bs way) (hl.length + i) = gt bs (if way.testBit 0 then bs.length - 1 - i else i) := by
  unfold jrow
  have := gt_app3 (a := turn (way.testBit 1) hl) (b := turn (way.testBit 0) bs) (i := i)
  rw [turn_len] at this
  rw [this, turn_gt _ h]
theorem mem_turn {b : Bool} {r : List Nat} {c : Nat} : c ∈ turn b r ↔ c ∈ r := by unfold turn; split <;> simp
theorem jrow_ok {L : AL} (ho : OKL L) {w : Nat → Int64} {k t : Nat} (h : othF (lm L) w (setOf (lhl L)) k = some t) (way : Nat) : rowOK (lm L) (jrow (lhl L) (bks w k) way) := by
  have hh := ho.2.2.2.2.2.2.2.2
  obtain ⟨i1, i2, i3, i4⟩ := othF_s ho.1 (setOf_lt hh.2) h
  have hbn : (bks w k).Nodup := by
    unfold bks
    rw [List.nodup_iff_pairwise_ne, List.pairwise_map]
    refine List.pairwise_iff_getElem.mpr (fun i j hi hj hij => ?_)
    simp at hi hj
    simp
    exact i4 i j hij hj
  have hmem : ∀ c, c ∈ bks w k → ∃ j, j < k ∧ c = bk (w j) := fun c hc => by
    unfold bks at hc
    obtain ⟨j, hj, e⟩ := List.mem_map.mp hc
    exact ⟨j, List.mem_range.mp hj, e.symm⟩
  refine ⟨?_, fun c hc => ?_⟩
  · unfold jrow
    rw [List.nodup_append]
    refine ⟨?_, ?_, fun a ha b hb => ?_⟩
    · unfold turn; split
      · exact List.pairwise_reverse.mpr (List.Pairwise.imp Ne.symm hh.1)
      · exact hh.1
    · unfold turn; split
      · exact List.pairwise_reverse.mpr (List.Pairwise.imp Ne.symm hbn)
      · exact hbn
    · intro e
      subst e
      have ha := mem_turn.mp ha
      obtain ⟨j, hj, e⟩ := hmem _ (mem_turn.mp hb)
      have := (i2 j hj).2.2.2
      rw [← e, setOf_bit, decide_eq_false_iff_not] at this
      exact this ha
  · unfold jrow at hc
    rcases List.mem_append.mp hc with hc | hc
    · exact hh.2 c (mem_turn.mp hc)
    · obtain ⟨j, hj, e⟩ := hmem _ (mem_turn.mp hc)
      rw [e]; exact (i2 j hj).2.1
theorem l2i_n {b : Nat} : (lN b).toInt32 = nI b := lN_i b
theorem s_areOthers {x : bq_S} {L : AL} (hc : CL x 1 L) (ho : OKL L) {q n a k : Nat} {w : Nat → Int64} (hw : ∀ j, j < k → x.2 q (a + j) = w j) (hak : a + k ≤ 16) (hn : 20 ≤ n) : fX9_areOthers n q 16 (nI a) (nI k) x = some (b2i (othF (lm L) w (setOf (lhl L)) k).isSome, x) := by
  have hm := ho.1
  have hh := ho.2.2.2.2.2.2.2.2
  obtain ⟨z, hz, hq⟩ := wh_for (b := fX9_areOthers_b12 n q 16 (nI a) (nI k)) (fun i v => ∃ t, othF (lm L) w (setOf (lhl L)) i = some t ∧ v = (nI t, nI (a + i), x)) (fun z => ((othF (lm L) w (setOf (lhl L)) k).isSome = true ∧ ∃ u v, z = .inl (u, v, x)) ∨ ((othF (lm L) w (setOf (lhl L)) k).isSome = false ∧ z = .inr (0, x))) k (by
    rintro i _ hi ⟨t, ht, rfl⟩
    obtain ⟨t1, t2, t3, t4⟩ := othF_s hm (setOf_lt hh.2) ht
    have n1 : ¬ a + k ≤ a + i := by omega
    unfold fX9_areOthers_b12
    simp only [un3, nI_add, wIle (show a + k < 2 ^ 31 by omega) (show a + i < 2 ^ 31 by omega), n1, if_false, okN (show a + i < 16 by omega) (by decide), if_true, cl0 (show a + i < 2 ^ 31 by omega), hw i hi, s_isBook hc ho, Option.bind_some, un2, b2i_0, bd]
    cases hb : isBl (lm L) (w i) with
    | false =>
      refine Or.inr ⟨.inr (0, x), by simp only [if_true], Or.inr ⟨?_, rfl⟩⟩
      have : othF (lm L) w (setOf (lhl L)) (i + 1) = none := by rw [othF, ht]; simp [hb]
      rw [othF_mono this (by omega)]; rfl
    | true =>
      obtain ⟨b, hbm, eb⟩ := isBl_of (by omega) hb
      simp only [Bool.true_eq_false, if_false, eb, l2i_n, s_has t b x (p8_31 hm t1) (by omega), Option.bind_some, b2i_0, s_bit b x (by omega), nI_1, wI_or]
      cases htb : t.testBit b with
      | true =>
        refine Or.inr ⟨.inr (0, x), by simp only [Bool.true_eq_false, if_false], Or.inr ⟨?_, rfl⟩⟩
        have : othF (lm L) w (setOf (lhl L)) (i + 1) = none := by rw [othF, ht]; simp [eb, bk_n (show b < 2 ^ 31 by omega), htb]
        rw [othF_mono this (by omega)]; rfl
      | false =>
        refine Or.inl ⟨(nI (t ||| 2 ^ b), nI (a + i + 1), x), by simp only [if_true], t ||| 2 ^ b, ?_, rfl⟩
        rw [othF, ht]
        simp only [Option.bind_some]
        rw [if_pos ⟨hb, by rw [eb, bk_n (by omega)]; exact htb⟩, eb, bk_n (by omega)]) (by
    rintro _ ⟨t, ht, rfl⟩
    refine ⟨.inl (nI t, nI (a + k), x), ?_, Or.inl ⟨by rw [ht]; rfl, _, _, rfl⟩⟩
    unfold fX9_areOthers_b12
    simp only [un3, nI_add, Int32.le_refl, if_true]) n 0 (nI (setOf (lhl L)), nI a, x) (Nat.zero_le _) ⟨_, rfl, rfl⟩ (by omega)
  unfold fX9_areOthers
  rw [s_hallSet hc ho hn]
  simp only [Option.bind_some, un2]
  rw [hz]
  rcases hq with ⟨h1, u, v, rfl⟩ | ⟨h1, rfl⟩
  · rw [h1]; rfl
  · rw [h1]; rfl
theorem tb_way {way : Nat} (h : way < 4) : way < 2 ^ 31 := by omega
theorem s_lawJoined {x : bq_S} {L : AL} (hc : CL x 1 L) (hN : NR x 1 L) (ho : OKL L) {q n a k t way : Nat} {w : Nat → Int64} (hw : ∀ j, j < k → x.2 q (a + j) = w j) (hak : a + k ≤ 16) (hway : way < 4) (hn : 20 ≤ n) (ht : othF (lm L) w (setOf (lhl L)) k = some t) : ∃ x1, fX9_isLawfulJoined n q 16 (nI a) (nI k) (nI way) x = some (b2i (lawB (tch L) (decide (lri L = 1)) (jrow (lhl L) (bks w k) way)), x1) ∧ lineC x x1 := by
  have h8 := hall8 ho
  have hok := jrow_ok ho ht way
  have hlen : (jrow (lhl L) (bks w k) way).length ≤ 8 := Nat.le_trans (rowOK_len ho.1 hok) ho.1
  have hlen2 := jrow_len (lhl L) (bks w k) way
  rw [bks_len] at hlen2
  have hb8 : ∀ j, j < k → ∃ b, b < lm L ∧ w j = lN b := fun j hj => isBl_of (by have := ho.1; omega) ((othF_s ho.1 (setOf_lt ho.2.2.2.2.2.2.2.2.2) ht).2.1 j hj).1
  have hhas1 : ∀ z : bq_S, fX9_has (nI way) (1 : Int32) z = some (b2i (way.testBit 1), z) := fun z => s_has way 1 z (by omega) (by decide)
  have hhas0 : ∀ z : bq_S, fX9_has (nI way) (0 : Int32) z = some (b2i (way.testBit 0), z) := fun z => s_has way 0 z (by omega) (by decide)
  obtain ⟨z, hz, x1, rfl, h1, h2⟩ := wh_for (b := fX9_isLawfulJoined_b12 n q 16 (nI a) (nI k) (nI way) (nI (lhl L).length)) (fun i v => ∃ x1, v = (nI i, x1) ∧ lineC x x1 ∧ ∀ j, j < i → x1.1 42 j = nI (gt (jrow (lhl L) (bks w k) way) j)) (fun v => ∃ x1, v = (nI (lhl L).length, x1) ∧ lineC x x1 ∧ ∀ j, j < (lhl L).length → x1.1 42 j = nI (gt (jrow (lhl L) (bks w k) way) j)) (lhl L).length (by
    rintro i _ hi ⟨x1, rfl, h1, h2⟩
    have hrow : ∀ j, j < (lhl L).length → x1.1 6 j = nI (gt (lhl L) j) := fun j hj => by rw [h1.1 6 (by decide)]; exact hc.2.2.2.2.2.2.2.2 j hj
    have n1 : ¬ (lhl L).length ≤ i := by omega
    have e3 : nI (lhl L).length - 1 - nI i = nI ((lhl L).length - 1 - i) := by rw [nI_m (by omega), pk_sub (by omega)]
    refine Or.inl ⟨(nI (i + 1), bq_sI x1 42 i (nI (gt (jrow (lhl L) (bks w k) way) i))), ?_, _, rfl, ⟨fun c hc => by rw [sI_n _ _ _ hc]; exact h1.1 c hc, h1.2⟩, fun j hj => ?_⟩
    · unfold fX9_isLawfulJoined_b12
      rw [jrow_l hi]
      simp only [un2, wIle (show (lhl L).length < 2 ^ 31 by omega) (show i < 2 ^ 31 by omega), n1, if_false, hhas1, Option.bind_some, b2i_0, okN (show i < 8 by omega) (by decide), if_true, cl0 (show i < 2 ^ 31 by omega), e3, okN (show (lhl L).length - 1 - i < 8 by omega) (by decide), cl0 (show (lhl L).length - 1 - i < 2 ^ 31 by omega), bd, nI_1, hrow i hi, hrow ((lhl L).length - 1 - i) (by omega)]
      cases way.testBit 1 <;> simp
    · rw [sI_s]
      by_cases e : j = i
      · subst e; exact pk_us
      · rw [pk_un e]; exact h2 j (by omega)) (by
    rintro _ ⟨x1, rfl, h1, h2⟩
    refine ⟨_, ?_, x1, rfl, h1, h2⟩
    unfold fX9_isLawfulJoined_b12
    simp only [un2, Int32.le_refl, if_true]) n 0 ((0 : Int32), x) (Nat.zero_le _) ⟨x, rfl, ⟨fun _ _ => rfl, rfl⟩, fun j hj => by omega⟩ (by omega)
  obtain ⟨z2, hz2, x2, rfl, g1, g2⟩ := wh_for (b := fX9_isLawfulJoined_b64 n q 16 (nI a) (nI k) (nI way) (nI (lhl L).length)) (fun i v => ∃ x2, v = (nI i, x2) ∧ lineC x x2 ∧ ∀ j, j < (lhl L).length + i → x2.1 42 j = nI (gt (jrow (lhl L) (bks w k) way) j)) (fun v => ∃ x2, v = (nI k, x2) ∧ lineC x x2 ∧ ∀ j, j < (lhl L).length + k → x2.1 42 j = nI (gt (jrow (lhl L) (bks w k) way) j)) k (by
    rintro i _ hi ⟨x2, rfl, g1, g2⟩
    have hit : ∀ j, j < k → (x2.2 q (a + j)).toInt32 = nI (gt (bks w k) j) := fun j hj => by
      obtain ⟨b, hb, e⟩ := hb8 j hj
      rw [g1.2, hw j hj, bks_gt w hj, e, l2i_n, bk_n (by have := ho.1; omega)]
    have n1 : ¬ k ≤ i := by omega
    have e3 : nI k - 1 - nI i = nI (k - 1 - i) := by rw [nI_m (by omega), pk_sub (by omega)]
    refine Or.inl ⟨(nI (i + 1), bq_sI x2 42 ((lhl L).length + i) (nI (gt (jrow (lhl L) (bks w k) way) ((lhl L).length + i)))), ?_, _, rfl, ⟨fun c hc => by rw [sI_n _ _ _ hc]; exact g1.1 c hc, g1.2⟩, fun j hj => ?_⟩
    · unfold fX9_isLawfulJoined_b64 fX9_isLawfulJoined_j101
      rw [jrow_r (by rw [bks_len]; exact hi), bks_len]
      simp only [un2, wIle (show k < 2 ^ 31 by omega) (show i < 2 ^ 31 by omega), n1, if_false, hhas0, Option.bind_some, b2i_0, e3, nI_add, okN (show a + i < 16 by omega) (by decide), okN (show a + (k - 1 - i) < 16 by omega) (by decide), okN (show (lhl L).length + i < 8 by omega) (by decide), if_true, cl0 (show a + i < 2 ^ 31 by omega), cl0 (show a + (k - 1 - i) < 2 ^ 31 by omega), cl0 (show (lhl L).length + i < 2 ^ 31 by omega), bd, nI_1, hit i hi, hit (k - 1 - i) (by omega)]
      cases way.testBit 0 <;> simp
    · rw [sI_s]
      by_cases e : j = (lhl L).length + i
      · subst e; exact pk_us
      · rw [pk_un e]; exact g2 j (by omega)) (by
    rintro _ ⟨x2, rfl, g1, g2⟩
    refine ⟨_, ?_, x2, rfl, g1, g2⟩
    unfold fX9_isLawfulJoined_b64
    simp only [un2, Int32.le_refl, if_true]) n 0 ((0 : Int32), x1) (Nat.zero_le _) ⟨x1, rfl, h1, fun j hj => h2 j (by omega)⟩ (by omega)
  refine ⟨x2, ?_, g1⟩
  unfold fX9_isLawfulJoined
  simp only [bd, hc.2.2.1, hz, hz2, Option.bind_some, un2, nI_add]
  rw [← hlen2, s_isLawful (CL_of (fun c a b => g1.1 c (by omega)) hc) (fun i hi => by rw [g1.1 _ (by omega)]; exact hN i hi) ho hn hlen (fun b hb => by have := hok.2 b hb; have := ho.1; omega) (fun i hi => g2 i (by omega))]
  simp only [Option.bind_some, b2i_g]
theorem m_isBk {y : bq_S} {L : AL} (hc : ML y L) (ho : OKL L) (v : Int64) : fX10_in v (0 : Int64) ((y.1 0 0) - (1 : Int32)).toInt64 y = some (b2i (isBl (lm L) v), y) := by
  have h8 := ho.1
  simp only [m_in, hc.1, Int32.toInt_toInt64, nI_m1 (show lm L < 2 ^ 30 by omega), isBl]
  congr 3
  apply decide_eq_decide.mpr
  simp
  omega
theorem m_others {y : bq_S} {L : AL} (hc : ML y L) (ho : OKL L) {n s a k : Nat} {w : Nat → Int64} (hs : s < 4) (hw : ∀ j, j < k → y.2 16 (16 * s + a + j) = w j) (hak : a + k ≤ 16) (hn : 20 ≤ n) : ∃ z, wh n (fX10_joined_b57 n (nI s) (nI a) (nI k)) (nI (setOf (lhl L)), (0 : Int32), y) = some z ∧ (((othF (lm L) w (setOf (lhl L)) k).isSome = true ∧ ∃ u v, z = .inl (u, v, y)) ∨ ((othF (lm L) w (setOf (lhl L)) k).isSome = false ∧ z = .inr (-2, y))) := by
  have hm := ho.1
  have hh := ho.2.2.2.2.2.2.2.2
  exact wh_for (b := fX10_joined_b57 n (nI s) (nI a) (nI k)) (fun i v => ∃ t, othF (lm L) w (setOf (lhl L)) i = some t ∧ v = (nI t, nI i, y)) (fun z => ((othF (lm L) w (setOf (lhl L)) k).isSome = true ∧ ∃ u v, z = .inl (u, v, y)) ∨ ((othF (lm L) w (setOf (lhl L)) k).isSome = false ∧ z = .inr (-2, y))) k (by
    rintro i _ hi ⟨t, ht, rfl⟩
    obtain ⟨t1, t2, t3, t4⟩ := othF_s hm (setOf_lt hh.2) ht
    have n1 : ¬ k ≤ i := by omega
    unfold fX10_joined_b57
    simp only [un3, ix16b, wIle (show k < 2 ^ 31 by omega) (show i < 2 ^ 31 by omega), n1, if_false, okN (show 16 * s + a + i < 64 by omega) (by decide), if_true, cl0 (show 16 * s + a + i < 2 ^ 31 by omega), hw i hi, m_isBk hc ho, Option.bind_some, un2, b2i_0, bd]
    cases hb : isBl (lm L) (w i) with
    | false =>
      refine Or.inr ⟨.inr (-2, y), by simp only [if_true], Or.inr ⟨?_, rfl⟩⟩
      have : othF (lm L) w (setOf (lhl L)) (i + 1) = none := by rw [othF, ht]; simp [hb]
      rw [othF_mono this (by omega)]; rfl
    | true =>
      obtain ⟨b, hbm, eb⟩ := isBl_of (by omega) hb
      simp only [Bool.true_eq_false, if_false, eb, l2i_n, wI_bit (p8_31 hm t1) (show b < 31 by omega), b2i_1, wI_sh (show b < 31 by omega), nI_1, wI_or]
      cases htb : t.testBit b with
      | true =>
        refine Or.inr ⟨.inr (-2, y), by simp only [if_true], Or.inr ⟨?_, rfl⟩⟩
        have : othF (lm L) w (setOf (lhl L)) (i + 1) = none := by rw [othF, ht]; simp [eb, bk_n (show b < 2 ^ 31 by omega), htb]
        rw [othF_mono this (by omega)]; rfl
      | false =>
        refine Or.inl ⟨(nI (t ||| 2 ^ b), nI (i + 1), y), by simp only [Bool.false_eq_true, if_false], t ||| 2 ^ b, ?_, rfl⟩
        rw [othF, ht]
        simp only [Option.bind_some]
        rw [if_pos ⟨hb, by rw [eb, bk_n (by omega)]; exact htb⟩, eb, bk_n (by omega)]) (by
    rintro _ ⟨t, ht, rfl⟩
    refine ⟨.inl (nI t, nI k, y), ?_, Or.inl ⟨by rw [ht]; rfl, _, _, rfl⟩⟩
    unfold fX10_joined_b57
    simp only [un3, Int32.le_refl, if_true]) n 0 (nI (setOf (lhl L)), (0 : Int32), y) (Nat.zero_le _) ⟨_, rfl, rfl⟩ (by omega)
theorem m_jrow {y : bq_S} {L : AL} (hc : ML y L) (ho : OKL L) {n s a k t way : Nat} {w : Nat → Int64} (hs : s < 4) (hw : ∀ j, j < k → y.2 16 (16 * s + a + j) = w j) (hak : a + k ≤ 16) (hway : way < 4) (hn : 20 ≤ n) (ht : othF (lm L) w (setOf (lhl L)) k = some t) : ∃ y1 y2, wh n (fX10_joined_b150 n (nI s) (nI a) (nI k) (nI way)) ((0 : Int32), bq_sI y 0 17 (nI ((lhl L).length + k))) = some (nI (lhl L).length, y1) ∧ wh n (fX10_joined_b200 n (nI s) (nI a) (nI k) (nI way)) ((0 : Int32), y1) = some (nI k, y2) ∧ rowM y y2 ∧ MRow y2 (jrow (lhl L) (bks w k) way) := by
  have h8 := hall8 ho
  have hok := jrow_ok ho ht way
  have hlen : (jrow (lhl L) (bks w k) way).length ≤ 8 := Nat.le_trans (rowOK_len ho.1 hok) ho.1
  have hlen2 := jrow_len (lhl L) (bks w k) way
  rw [bks_len] at hlen2
  have hb8 : ∀ j, j < k → ∃ b, b < lm L ∧ w j = lN b := fun j hj => isBl_of (by have := ho.1; omega) ((othF_s ho.1 (setOf_lt ho.2.2.2.2.2.2.2.2.2) ht).2.1 j hj).1
  have ew1 : (nI way ≤ (1 : Int32)) = (way.testBit 1 = false) := by
    have : ∀ way : Fin 4, (nI way.val ≤ (1 : Int32)) = (way.val.testBit 1 = false) := by decide
    exact this ⟨way, hway⟩
  have ew0 : (nI way - nI way / (2 : Int32) * (2 : Int32) = (1 : Int32)) = (way.testBit 0 = true) := by
    have : ∀ way : Fin 4, (nI way.val - nI way.val / (2 : Int32) * (2 : Int32) = (1 : Int32)) = (way.val.testBit 0 = true) := by decide
    exact this ⟨way, hway⟩
  obtain ⟨z, hz, y1, rfl, h1, h17, h2⟩ := wh_for (b := fX10_joined_b150 n (nI s) (nI a) (nI k) (nI way)) (fun i v => ∃ y1, v = (nI i, y1) ∧ rowM y y1 ∧ y1.1 0 17 = nI ((lhl L).length + k) ∧ ∀ j, j < i → y1.1 10 j = nI (gt (jrow (lhl L) (bks w k) way) j)) (fun v => ∃ y1, v = (nI (lhl L).length, y1) ∧ rowM y y1 ∧ y1.1 0 17 = nI ((lhl L).length + k) ∧ ∀ j, j < (lhl L).length → y1.1 10 j = nI (gt (jrow (lhl L) (bks w k) way) j)) (lhl L).length (by
    rintro i _ hi ⟨y1, rfl, h1, h17, h2⟩
    have hml := rowM_ML h1 hc
    have hrow : ∀ j, j < (lhl L).length → y1.1 5 j = nI (gt (lhl L) j) := fun j hj => hml.2.2.2.2.2.2.2.2 j hj
    have n1 : ¬ (lhl L).length ≤ i := by omega
    have e3 : nI (lhl L).length - 1 - nI i = nI ((lhl L).length - 1 - i) := by rw [nI_m (by omega), pk_sub (by omega)]
    refine Or.inl ⟨(nI (i + 1), bq_sI y1 10 i (nI (gt (jrow (lhl L) (bks w k) way) i))), ?_, _, rfl, ⟨fun c a b => by rw [sI_n _ _ _ b]; exact h1.1 c a b, fun k hk => by rw [sI_n _ _ _ (by decide)]; exact h1.2.1 k hk, h1.2.2⟩, by rw [sI_n _ _ _ (by decide)]; exact h17, fun j hj => ?_⟩
    · unfold fX10_joined_b150
      rw [jrow_l hi]
      simp only [un2, hml.2.2.1, wIle (show (lhl L).length < 2 ^ 31 by omega) (show i < 2 ^ 31 by omega), n1, if_false, ew1, okN (show i < 8 by omega) (by decide), if_true, cl0 (show i < 2 ^ 31 by omega), e3, okN (show (lhl L).length - 1 - i < 8 by omega) (by decide), cl0 (show (lhl L).length - 1 - i < 2 ^ 31 by omega), bd, nI_1, hrow i hi, hrow ((lhl L).length - 1 - i) (by omega)]
      cases way.testBit 1 <;> simp
    · rw [sI_s]
      by_cases e : j = i
      · subst e; exact pk_us
      · rw [pk_un e]; exact h2 j (by omega)) (by
    rintro _ ⟨y1, rfl, h1, h17, h2⟩
    have e0 : y1.1 0 6 = nI (lhl L).length := (rowM_ML h1 hc).2.2.1
    refine ⟨_, ?_, y1, rfl, h1, h17, h2⟩
    unfold fX10_joined_b150
    simp only [un2, e0, Int32.le_refl, if_true]) n 0 ((0 : Int32), bq_sI y 0 17 (nI ((lhl L).length + k))) (Nat.zero_le _) ⟨_, rfl, ⟨fun c a b => sI_n _ _ _ a, fun k hk => by rw [sI_s, pk_un hk], rfl⟩, by rw [sI_s, pk_us], fun j hj => by omega⟩ (by omega)
  obtain ⟨z2, hz2, y2, rfl, g1, g17, g2⟩ := wh_for (b := fX10_joined_b200 n (nI s) (nI a) (nI k) (nI way)) (fun i v => ∃ y2, v = (nI i, y2) ∧ rowM y y2 ∧ y2.1 0 17 = nI ((lhl L).length + k) ∧ ∀ j, j < (lhl L).length + i → y2.1 10 j = nI (gt (jrow (lhl L) (bks w k) way) j)) (fun v => ∃ y2, v = (nI k, y2) ∧ rowM y y2 ∧ y2.1 0 17 = nI ((lhl L).length + k) ∧ ∀ j, j < (lhl L).length + k → y2.1 10 j = nI (gt (jrow (lhl L) (bks w k) way) j)) k (by
    rintro i _ hi ⟨y2, rfl, g1, g17, g2⟩
    have hml := rowM_ML g1 hc
    have hit : ∀ j, j < k → (y2.2 16 (16 * s + a + j)).toInt32 = nI (gt (bks w k) j) := fun j hj => by
      obtain ⟨b, hb, e⟩ := hb8 j hj
      rw [g1.2.2, hw j hj, bks_gt w hj, e, l2i_n, bk_n (by have := ho.1; omega)]
    have n1 : ¬ k ≤ i := by omega
    have e3 : nI k - 1 - nI i = nI (k - 1 - i) := by rw [nI_m (by omega), pk_sub (by omega)]
    refine Or.inl ⟨(nI (i + 1), bq_sI y2 10 ((lhl L).length + i) (nI (gt (jrow (lhl L) (bks w k) way) ((lhl L).length + i)))), ?_, _, rfl, ⟨fun c a b => by rw [sI_n _ _ _ b]; exact g1.1 c a b, fun k hk => by rw [sI_n _ _ _ (by decide)]; exact g1.2.1 k hk, g1.2.2⟩, by rw [sI_n _ _ _ (by decide)]; exact g17, fun j hj => ?_⟩
    · unfold fX10_joined_b200 fX10_joined_j248
      rw [jrow_r (by rw [bks_len]; exact hi), bks_len]
      simp only [un2, hml.2.2.1, wIle (show k < 2 ^ 31 by omega) (show i < 2 ^ 31 by omega), n1, if_false, ew0, e3, ix16, nI_add, okN (show 16 * s + a + i < 64 by omega) (by decide), okN (show 16 * s + a + (k - 1 - i) < 64 by omega) (by decide), okN (show (lhl L).length + i < 8 by omega) (by decide), if_true, cl0 (show 16 * s + a + i < 2 ^ 31 by omega), cl0 (show 16 * s + a + (k - 1 - i) < 2 ^ 31 by omega), cl0 (show (lhl L).length + i < 2 ^ 31 by omega), bd, nI_1, hit i hi, hit (k - 1 - i) (by omega)]
      cases way.testBit 0 <;> simp
    · rw [sI_s]
      by_cases e : j = (lhl L).length + i
      · subst e; exact pk_us
      · rw [pk_un e]; exact g2 j (by omega)) (by
    rintro _ ⟨y2, rfl, g1, g17, g2⟩
    refine ⟨_, ?_, y2, rfl, g1, g17, g2⟩
    unfold fX10_joined_b200
    simp only [un2, Int32.le_refl, if_true]) n 0 ((0 : Int32), y1) (Nat.zero_le _) ⟨y1, rfl, h1, h17, fun j hj => h2 j (by omega)⟩ (by omega)
  exact ⟨y1, y2, hz, hz2, g1, by rw [g17, hlen2], fun i hi => g2 i (by omega)⟩
def jway (L : AL) (w : Nat → Int64) (k : Nat) (way : Nat) : Bool := lawB (tch L) (decide (lri L = 1)) (jrow (lhl L) (bks w k) way)
theorem s_jloop {x : bq_S} {L : AL} (hc : CL x 1 L) (hN : NR x 1 L) (ho : OKL L) {q n a k t : Nat} {w : Nat → Int64} (hw : ∀ j, j < k → x.2 q (a + j) = w j) (hak : a + k ≤ 16) (hn : 20 ≤ n) (ht : othF (lm L) w (setOf (lhl L)) k = some t) : ∃ x1, lineC x x1 ∧ ((∃ v, wh n (fX9_joined_b63 n (nI a) (nI k) q) ((0 : Int32), x) = some (.inl (v, x1)) ∧ ∀ i, i < 4 → jway L w k i = false) ∨ (∃ i, i < 4 ∧ jway L w k i = true ∧ (∀ j, j < i → jway L w k j = false) ∧ wh n (fX9_joined_b63 n (nI a) (nI k) q) ((0 : Int32), x) = some (.inr (nI i, x1)))) := by
  obtain ⟨z, hz, hq⟩ := wh_for (b := fX9_joined_b63 n (nI a) (nI k) q) (fun i v => ∃ x1, v = (nI i, x1) ∧ lineC x x1 ∧ ∀ j, j < i → jway L w k j = false) (fun z => ∃ x1, lineC x x1 ∧ ((∃ v, z = .inl (v, x1) ∧ ∀ i, i < 4 → jway L w k i = false) ∨ (∃ i, i < 4 ∧ jway L w k i = true ∧ (∀ j, j < i → jway L w k j = false) ∧ z = .inr (nI i, x1)))) 4 (by
    rintro i _ hi ⟨x1, rfl, h1, h2⟩
    obtain ⟨x2, j1, j2⟩ := s_lawJoined (CL_of (fun c a b => h1.1 c (by omega)) hc) (fun i hi => by rw [h1.1 _ (by omega)]; exact hN i hi) ho (q := q) (n := n) (a := a) (k := k) (way := i) (fun j hj => by rw [h1.2]; exact hw j hj) hak hi hn ht
    have hl : lineC x x2 := ⟨fun c hc => (j2.1 c hc).trans (h1.1 c hc), j2.2.trans h1.2⟩
    have e4 : ((4 : Int32) ≤ nI i) = (4 ≤ i) := wIle (a := 4) (by decide) (by omega)
    have n1 : ¬ 4 ≤ i := by omega
    unfold fX9_joined_b63
    simp only [un2, e4, n1, if_false, j1, Option.bind_some, b2i_0, bd, nI_1]
    cases hj : jway L w k i with
    | false =>
      have hj' := hj
      unfold jway at hj'
      refine Or.inl ⟨(nI (i + 1), x2), by simp only [hj', if_true], x2, rfl, hl, fun j h => ?_⟩
      by_cases e : j = i
      · rw [e]; exact hj
      · exact h2 j (by omega)
    | true =>
      have hj' := hj
      unfold jway at hj'
      exact Or.inr ⟨.inr (nI i, x2), by simp only [hj', Bool.true_eq_false, if_false], x2, hl, Or.inr ⟨i, hi, hj, h2, rfl⟩⟩) (by
    rintro _ ⟨x1, rfl, h1, h2⟩
    refine ⟨.inl (nI 4, x1), ?_, x1, h1, Or.inl ⟨_, rfl, h2⟩⟩
    unfold fX9_joined_b63
    have : (4 : Int32) ≤ nI 4 := by decide
    simp only [un2, this, if_true]) n 0 ((0 : Int32), x) (by omega) ⟨x, rfl, ⟨fun _ _ => rfl, rfl⟩, fun j hj => by omega⟩ (by omega)
  obtain ⟨x1, h1, h2⟩ := hq
  refine ⟨x1, h1, ?_⟩
  rcases h2 with ⟨v, rfl, h⟩ | ⟨i, hi, h3, h4, rfl⟩
  · exact Or.inl ⟨v, hz, h⟩
  · exact Or.inr ⟨i, hi, h3, h4, hz⟩
theorem m_jloop {y : bq_S} {L : AL} (hc : ML y L) (ho : OKL L) {n s a k t : Nat} {w : Nat → Int64} (hs : s < 4) (hw : ∀ j, j < k → y.2 16 (16 * s + a + j) = w j) (hak : a + k ≤ 16) (hn : 20 ≤ n) (ht : othF (lm L) w (setOf (lhl L)) k = some t) : ∃ y1, rowM y y1 ∧ ((∃ v, wh n (fX10_joined_b130 n (nI s) (nI a) (nI k)) ((0 : Int32), y) = some (.inl (v, y1)) ∧ ∀ i, i < 4 → jway L w k i = false) ∨ (∃ i, i < 4 ∧ jway L w k i = true ∧ (∀ j, j < i → jway L w k j = false) ∧ wh n (fX10_joined_b130 n (nI s) (nI a) (nI k)) ((0 : Int32), y) = some (.inr (nI i, y1)))) := by
  obtain ⟨z, hz, hq⟩ := wh_for (b := fX10_joined_b130 n (nI s) (nI a) (nI k)) (fun i v => ∃ y1, v = (nI i, y1) ∧ rowM y y1 ∧ ∀ j, j < i → jway L w k j = false) (fun z => ∃ y1, rowM y y1 ∧ ((∃ v, z = .inl (v, y1) ∧ ∀ i, i < 4 → jway L w k i = false) ∨ (∃ i, i < 4 ∧ jway L w k i = true ∧ (∀ j, j < i → jway L w k j = false) ∧ z = .inr (nI i, y1)))) 4 (by
    rintro i _ hi ⟨y1, rfl, h1, h2⟩
    have hml := rowM_ML h1 hc
    obtain ⟨y2, y3, j1, j2, j3, j4⟩ := m_jrow hml ho (n := n) (s := s) (a := a) (k := k) (way := i) hs (fun j hj => by rw [h1.2.2]; exact hw j hj) hak hi hn ht
    have hok := jrow_ok ho ht i
    have hlen : (jrow (lhl L) (bks w k) i).length ≤ 8 := Nat.le_trans (rowOK_len ho.1 hok) ho.1
    have hwr := m_wrongAt (rowM_ML j3 hml) ho hn hok j4
    have e4 : ((4 : Int32) ≤ nI i) = (4 ≤ i) := wIle (a := 4) (by decide) (by omega)
    have n1 : ¬ 4 ≤ i := by omega
    unfold fX10_joined_b130
    simp only [un2, e4, n1, if_false, hml.2.2.1, nI_add, bd, j1, j2, Option.bind_some, hwr, jud_ge hlen, nI_1]
    cases hj : jway L w k i with
    | false =>
      have hj' := hj
      unfold jway at hj'
      refine Or.inl ⟨(nI (i + 1), y3), by simp only [hj', if_true], y3, rfl, rowM_tr h1 j3, fun j h => ?_⟩
      by_cases e : j = i
      · rw [e]; exact hj
      · exact h2 j (by omega)
    | true =>
      have hj' := hj
      unfold jway at hj'
      exact Or.inr ⟨.inr (nI i, y3), by simp only [hj', Bool.true_eq_false, if_false], y3, rowM_tr h1 j3, Or.inr ⟨i, hi, hj, h2, rfl⟩⟩) (by
    rintro _ ⟨y1, rfl, h1, h2⟩
    refine ⟨.inl (nI 4, y1), ?_, y1, h1, Or.inl ⟨_, rfl, h2⟩⟩
    unfold fX10_joined_b130
    have : (4 : Int32) ≤ nI 4 := by decide
    simp only [un2, this, if_true]) n 0 ((0 : Int32), y) (by omega) ⟨y, rfl, ⟨fun _ _ _ => rfl, fun _ _ => rfl, rfl⟩, fun j hj => by omega⟩ (by omega)
  obtain ⟨y1, h1, h2⟩ := hq
  refine ⟨y1, h1, ?_⟩
  rcases h2 with ⟨v, rfl, h⟩ | ⟨i, hi, h3, h4, rfl⟩
  · exact Or.inl ⟨v, hz, h⟩
  · exact Or.inr ⟨i, hi, h3, h4, hz⟩
theorem st_joined {n : Nat} (hn : 20 ≤ n) : bs_joined Rl n := by
  rintro x y ⟨A, ho, hx, hy⟩ p1 p2 p3 p4
  unfold fX9_joined fX10_joined
  have g1 : (p4 < (1 : Int32)) = (p4.toInt < 1) := propext Int32.lt_iff_toInt_lt
  have g2 : (p4 ≤ (8 : Int32)) = (p4.toInt ≤ 8) := propext Int32.le_iff_toInt_le
  simp only [g1, g2, s_refusal ho hx, m_isSheet, m_isLane, m_in, Option.bind_some, un2, b2i_0, Int32.toInt_toInt64]
  by_cases h : 1 ≤ p4.toInt ∧ p4.toInt ≤ 8
  · have n1 : ¬ p4.toInt < 1 := by omega
    have n3 : decide ((1 : Int64).toInt ≤ p4.toInt ∧ p4.toInt ≤ (8 : Int64).toInt) = true := by
      apply decide_eq_true; simp; omega
    simp only [n1, h.2, if_false, if_true, n3, Bool.true_eq_false]
    cases h1 : isB 4 p1 with
    | false => exact ⟨-1, x, y, by simp, by simp, A, ho, hx, hy⟩
    | true =>
      cases h2 : isB 3 p2 with
      | false => exact ⟨-1, x, y, by simp, by simp, A, ho, hx, hy⟩
      | true =>
        obtain ⟨s, hs, rfl⟩ := isB_of (by decide) h1
        obtain ⟨l, hl, rfl⟩ := isB_of (by decide) h2
        obtain ⟨c1, c2, c3⟩ := hx.2.2.2.2 s hs
        obtain ⟨d1, d2⟩ := hy.2.2.2 s hs
        obtain ⟨o1, o2⟩ := ho.2.2.2 s hs
        simp only [Bool.and_self, if_true, Bool.true_eq_false, if_false, cl0 (show s < 2 ^ 31 by omega), cl0 (show l < 2 ^ 31 by omega), m_finds ho hy hs l hl p3 p4 (by omega), Option.bind_some, refu]
        by_cases e1 : (A.2.2.2 s).1 = 0
        · exact ⟨-11, x, y, by simp [e1], by simp [e1], A, ho, hx, hy⟩
        · by_cases e2 : (A.2.2.2 s).1 = l + 1
          · cases e3 : okH (A.2.2.2 s).2.1 p3 p4 with
            | false => exact ⟨-13, x, y, by simp [e1, e2], by simp [e1, e2], A, ho, hx, hy⟩
            | true =>
              obtain ⟨a, k, hak, rfl, rfl⟩ := okH_of o2 e3
              obtain ⟨d3, d4⟩ := d2 e1
              have hwC : ∀ j, j < k → x.2 (34 + 2 * s + 1) (a + j) = (fun j => (A.2.2.2 s).2.2 (a + j)) j := fun j hj => by
                rw [show 34 + 2 * s + 1 = 35 + 2 * s by omega]; exact c3 _ (by omega)
              have hwM : ∀ j, j < k → y.2 16 (16 * s + a + j) = (fun j => (A.2.2.2 s).2.2 (a + j)) j := fun j hj => by
                rw [Nat.add_assoc]; exact d4 _ (by omega)
              have e0 : (0 : Int32) ≤ 0 := by decide
              simp only [e1, e2, if_false, if_true, okN hs (by decide), s_areOthers hx.1 ho.1 hwC (by omega) hn, Option.bind_some, b2i_0, m_standingSet hy.1 ho.1 hn, e0]
              obtain ⟨z, hz, hq⟩ := m_others hy.1 ho.1 hs hwM (by omega) hn
              rw [hz]
              rcases hq with ⟨q1, u, v, rfl⟩ | ⟨q1, rfl⟩
              · obtain ⟨t, ht⟩ := Option.isSome_iff_exists.mp q1
                obtain ⟨x1, a1, a2⟩ := s_jloop hx.1 hx.2.1 ho.1 (n := n) hwC (by omega) hn ht
                obtain ⟨y1, b1, b2⟩ := m_jloop hy.1 ho.1 (n := n) hs hwM (by omega) hn ht
                have hR : Rl x1 y1 := ⟨A, ho, CR_same (lineC_same a1) hx, MR_same (rowM_same b1) hy⟩
                simp only [q1, Bool.true_eq_false, if_false, Option.bind_some, Sum.elim_inl, un3]
                rcases a2 with ⟨v, a2, a3⟩ | ⟨i, hi, a3, a4, a2⟩
                · rcases b2 with ⟨v, b2, b3⟩ | ⟨j, hj, b3, b4, b2⟩
                  · exact ⟨-4, x1, y1, by rw [a2]; rfl, by rw [b2]; rfl, hR⟩
                  · rw [a3 j hj] at b3; cases b3
                · rcases b2 with ⟨v, b2, b3⟩ | ⟨j, hj, b3, b4, b2⟩
                  · rw [b3 i hi] at a3; cases a3
                  · have : i = j := by
                      rcases Nat.lt_trichotomy i j with h | h | h
                      · rw [b4 i h] at a3; cases a3
                      · exact h
                      · rw [a4 j h] at b3; cases b3
                    subst this
                    exact ⟨nI i, x1, y1, by rw [a2]; rfl, by rw [b2]; rfl, hR⟩
              · exact ⟨-2, x, y, by simp [q1], rfl, A, ho, hx, hy⟩
          · exact ⟨-12, x, y, by simp [e1, e2], by simp [e1, e2], A, ho, hx, hy⟩
  · have n3 : decide ((1 : Int64).toInt ≤ p4.toInt ∧ p4.toInt ≤ (8 : Int64).toInt) = false := by
      apply decide_eq_false; simp; omega
    refine ⟨-1, x, y, ?_, ?_, A, ho, hx, hy⟩
    · by_cases a : p4.toInt < 1
      · simp [a]
      · have : ¬ p4.toInt ≤ 8 := by omega
        simp [a, this]
    · simp only [n3, if_true]
      cases isB 4 p1 <;> cases isB 3 p2 <;> simp
