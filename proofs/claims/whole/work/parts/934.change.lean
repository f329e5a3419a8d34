/-! ===== book, quote, hate, prop, thick, rule ===== -/
def uNat (f : Nat → Nat) (k v : Nat) : Nat → Nat := fun j => if j = k then v else f j
theorem lt_or_two {s m o : Nat} (h : s < 2 ^ m) (ho : o < m) : s ||| 2 ^ o < 2 ^ m := Nat.or_lt_two_pow h (Nat.pow_lt_pow_right (by decide) ho)
theorem andn_lt {s m : Nat} (b : Nat) (h : s < 2 ^ m) : andn s b < 2 ^ m := by
  unfold andn
  exact Nat.xor_lt_two_pow h (Nat.lt_of_le_of_lt Nat.and_le_left h)
def setb (s o : Nat) (p : Int32) : Nat := if p = 0 then andn s (2 ^ o) else s ||| 2 ^ o
theorem setb_lt {s m o : Nat} (p : Int32) (h : s < 2 ^ m) (ho : o < m) : setb s o p < 2 ^ m := by
  unfold setb; split
  · exact andn_lt _ h
  · exact lt_or_two h ho
theorem setb_bit (s o : Nat) (p : Int32) (i : Nat) : (setb s o p).testBit i = if i = o then decide (p ≠ 0) else s.testBit i := by
  unfold setb
  by_cases h : p = 0
  · simp only [h, if_true, andn_bit, Nat.testBit_two_pow]
    by_cases e : i = o
    · subst e; simp
    · have : ¬ o = i := fun q => e q.symm
      simp [e, this]
  · simp only [h, if_false, Nat.testBit_or, Nat.testBit_two_pow]
    by_cases e : i = o
    · subst e; simp [h]
    · have : ¬ o = i := fun q => e q.symm
      simp [e, this]
theorem up_of {f : Nat → Int32} {g : Nat → Nat} {n a v : Nat} (h : ∀ i, i < n → f i = nI (g i)) : ∀ i, i < n → upd f a (nI v) i = nI (uNat g a v i) := by
  intro i hi
  unfold upd uNat
  by_cases e : i = a <;> simp [e, h i hi]
theorem up_of' {f : Nat → Int32} {g : Nat → Nat} {n a v : Nat} (h : ∀ i, i < n → f i = nI (g i)) : ∀ i, i < n + 1 → (a = n) → upd f a (nI v) i = nI (uNat g a v i) := by
  intro i hi ha
  unfold upd uNat
  by_cases e : i = a
  · simp [e]
  · simp [e, h i (by omega)]
-- the libraries behind the calls
def Lbook (L : AL) (t : Nat) : AL := (lm L + 1, lpr L, uNat (lth L) (lm L) t, lqu L, lha L, lri L, lt3 L, lhl L)
def Lquote (L : AL) (a v : Nat) : AL := (lm L, lpr L, lth L, uNat (lqu L) a v, lha L, lri L, lt3 L, lhl L)
def Lhate (L : AL) (a v b w : Nat) : AL := (lm L, lpr L, lth L, lqu L, uNat (uNat (lha L) a v) b w, lri L, lt3 L, lhl L)
def Lprop (L : AL) (v : Nat) : AL := (lm L, v, lth L, lqu L, lha L, lri L, lt3 L, lhl L)
def Lthick (L : AL) (a v : Nat) : AL := (lm L, lpr L, uNat (lth L) a v, lqu L, lha L, lri L, lt3 L, lhl L)
def Lring (L : AL) (v : Nat) : AL := (lm L, lpr L, lth L, lqu L, lha L, v, lt3 L, lhl L)
def Lthirds (L : AL) (v : Nat) : AL := (lm L, lpr L, lth L, lqu L, lha L, lri L, v, lhl L)
theorem pw_le {a b : Nat} (h : a ≤ b) : 2 ^ a ≤ 2 ^ b := Nat.pow_le_pow_right (by decide) h
theorem OK_book {L : AL} (ho : OKL L) (h : lm L < 8) {t : Nat} (h1 : 1 ≤ t) (h9 : t ≤ 9) : OKL (Lbook L t) := by
  obtain ⟨o1, o2, o3, o4, o5, o6, o7, o8, o9⟩ := ho
  have hp : 2 ^ lm L ≤ 2 ^ (lm L + 1) := pw_le (by omega)
  refine ⟨?_, Nat.lt_of_lt_of_le o2 hp, ?_, fun i => ⟨Nat.lt_of_lt_of_le (o4 i).1 hp, (o4 i).2.1, fun h => (o4 i).2.2 (by have : lm L + 1 ≤ i := h; omega)⟩, fun i => ⟨Nat.lt_of_lt_of_le (o5 i).1 hp, (o5 i).2.1, fun h => (o5 i).2.2 (by have : lm L + 1 ≤ i := h; omega)⟩, o6, o7, o8, o9.1, fun b hb => Nat.lt_succ_of_lt (o9.2 b hb)⟩
  · show lm L + 1 ≤ 8; omega
  · intro i hi
    show 1 ≤ uNat (lth L) (lm L) t i ∧ uNat (lth L) (lm L) t i ≤ 9
    unfold uNat
    by_cases e : i = lm L
    · simp [e]; omega
    · simp only [e, if_false]
      exact o3 i (by have : i < lm L + 1 := hi; omega)
theorem OK_quote {L : AL} (ho : OKL L) {a b : Nat} (ha : a < lm L) (hb : b < lm L) (hab : a ≠ b) (p : Int32) : OKL (Lquote L a (setb (lqu L a) b p)) := by
  obtain ⟨o1, o2, o3, o4, o5, o6, o7, o8, o9⟩ := ho
  refine ⟨o1, o2, o3, fun i => ?_, o5, o6, o7, o8, o9⟩
  show uNat (lqu L) a _ i < _ ∧ (uNat (lqu L) a _ i).testBit i = false ∧ (lm L ≤ i → uNat (lqu L) a _ i = 0)
  unfold uNat
  by_cases e : i = a
  · subst e
    simp only [if_true]
    refine ⟨setb_lt p (o4 i).1 hb, ?_, fun h => by omega⟩
    rw [setb_bit]; simp [hab, (o4 i).2.1]
  · simp only [e, if_false]; exact o4 i
theorem OK_hate {L : AL} (ho : OKL L) {a b : Nat} (ha : a < lm L) (hb : b < lm L) (hab : a ≠ b) (p : Int32) : OKL (Lhate L a (setb (lha L a) b p) b (setb (lha L b) a p)) := by
  obtain ⟨o1, o2, o3, o4, o5, o6, o7, o8, o9⟩ := ho
  have key : ∀ i, lha (Lhate L a (setb (lha L a) b p) b (setb (lha L b) a p)) i = if i = b then setb (lha L b) a p else if i = a then setb (lha L a) b p else lha L i := fun i => rfl
  refine ⟨o1, o2, o3, o4, fun i => ?_, fun i j => ?_, o7, o8, o9⟩
  · rw [key]
    by_cases e : i = b
    · subst e
      simp only [if_true]
      refine ⟨setb_lt p (o5 i).1 ha, ?_, fun h => by have : lm L ≤ i := h; omega⟩
      rw [setb_bit]; simp [Ne.symm hab, (o5 i).2.1]
    · by_cases e2 : i = a
      · subst e2
        simp only [e, if_false, if_true]
        refine ⟨setb_lt p (o5 i).1 hb, ?_, fun h => by have : lm L ≤ i := h; omega⟩
        rw [setb_bit]; simp [hab, (o5 i).2.1]
      · simp only [e, e2, if_false]; exact o5 i
  · have kb : ∀ i j, (lha (Lhate L a (setb (lha L a) b p) b (setb (lha L b) a p)) i).testBit j = if (i = b ∧ j = a) ∨ (i = a ∧ j = b) then decide (p ≠ 0) else (lha L i).testBit j := by
      intro i j
      rw [key]
      by_cases i1 : i = b
      · subst i1
        rw [if_pos rfl, setb_bit]
        by_cases j1 : j = a
        · simp [j1]
        · simp [j1, Ne.symm hab]
      · rw [if_neg i1]
        by_cases i2 : i = a
        · subst i2
          rw [if_pos rfl, setb_bit]
          by_cases j1 : j = b
          · simp [j1]
          · simp [j1, hab]
        · rw [if_neg i2]; simp [i1, i2]
    rw [kb, kb, o6 i j]
    have : ((i = b ∧ j = a) ∨ (i = a ∧ j = b)) = ((j = b ∧ i = a) ∨ (j = a ∧ i = b)) := by apply propext; constructor <;> (rintro (⟨h1, h2⟩ | ⟨h1, h2⟩) <;> simp [h1, h2])
    simp only [this]
theorem OK_prop {L : AL} (ho : OKL L) {a : Nat} (ha : a < lm L) (p : Int32) : OKL (Lprop L (setb (lpr L) a p)) := ⟨ho.1, setb_lt p ho.2.1 ha, ho.2.2⟩
theorem OK_thick {L : AL} (ho : OKL L) {a t : Nat} (h1 : 1 ≤ t) (h9 : t ≤ 9) : OKL (Lthick L a t) := by
  refine ⟨ho.1, ho.2.1, fun i hi => ?_, ho.2.2.2⟩
  show 1 ≤ uNat (lth L) a t i ∧ uNat (lth L) a t i ≤ 9
  unfold uNat
  by_cases e : i = a
  · simp [e]; omega
  · simp only [e, if_false]; exact ho.2.2.1 i hi
theorem OK_ring {L : AL} (ho : OKL L) {v : Nat} (h : v ≤ 1) : OKL (Lring L v) := ⟨ho.1, ho.2.1, ho.2.2.1, ho.2.2.2.1, ho.2.2.2.2.1, ho.2.2.2.2.2.1, h, ho.2.2.2.2.2.2.2.1, ho.2.2.2.2.2.2.2.2⟩
theorem OK_thirds {L : AL} (ho : OKL L) {v : Nat} (h : v ≤ 1) : OKL (Lthirds L v) := ⟨ho.1, ho.2.1, ho.2.2.1, ho.2.2.2.1, ho.2.2.2.2.1, ho.2.2.2.2.2.1, ho.2.2.2.2.2.2.1, h, ho.2.2.2.2.2.2.2.2⟩
theorem thick_of {p : Int32} (h : decide (1 ≤ p.toInt ∧ p.toInt ≤ 9) = true) : ∃ t, 1 ≤ t ∧ t ≤ 9 ∧ p = nI t := by
  have h1 := of_decide_eq_true h
  obtain ⟨t, ht, rfl⟩ := vp_in_of (x := p) (n := 10) (vp_in_iff.mpr (by omega)) (by decide)
  rw [nI_toInt (by omega)] at h1
  exact ⟨t, by omega, by omega, rfl⟩
theorem m_thick (p : Int32) (y : bq_S) : fX10_in p.toInt64 (1 : Int64) (9 : Int64) y = some (b2i (decide (1 ≤ p.toInt ∧ p.toInt ≤ 9)), y) := by
  rw [m_in]; simp
theorem st_book {n : Nat} (hn : 20 ≤ n) : bs_book Rl n := by
  rintro x y ⟨A, ho, hx, hy⟩ p1
  unfold fX9_book fX10_book
  rw [s_isThick, m_thick]
  cases h : decide (1 ≤ p1.toInt ∧ p1.toInt ≤ 9) with
  | false => exact ⟨-1, x, y, by simp [un2, b2i], by simp [un2, b2i], A, ho, hx, hy⟩
  | true =>
    obtain ⟨t, h1, h9, rfl⟩ := thick_of h
    simp only [Option.bind_some, un2, b2i_0, Bool.true_eq_false, if_false, hx.1.1, hy.1.1]
    have e8 : (nI (lm A.1) = (8 : Int32)) = (lm A.1 = 8) := wIeq (b := 8) (mem8 ho.1) (by decide)
    simp only [e8]
    by_cases h8 : lm A.1 = 8
    · exact ⟨-3, x, y, by simp [h8], by simp [h8], A, ho, hx, hy⟩
    · have hlt : lm A.1 < 8 := by have := ho.1.1; omega
      have hoL := OK_book ho.1 hlt h1 h9
      obtain ⟨c1, c2, c3, c4, c5, c6, c7, c8, c9⟩ := hx.1
      obtain ⟨d1, d2, d3, d4, d5, d6, d7, d8, d9⟩ := hy.1
      have hCL : CL (bq_sI (bq_sI x 2 (lm A.1) (nI t)) 1 0 (nI (lm A.1 + 1))) 1 (Lbook A.1 t) := by
        refine ⟨rfl, c2, c3, ?_, c5, c6, c7, c8, c9⟩
        intro i hi
        exact up_of' c4 i hi rfl
      obtain ⟨x2, k1, k2, k3, k4, k5, k6⟩ := learn_lib (x := x) hn hoL hCL (fun c hc => by rw [sI_n _ _ _ (by omega), sI_n _ _ _ (by omega)]) rfl
      have hk0 : x2.1 1 0 = nI (lm A.1 + 1) := (congrFun (k6 1 (by decide)) 0).trans rfl
      have hand : nI (lpr A.1) &&& (((1 : Int32) <<< (nI (lm A.1) &&& 31)) ^^^ (-1 : Int32)) = nI (lpr A.1) := by
        rw [wI_sh (by omega), wI_andn]
        congr 1
        unfold andn
        have : lpr A.1 &&& 2 ^ lm A.1 = 0 := by
          rw [tb_two]; exact Nat.testBit_lt_two_pow ho.1.2.1
        rw [this, Nat.xor_zero]
      refine ⟨nI (lm A.1), x2, bq_sI (bq_sI (bq_sI (bq_sI (bq_sI y 1 (lm A.1) (nI t)) 2 (lm A.1) 0) 3 (lm A.1) 0) 0 4 (nI (lpr A.1))) 0 0 (nI (lm A.1 + 1)), ?_, ?_, ?_⟩
      · unfold fX4_add
        simp only [h8, if_false, c1, okN hlt (by decide), if_true, bd, cl0 (mem8 ho.1)]
        have : (bq_sI x (1 + 1) (lm A.1) (nI t)).1 1 0 + 1 = nI (lm A.1 + 1) := by
          rw [sI_n _ _ _ (by decide), c1, nI_1]
        rw [this]
        show ((fX4_learnNear n 1 (bq_sI (bq_sI x 2 (lm A.1) (nI t)) 1 0 (nI (lm A.1 + 1)))).bind _).bind _ = _
        rw [k1]
        simp only [Option.bind_some, hk0, nI_pred]
      · have z1 : (bq_sI y 1 (lm A.1) (nI t)).1 0 0 = nI (lm A.1) := d1
        have z2 : (bq_sI (bq_sI y 1 (lm A.1) (nI t)) 2 (lm A.1) 0).1 0 0 = nI (lm A.1) := d1
        have z3 : (bq_sI (bq_sI (bq_sI y 1 (lm A.1) (nI t)) 2 (lm A.1) 0) 3 (lm A.1) 0).1 0 0 = nI (lm A.1) := d1
        have z4 : (bq_sI (bq_sI (bq_sI y 1 (lm A.1) (nI t)) 2 (lm A.1) 0) 3 (lm A.1) 0).1 0 4 = nI (lpr A.1) := d2
        simp only [h8, if_false, okN hlt (by decide), if_true, bd, cl0 (mem8 ho.1), z1, z2, z3, z4, hand]
        have z5 : (bq_sI (bq_sI (bq_sI (bq_sI y 1 (lm A.1) (nI t)) 2 (lm A.1) 0) 3 (lm A.1) 0) 0 4 (nI (lpr A.1))).1 0 0 = nI (lm A.1) := d1
        simp only [z5, nI_1]
        have z6 : (bq_sI (bq_sI (bq_sI (bq_sI (bq_sI y 1 (lm A.1) (nI t)) 2 (lm A.1) 0) 3 (lm A.1) 0) 0 4 (nI (lpr A.1))) 0 0 (nI (lm A.1 + 1))).1 0 0 = nI (lm A.1 + 1) := rfl
        rw [z6, nI_pred]
      · refine Rl_lib ho hx hy hoL k2 k3 k4 k5 (fun k hk => ?_) (fun c hc => ?_) rfl ?_
        · rcases hk with rfl | rfl <;> rfl
        · rw [sI_n _ _ _ (by omega), sI_n _ _ _ (by omega), sI_n _ _ _ (by omega), sI_n _ _ _ (by omega), sI_n _ _ _ (by omega)]
        · refine ⟨rfl, rfl, d3, fun i hi => up_of' d4 i hi rfl, fun i hi => ?_, fun i hi => ?_, d7, d8, d9⟩
          · show upd (y.1 2) (lm A.1) 0 i = nI (lqu A.1 i)
            by_cases e : i = lm A.1
            · subst e; rw [pk_us, (ho.1.2.2.2.1 _).2.2 (Nat.le_refl _)]; rfl
            · rw [pk_un e]; exact d5 i (by have : i < lm A.1 + 1 := hi; omega)
          · show upd (y.1 3) (lm A.1) 0 i = nI (lha A.1 i)
            by_cases e : i = lm A.1
            · subst e; rw [pk_us, (ho.1.2.2.2.2.1 _).2.2 (Nat.le_refl _)]; rfl
            · rw [pk_un e]; exact d6 i (by have : i < lm A.1 + 1 := hi; omega)
theorem st_quote {n : Nat} (hn : 20 ≤ n) : bs_quote Rl n := by
  rintro x y ⟨A, ho, hx, hy⟩ p1 p2 p3
  unfold fX9_quote fX10_quote
  rw [s_areTwo hx.1 ho.1, m_areTwo hy.1 ho.1]
  cases h : are2 (lm A.1) p1 p2 with
  | false => exact ⟨-1, x, y, by simp [un2, b2i], by simp [un2, b2i], A, ho, hx, hy⟩
  | true =>
    obtain ⟨a, b, ha, hb, hab, rfl, rfl⟩ := are2_of (mem8 ho.1) h
    have h8 := ho.1.1
    have hoL := OK_quote ho.1 ha hb hab p3
    obtain ⟨c1, c2, c3, c4, c5, c6, c7, c8, c9⟩ := hx.1
    obtain ⟨d1, d2, d3, d4, d5, d6, d7, d8, d9⟩ := hy.1
    have ca : (nI a).toNatClampNeg = a := cl0 (by omega)
    have hCL : CL (bq_sI x 3 a (nI (setb (lqu A.1 a) b p3))) 1 (Lquote A.1 a (setb (lqu A.1 a) b p3)) := ⟨c1, c2, c3, c4, up_of c5, c6, c7, c8, c9⟩
    obtain ⟨x2, k1, k2, k3, k4, k5, k6⟩ := learn_lib (x := x) hn hoL hCL (fun c hc => by rw [sI_n _ _ _ (by omega)]) rfl
    refine ⟨b2i ((lqu A.1 a).testBit b), x2, bq_sI y 2 a (nI (setb (lqu A.1 a) b p3)), ?_, ?_, ?_⟩
    · unfold fX4_setQuoted
      have c5' : x.1 (1 + 2) a = nI (lqu A.1 a) := c5 a (by omega)
      simp only [Option.bind_some, un2, b2i_0, Bool.true_eq_false, if_false, okN (show a < 8 by omega) (by decide), if_true, ca, c5', s_has _ _ _ (qu31 ho.1 a) (show b < 31 by omega), s_with _ b p3 x (show b < 31 by omega), bd, b2i_g]
      show ((fX4_learnNear n 1 (bq_sI x 3 a (nI (setb (lqu A.1 a) b p3)))).bind _).bind _ = _
      rw [k1]
      simp only [Option.bind_some, un2, b2i_0]
      cases (lqu A.1 a).testBit b <;> simp [b2i]
    · simp only [Option.bind_some, un2, b2i_0, Bool.true_eq_false, if_false, okN (show a < 8 by omega) (by decide), if_true, ca, d5 a ha, wI_bit (qu31 ho.1 a) (show b < 31 by omega), wI_sh (show b < 31 by omega), wI_andn, wI_or, bd]
      unfold setb
      by_cases e : p3 = 0 <;> simp [e]
    · refine Rl_lib ho hx hy hoL k2 k3 k4 k5 (fun k hk => rfl) (fun c hc => sI_n _ _ _ (by omega)) rfl ⟨d1, d2, d3, d4, up_of d5, d6, d7, d8, d9⟩
theorem st_hate {n : Nat} (hn : 20 ≤ n) : bs_hate Rl n := by
  rintro x y ⟨A, ho, hx, hy⟩ p1 p2 p3
  unfold fX9_hate fX10_hate
  rw [s_areTwo hx.1 ho.1, m_areTwo hy.1 ho.1]
  cases h : are2 (lm A.1) p1 p2 with
  | false => exact ⟨-1, x, y, by simp [un2, b2i], by simp [un2, b2i], A, ho, hx, hy⟩
  | true =>
    obtain ⟨a, b, ha, hb, hab, rfl, rfl⟩ := are2_of (mem8 ho.1) h
    have h8 := ho.1.1
    have hoL := OK_hate ho.1 ha hb hab p3
    obtain ⟨c1, c2, c3, c4, c5, c6, c7, c8, c9⟩ := hx.1
    obtain ⟨d1, d2, d3, d4, d5, d6, d7, d8, d9⟩ := hy.1
    have ca : (nI a).toNatClampNeg = a := cl0 (by omega)
    have cb : (nI b).toNatClampNeg = b := cl0 (by omega)
    have hCL : CL (bq_sI (bq_sI x 4 a (nI (setb (lha A.1 a) b p3))) 4 b (nI (setb (lha A.1 b) a p3))) 1 (Lhate A.1 a (setb (lha A.1 a) b p3) b (setb (lha A.1 b) a p3)) := by
      refine ⟨c1, c2, c3, c4, c5, ?_, c7, c8, c9⟩
      show ∀ i, i < 8 → (bq_sI (bq_sI x 4 a (nI (setb (lha A.1 a) b p3))) 4 b (nI (setb (lha A.1 b) a p3))).1 4 i = _
      rw [sI_s, sI_s]
      exact up_of (up_of c6)
    obtain ⟨x2, k1, k2, k3, k4, k5, k6⟩ := learn_lib (x := x) hn hoL hCL (fun c hc => by rw [sI_n _ _ _ (by omega), sI_n _ _ _ (by omega)]) rfl
    refine ⟨b2i ((lha A.1 a).testBit b), x2, bq_sI (bq_sI y 3 a (nI (setb (lha A.1 a) b p3))) 3 b (nI (setb (lha A.1 b) a p3)), ?_, ?_, ?_⟩
    · unfold fX4_setHated
      have c6a : x.1 (1 + 3) a = nI (lha A.1 a) := c6 a (by omega)
      have e1 : (bq_sI x (1 + 3) a (nI (setb (lha A.1 a) b p3))).1 (1 + 3) b = nI (lha A.1 b) := by
        rw [sI_s, pk_un (Ne.symm hab)]; exact c6 b (by omega)
      simp only [Option.bind_some, un2, b2i_0, Bool.true_eq_false, if_false, okN (show a < 8 by omega) (by decide), okN (show b < 8 by omega) (by decide), if_true, ca, cb, c6a, s_has _ _ _ (ha31 ho.1 a) (show b < 31 by omega), s_with _ b p3 x (show b < 31 by omega), bd, b2i_g]
      have e2 : nI (if p3 = 0 then andn (lha A.1 a) (2 ^ b) else lha A.1 a ||| 2 ^ b) = nI (setb (lha A.1 a) b p3) := rfl
      rw [e2, e1, s_with _ a p3 _ (show a < 31 by omega)]
      simp only [Option.bind_some]
      show ((fX4_learnNear n 1 (bq_sI (bq_sI x 4 a (nI (setb (lha A.1 a) b p3))) 4 b (nI (setb (lha A.1 b) a p3)))).bind _).bind _ = _
      rw [k1]
      simp only [Option.bind_some, un2, b2i_0]
      cases (lha A.1 a).testBit b <;> simp [b2i]
    · unfold fX10_hate_j57
      simp only [Option.bind_some, un2, b2i_0, Bool.true_eq_false, if_false, okN (show a < 8 by omega) (by decide), okN (show b < 8 by omega) (by decide), if_true, ca, cb, d6 a ha, wI_bit (ha31 ho.1 a) (show b < 31 by omega), wI_sh (show b < 31 by omega), wI_sh (show a < 31 by omega), wI_andn, wI_or, bd, sI_s, pk_un (Ne.symm hab), d6 b hb]
      unfold setb
      by_cases e : p3 = 0 <;> simp [e]
    · refine Rl_lib ho hx hy hoL k2 k3 k4 k5 (fun k hk => rfl) (fun c hc => by rw [sI_n _ _ _ (by omega), sI_n _ _ _ (by omega)]) rfl ⟨d1, d2, d3, d4, d5, ?_, d7, d8, d9⟩
      rw [sI_s, sI_s]
      exact up_of (up_of d6)
theorem st_prop {n : Nat} (hn : 20 ≤ n) : bs_prop Rl n := by
  rintro x y ⟨A, ho, hx, hy⟩ p1 p2
  unfold fX9_prop fX10_prop
  rw [s_isBook hx.1 ho.1, isBl_32, m_isBook hy.1 ho.1]
  cases h : isB (lm A.1) p1 with
  | false => exact ⟨-1, x, y, by simp [un2, b2i], by simp [un2, b2i], A, ho, hx, hy⟩
  | true =>
    obtain ⟨a, ha, rfl⟩ := isB_of (mem8 ho.1) h
    have h8 := ho.1.1
    have hoL := OK_prop ho.1 ha p2
    obtain ⟨c1, c2, c3, c4, c5, c6, c7, c8, c9⟩ := hx.1
    obtain ⟨d1, d2, d3, d4, d5, d6, d7, d8, d9⟩ := hy.1
    have hCL : CL (bq_sI x 1 1 (nI (setb (lpr A.1) a p2))) 1 (Lprop A.1 (setb (lpr A.1) a p2)) := ⟨c1, rfl, c3, c4, c5, c6, c7, c8, c9⟩
    obtain ⟨x2, k1, k2, k3, k4, k5, k6⟩ := learn_lib (x := x) hn hoL hCL (fun c hc => by rw [sI_n _ _ _ (by omega)]) rfl
    refine ⟨b2i ((lpr A.1).testBit a), x2, bq_sI y 0 4 (nI (setb (lpr A.1) a p2)), ?_, ?_, ?_⟩
    · unfold fX4_setProp
      simp only [Option.bind_some, un2, b2i_0, Bool.true_eq_false, if_false, c2, s_has _ _ _ (pr31 ho.1) (show a < 31 by omega), s_with _ a p2 x (show a < 31 by omega), bd, b2i_g]
      show ((fX4_learnNear n 1 (bq_sI x 1 1 (nI (setb (lpr A.1) a p2)))).bind _).bind _ = _
      rw [k1]
      simp only [Option.bind_some, un2, b2i_0]
      cases (lpr A.1).testBit a <;> simp [b2i]
    · simp only [Option.bind_some, un2, b2i_0, Bool.true_eq_false, if_false, d2, wI_bit (pr31 ho.1) (show a < 31 by omega), wI_sh (show a < 31 by omega), wI_andn, wI_or, bd]
      unfold setb
      by_cases e : p2 = 0 <;> simp [e]
    · refine Rl_lib ho hx hy hoL k2 k3 k4 k5 (fun k hk => ?_) (fun c hc => sI_n _ _ _ (by omega)) rfl ⟨d1, rfl, d3, d4, d5, d6, d7, d8, d9⟩
      rcases hk with rfl | rfl <;> rfl
theorem st_thick (n : Nat) : bs_thick Rl n := by
  rintro x y ⟨A, ho, hx, hy⟩ p1 p2
  unfold fX9_thick fX10_thick
  rw [s_isBook hx.1 ho.1, isBl_32, m_isBook hy.1 ho.1]
  cases h : isB (lm A.1) p1 with
  | false => exact ⟨-1, x, y, by simp [un2, b2i], by simp [un2, b2i], A, ho, hx, hy⟩
  | true =>
    obtain ⟨a, ha, rfl⟩ := isB_of (mem8 ho.1) h
    have h8 := ho.1.1
    simp only [Option.bind_some, un2, b2i_0, Bool.true_eq_false, if_false]
    rw [s_isThick, m_thick]
    cases h2 : decide (1 ≤ p2.toInt ∧ p2.toInt ≤ 9) with
    | false => exact ⟨-1, x, y, by simp [b2i], by simp [b2i], A, ho, hx, hy⟩
    | true =>
      obtain ⟨t, h1, h9, rfl⟩ := thick_of h2
      have hoL := OK_thick (a := a) ho.1 h1 h9
      obtain ⟨c1, c2, c3, c4, c5, c6, c7, c8, c9⟩ := hx.1
      obtain ⟨d1, d2, d3, d4, d5, d6, d7, d8, d9⟩ := hy.1
      have ca : (nI a).toNatClampNeg = a := cl0 (by omega)
      refine ⟨nI (lth A.1 a), bq_sI x 2 a (nI t), bq_sI y 1 a (nI t), ?_, ?_, ?_⟩
      · have c4' : x.1 2 a = nI (lth A.1 a) := c4 a ha
        simp only [Option.bind_some, b2i_0, Bool.true_eq_false, if_false, okN (show a < 8 by omega) (by decide), if_true, ca, bd, c4']
      · simp only [Option.bind_some, b2i_0, Bool.true_eq_false, if_false, okN (show a < 8 by omega) (by decide), if_true, ca, bd, d4 a ha]
      · refine Rl_lib ho hx hy hoL (fun c hc => sI_n _ _ _ (by omega)) rfl ⟨c1, c2, c3, up_of c4, c5, c6, c7, c8, c9⟩ ?_ (fun k hk => rfl) (fun c hc => sI_n _ _ _ (by omega)) rfl ⟨d1, d2, d3, up_of d4, d5, d6, d7, d8, d9⟩
        intro i hi
        exact hx.2.1 i hi
theorem st_rule {n : Nat} (hn : 20 ≤ n) : bs_rule Rl n := by
  rintro x y ⟨A, ho, hx, hy⟩ p1 p2
  unfold fX9_rule fX10_rule
  have g1 : (p1 < 0) = (p1.toInt < 0) := propext Int32.lt_iff_toInt_lt
  have g2 : ((2 : Int32) ≤ p1) = (2 ≤ p1.toInt) := propext Int32.le_iff_toInt_le
  have g3 : (p2 < 0) = (p2.toInt < 0) := propext Int32.lt_iff_toInt_lt
  have g4 : (p2 ≤ (1 : Int32)) = (p2.toInt ≤ 1) := propext Int32.le_iff_toInt_le
  simp only [g1, g2, g3, g4, m_in, Option.bind_some, un2, Int32.toInt_toInt64, b2i_0]
  by_cases h1 : 0 ≤ p1.toInt ∧ p1.toInt ≤ 1
  · by_cases h2 : 0 ≤ p2.toInt ∧ p2.toInt ≤ 1
    · obtain ⟨a, ha, rfl⟩ := vp_in_of (x := p1) (n := 2) (vp_in_iff.mpr (by omega)) (by decide)
      obtain ⟨v, hv, rfl⟩ := vp_in_of (x := p2) (n := 2) (vp_in_iff.mpr (by omega)) (by decide)
      have ca : (nI a).toNatClampNeg = a := cl0 (by omega)
      obtain ⟨c1, c2, c3, c4, c5, c6, c7, c8, c9⟩ := hx.1
      obtain ⟨d1, d2, d3, d4, d5, d6, d7, d8, d9⟩ := hy.1
      have n1 : ¬ (nI a).toInt < 0 := by omega
      have n2 : ¬ 2 ≤ (nI a).toInt := by omega
      have n3 : ¬ (nI v).toInt < 0 := by omega
      have hkey : ∃ L v0, OKL L ∧ CL (bq_sI x 5 a (nI v)) 1 L ∧ ML (bq_sI y 4 a (nI v)) L ∧ x.1 5 a = nI v0 ∧ y.1 4 a = nI v0 := by
        rcases (show a = 0 ∨ a = 1 by omega) with rfl | rfl
        · exact ⟨Lring A.1 v, lri A.1, OK_ring ho.1 (by omega), ⟨c1, c2, c3, c4, c5, c6, rfl, c8, c9⟩, ⟨d1, d2, d3, d4, d5, d6, rfl, d8, d9⟩, c7, d7⟩
        · exact ⟨Lthirds A.1 v, lt3 A.1, OK_thirds ho.1 (by omega), ⟨c1, c2, c3, c4, c5, c6, c7, rfl, c9⟩, ⟨d1, d2, d3, d4, d5, d6, d7, rfl, d9⟩, c8, d8⟩
      obtain ⟨L, v0, hoL, hCL, hML, e1, e2⟩ := hkey
      obtain ⟨x2, k1, k2, k3, k4, k5, k6⟩ := learn_lib (x := x) hn hoL hCL (fun c hc => by rw [sI_n _ _ _ (by omega)]) rfl
      refine ⟨nI v0, x2, bq_sI y 4 a (nI v), ?_, ?_, ?_⟩
      · unfold fX4_setLaw
        have e1' : x.1 (1 + 4) a = nI v0 := e1
        simp only [n1, n2, n3, h2.2, if_false, if_true, okN ha (by decide), ca, bd, e1']
        show ((fX4_learnNear n 1 (bq_sI x 5 a (nI v))).bind _).bind _ = _
        rw [k1]; rfl
      · simp [okN ha, ca, bd, e2, h1.1, h1.2, h2.1, h2.2]
      · exact Rl_lib ho hx hy hoL k2 k3 k4 k5 (fun k hk => rfl) (fun c hc => sI_n _ _ _ (by omega)) rfl hML
    · refine ⟨-1, x, y, ?_, ?_, A, ho, hx, hy⟩
      · have n1 : ¬ p1.toInt < 0 := by omega
        have n2 : ¬ 2 ≤ p1.toInt := by omega
        simp only [n1, n2, if_false]
        by_cases n3 : p2.toInt < 0
        · simp [n3]
        · have n4 : ¬ p2.toInt ≤ 1 := by omega
          simp [n3, n4]
      · have : ¬ ((0 : Int) ≤ p2.toInt ∧ p2.toInt ≤ 1) := h2
        simp [h1.1, h1.2]
        intro q; omega
  · refine ⟨-1, x, y, ?_, ?_, A, ho, hx, hy⟩
    · by_cases n1 : p1.toInt < 0
      · simp [n1]
      · have n2 : 2 ≤ p1.toInt := by omega
        simp [n1, n2]
    · simp
      intro q1 q2; omega
