/-! ===== step burnt ===== -/
def chp (T : Nat → Nat → Bool) (r : List Nat) : Nat → Bool
  | 0 => true
  | k + 1 => chp T r k && (decide (k + 1 = r.length) || T (gt r k) (gt r (k + 1)))
theorem chp_iff (T : Nat → Nat → Bool) (r : List Nat) : ∀ k, chp T r k = true ↔ ∀ j, j < k → (j + 1 = r.length ∨ T (gt r j) (gt r (j + 1)) = true)
  | 0 => by simp [chp]
  | k + 1 => by
    rw [chp, Bool.and_eq_true, chp_iff T r k, Bool.or_eq_true, decide_eq_true_iff]
    constructor
    · intro h j hj
      by_cases e : j = k
      · subst e; exact h.2
      · exact h.1 j (by omega)
    · intro h
      exact ⟨fun j hj => h j (by omega), h k (by omega)⟩
theorem chn_iff (T : Nat → Nat → Bool) : ∀ (q : List Nat) (b : Nat), chn T b q = true ↔ ∀ j, j < q.length → T (gt (b :: q) j) (gt (b :: q) (j + 1)) = true
  | [], b => by simp [chn]
  | c :: q, b => by
    rw [chn, Bool.and_eq_true, chn_iff T q c]
    constructor
    · intro h j hj
      cases j with
      | zero => exact h.1
      | succ j => exact h.2 j (by simpa using hj)
    · intro h
      exact ⟨h 0 (by simp), fun j hj => h (j + 1) (by simpa using hj)⟩
theorem chp_chn (T : Nat → Nat → Bool) (b : Nat) (q : List Nat) : chp T (b :: q) (q.length + 1) = chn T b q := by
  rw [Bool.eq_iff_iff, chp_iff, chn_iff]
  constructor
  · intro h j hj
    rcases h j (by omega) with e | e
    · simp at e; omega
    · exact e
  · intro h j hj
    by_cases e : j = q.length
    · left; simp [e]
    · right; exact h j (by omega)
theorem m_fits_loop {y : bq_S} {L : AL} (hc : ML y L) (ho : OKL L) {n : Nat} (p1 p2 p3 : Int32) (hn : 20 ≤ n) {r : List Nat} (hr : rowOK (lm L) r) (hR : MRow y r) : wh n (fX10_fits_b9 n p1 p2 p3) ((0 : Int32), (1 : Int32), (0 : Int32), y) = some (nI (sumN (fun j => lth L (gt r j)) r.length), b2i (chp (tch L) r r.length), nI r.length, y) := by
  have hlen : r.length ≤ 8 := Nat.le_trans (rowOK_len ho.1 hr) ho.1
  have hm := ho.1
  have hb : ∀ i, i < r.length → gt r i < lm L := fun i hi => hr.2 _ (gt_mem hi)
  obtain ⟨z, hz, rfl⟩ := wh_for (b := fX10_fits_b9 n p1 p2 p3) (fun i z => z = (nI (sumN (fun j => lth L (gt r j)) i), b2i (chp (tch L) r i), nI i, y)) (fun z => z = (nI (sumN (fun j => lth L (gt r j)) r.length), b2i (chp (tch L) r r.length), nI r.length, y)) r.length (by
    rintro i _ hi rfl
    have n1 : ¬ r.length ≤ i := by omega
    have hg := hb i hi
    have h1 : y.1 1 (gt r i) = nI (lth L (gt r i)) := hc.2.2.2.1 _ hg
    refine Or.inl ⟨_, ?_, rfl⟩
    have eq1 : (nI (i + 1) = nI r.length) = (i + 1 = r.length) := wIeq (by omega) (by omega)
    unfold fX10_fits_b9
    simp only [un4, hR.1, wIle (show r.length < 2 ^ 31 by omega) (show i < 2 ^ 31 by omega), n1, if_false, okN (show i < 8 by omega) (by decide), if_true, cl0 (show i < 2 ^ 31 by omega), hR.2 i hi, okN (show gt r i < 8 by omega) (by decide), cl0 (show gt r i < 2 ^ 31 by omega), h1, bd, nI_add, nI_1, b2i_0, eq1]
    have es : sumN (fun j => lth L (gt r j)) (i + 1) = sumN (fun j => lth L (gt r j)) i + lth L (gt r i) := rfl
    have ec : chp (tch L) r (i + 1) = (chp (tch L) r i && (decide (i + 1 = r.length) || tch L (gt r i) (gt r (i + 1)))) := rfl
    rw [es, ec]
    cases chp (tch L) r i with
    | false => rw [if_pos rfl]; rfl
    | true =>
      rw [if_neg (by decide)]
      by_cases c2 : i + 1 = r.length
      · rw [if_pos c2]; simp [c2, b2i]
      · rw [if_neg c2]
        have hi1 : i + 1 < r.length := by omega
        simp only [okN (show i + 1 < 8 by omega) (by decide), if_true, cl0 (show i + 1 < 2 ^ 31 by omega), hR.2 (i + 1) hi1, m_mayTouch hc ho _ _ hg (hb (i + 1) hi1), ← tch_may hg (hb (i + 1) hi1) (gt_ne hr.1 hi hi1 (by omega)), Option.bind_some, un2, b2i_0, c2, decide_false, Bool.false_or, Bool.true_and]
        cases tch L (gt r i) (gt r (i + 1)) <;> rfl) (by
    rintro _ rfl
    refine ⟨_, ?_, rfl⟩
    unfold fX10_fits_b9
    simp only [un4, hR.1, Int32.le_refl, if_true]) n 0 ((0 : Int32), (1 : Int32), (0 : Int32), y) (by omega) rfl (by omega)
  exact hz
def okF (L : AL) (a b th : Nat) : List Nat → Bool := okR (fiS L a b) (tch L) (WW L (clB L a b) (laS L a b) (nI th))
theorem thS_row {L : AL} (ho : OKL L) {r : List Nat} (hr : rowOK (lm L) r) : thS L (setOf r) = sumN (fun j => lth L (gt r j)) r.length := by
  have hm := ho.1
  exact sum_set (lth L) hr.1 (fun b hb => by have := hr.2 b hb; omega) r.length (Nat.le_refl _)
theorem m_fits {y : bq_S} {L : AL} (hc : ML y L) (ho : OKL L) {n a b th c : Nat} {q : List Nat} (hn : 20 ≤ n) (hab : a ≤ b) (hb : b < (lhl L).length) (hr : rowOK (lm L) (c :: q)) (hlen : q.length = b - a) (hR : MRow y (c :: q)) (hd : ∀ v ∈ c :: q, ∀ j, j < (lhl L).length → ¬ (a ≤ j ∧ j ≤ b) → v ≠ gt (lhl L) j) (ht : th ≤ 99) : fX10_fits n (nI a) (nI b) (nI th) y = some (b2i (okF L a b th (c :: q)), y) := by
  have h8 := hall8 ho
  have hm := ho.1
  have hcl : c < lm L := hr.2 c (by simp)
  have hll : lst c q < lm L := hr.2 _ (lst_mem c q)
  have h17 : y.1 0 17 = nI (q.length + 1) := hR.1
  have h6 : y.1 0 6 = nI (lhl L).length := hc.2.2.1
  have h7 : y.1 4 (0 : Int32).toNatClampNeg = nI (lri L) := hc.2.2.2.2.2.2.1
  have e1 : (nI (lri L) = (1 : Int32)) = (lri L = 1) := wIeq (b := 1) (by have := ho.2.2.2.2.2.2.1; omega) (by decide)
  have e2 : (nI (lhl L).length ≤ (2 : Int32)) = ((lhl L).length ≤ 2) := wIle (b := 2) (by omega) (by decide)
  have e3 : (nI (q.length + 1) = nI (lhl L).length) = (q.length + 1 = (lhl L).length) := wIeq (by omega) (by omega)
  have em : nI (q.length + 1) - 1 = nI q.length := nI_pred _
  have c00 : (0 : Int32).toNatClampNeg = 0 := rfl
  have hr0 : y.1 10 0 = nI c := hR.2 0 (by simp)
  have hrl : y.1 10 q.length = nI (lst c q) := by rw [hR.2 q.length (by simp), lst_gt]
  have hsum : sumN (fun j => lth L (gt (c :: q) j)) (q.length + 1) < 2 ^ 31 := by
    have := sumN_le (f := fun j => lth L (gt (c :: q) j)) (c := 9) (k := q.length + 1) (fun i hi => (ho.2.2.1 _ (hr.2 _ (gt_mem (by simpa using hi)))).2)
    omega
  have j180 : ∀ v w : Bool, (w = true → 1 ≤ q.length) → fX10_fits_j180 n (b2i v) (b2i w) y = some (b2i (v && (!w || tch L (lst c q) c)), y) := by
    intro v w hw
    unfold fX10_fits_j180
    simp only [b2i_0]
    cases v
    · simp [b2i]
    · cases w
      · simp [b2i]
      · have hq := hw rfl
        have hne : lst c q ≠ c := by
          rw [lst_gt]
          exact gt_ne hr.1 (i := q.length) (j := 0) (by simp) (by simp) (by omega)
        simp only [Bool.true_eq_false, if_false, h17, em, okN (show q.length < 8 by omega) (by decide), if_true, cl0 (show q.length < 2 ^ 31 by omega), hrl, c00, hr0, m_mayTouch hc ho _ _ hll hcl, ← tch_may hll hcl hne, Option.bind_some, un2, b2i_0]
        cases tch L (lst c q) c <;> simp [b2i]
  have j144 : ∀ v : Bool, fX10_fits_j144 n (b2i v) y = some (b2i (v && (!clB L a b || tch L (lst c q) c)), y) := by
    intro v
    unfold fX10_fits_j144
    simp only [h7, e1, h6, e2, h17, e3]
    by_cases c1 : lri L = 1
    · rw [if_pos c1]
      by_cases c2 : (lhl L).length ≤ 2
      · rw [if_pos c2]
        have : clB L a b = false := by unfold clB rndB; rw [decide_eq_false (show ¬ (lri L = 1 ∧ 3 ≤ (lhl L).length) by omega)]; rfl
        rw [this]
        exact j180 v false (fun h => by cases h)
      · rw [if_neg c2]
        by_cases c3 : q.length + 1 = (lhl L).length
        · rw [if_pos c3]
          have : clB L a b = true := by unfold clB rndB allB; rw [decide_eq_true (show (lri L = 1 ∧ 3 ≤ (lhl L).length) by omega), decide_eq_true (show (a = 0 ∧ b = (lhl L).length - 1) by omega)]; rfl
          rw [this]
          exact j180 v true (fun _ => by omega)
        · rw [if_neg c3]
          have : clB L a b = false := by unfold clB allB; rw [decide_eq_false (show ¬ (a = 0 ∧ b = (lhl L).length - 1) by omega)]; exact Bool.and_false _
          rw [this]
          exact j180 v false (fun h => by cases h)
    · rw [if_neg c1]
      have : clB L a b = false := by unfold clB rndB; rw [decide_eq_false (show ¬ (lri L = 1 ∧ 3 ≤ (lhl L).length) from fun h => c1 h.1)]; rfl
      rw [this]
      exact j180 v false (fun h => by cases h)
  have hloop := m_fits_loop hc ho (n := n) (nI a) (nI b) (nI th) hn hr hR
  rw [List.length_cons, chp_chn] at hloop
  have hF := m_besF hc ho hcl hab hb (hd c (by simp))
  have hL := m_besL hc ho hll hab hb (hd _ (lst_mem c q))
  have e4 : (nI (sumN (fun j => lth L (gt (c :: q) j)) (q.length + 1)) = nI th) = (sumN (fun j => lth L (gt (c :: q) j)) (q.length + 1) = th) := wIeq hsum (by omega)
  have hok : okF L a b th (c :: q) = ((fiS L a b).testBit c && (chn (tch L) c q && ((laS L a b).testBit (lst c q) && ((!clB L a b || tch L (lst c q) c) && decide (sumN (fun j => lth L (gt (c :: q) j)) (q.length + 1) = th))))) := by
    unfold okF okR WW
    have n1 : ¬ nI th = (-1 : Int32) := by
      intro h
      have h2 := congrArg Int32.toInt h
      rw [nI_toInt (by omega)] at h2
      have : ((-1 : Int32)).toInt = -1 := by decide
      omega
    dsimp only
    rw [← setOf_cons, thS_row ho hr, List.length_cons, decide_eq_false n1, Bool.false_or]
    simp only [e4]
  unfold fX10_fits
  simp only [hloop, Option.bind_some, un4, b2i_0, e4, c00, hr0, hF, un2, h17, em, okN (show q.length < 8 by omega) (by decide), if_true, cl0 (show q.length < 2 ^ 31 by omega), hrl, nI_1, hL]
  rw [hok]
  have z0 : (0 : Int32) = b2i false := rfl
  have z1 : (1 : Int32) = b2i true := rfl
  rw [z0, z1, j144, j144]
  by_cases c5 : sumN (fun j => lth L (gt (c :: q) j)) (q.length + 1) = th
  · rw [if_pos c5, decide_eq_true c5]
    cases chn (tch L) c q <;> cases (fiS L a b).testBit c <;> cases (laS L a b).testBit (lst c q) <;> simp
  · rw [if_neg c5, decide_eq_false c5]
    cases chn (tch L) c q <;> cases (fiS L a b).testBit c <;> cases (laS L a b).testBit (lst c q) <;> simp
/-- the books that stand elsewhere: the reference -/
def othP (L : AL) (a b : Nat) : Nat → Nat
  | 0 => 0
  | k + 1 => if a ≤ k ∧ k ≤ b then othP L a b k else othP L a b k ||| 2 ^ gt (lhl L) k
theorem othP_bit (L : AL) (a b c : Nat) : ∀ k, (othP L a b k).testBit c = true ↔ ∃ j, j < k ∧ ¬ (a ≤ j ∧ j ≤ b) ∧ gt (lhl L) j = c
  | 0 => by simp [othP]
  | k + 1 => by
    unfold othP
    by_cases h : a ≤ k ∧ k ≤ b
    · rw [if_pos h, othP_bit L a b c k]
      constructor
      · rintro ⟨j, h1, h2⟩; exact ⟨j, by omega, h2⟩
      · rintro ⟨j, h1, h2, h3⟩
        refine ⟨j, ?_, h2, h3⟩
        by_cases e : j = k
        · subst e; exact absurd h h2
        · omega
    · rw [if_neg h, Nat.testBit_or, Bool.or_eq_true, othP_bit L a b c k, Nat.testBit_two_pow, decide_eq_true_iff]
      constructor
      · rintro (⟨j, h1, h2⟩ | e)
        · exact ⟨j, by omega, h2⟩
        · exact ⟨k, by omega, h, e⟩
      · rintro ⟨j, h1, h2, h3⟩
        by_cases e : j = k
        · subst e; exact Or.inr h3
        · exact Or.inl ⟨j, by omega, h2, h3⟩
theorem othS_bit (L : AL) {a b : Nat} (hab : a ≤ b) (hb : b < (lhl L).length) (c : Nat) : (othS L a b).testBit c = true ↔ ∃ j, j < (lhl L).length ∧ ¬ (a ≤ j ∧ j ≤ b) ∧ gt (lhl L) j = c := by
  unfold othS
  rw [Nat.testBit_or, Bool.or_eq_true, mset_bit, mset_bit, List.any_eq_true, List.any_eq_true]
  simp only [List.mem_range, decide_eq_true_iff]
  constructor
  · rintro (⟨j, h1, h2⟩ | ⟨j, h1, h2⟩)
    · rw [Nat.zero_add] at h2
      exact ⟨j, by omega, by omega, h2⟩
    · exact ⟨b + 1 + j, by omega, by omega, h2⟩
  · rintro ⟨j, h1, h2, h3⟩
    by_cases e : j < a
    · left; exact ⟨j, e, by rw [Nat.zero_add]; exact h3⟩
    · right; exact ⟨j - (b + 1), by omega, by rw [show b + 1 + (j - (b + 1)) = j by omega]; exact h3⟩
theorem othP_eq (L : AL) {a b : Nat} (hab : a ≤ b) (hb : b < (lhl L).length) : othP L a b (lhl L).length = othS L a b := by
  apply Nat.eq_of_testBit_eq
  intro c
  rw [Bool.eq_iff_iff, othP_bit, othS_bit L hab hb]
theorem othS_lt {L : AL} (ho : OKL L) {a b : Nat} (hab : a ≤ b) (hb : b < (lhl L).length) : othS L a b < 2 ^ lm L := by
  unfold othS
  have hr := ho.2.2.2.2.2.2.2.2.2
  exact Nat.or_lt_two_pow (mset_lt hr (by omega)) (mset_lt hr (by omega))
theorem m_oth {y : bq_S} {L : AL} (hc : ML y L) (ho : OKL L) {n a b : Nat} (u1 u2 u3 u4 : Int32) (hn : 20 ≤ n) (hab : a ≤ b) (hb : b < (lhl L).length) : wh n (fX10_burnt_b82 n (nI a) (nI b) u1 u2 u3 u4) ((0 : Int32), (0 : Int32), y) = some (nI (othS L a b), nI (lhl L).length, y) := by
  have h8 := hall8 ho
  have hm := ho.1
  have h6 : y.1 0 6 = nI (lhl L).length := hc.2.2.1
  obtain ⟨z, hz, rfl⟩ := wh_for (b := fX10_burnt_b82 n (nI a) (nI b) u1 u2 u3 u4) (fun i z => z = (nI (othP L a b i), nI i, y)) (fun z => z = (nI (othS L a b), nI (lhl L).length, y)) (lhl L).length (by
    rintro i _ hi rfl
    have n1 : ¬ (lhl L).length ≤ i := by omega
    have hg := hallR ho hi
    have h5 : y.1 5 i = nI (gt (lhl L) i) := hc.2.2.2.2.2.2.2.2 i hi
    have z0 : (0 : Int32) = nI 0 := rfl
    refine Or.inl ⟨_, ?_, rfl⟩
    unfold fX10_burnt_b82
    simp only [un3, h6, wIle (show (lhl L).length < 2 ^ 31 by omega) (show i < 2 ^ 31 by omega), n1, if_false, m_in, Option.bind_some, un2, b2i_0, Int32.toInt_toInt64, nI_toInt (show i < 2 ^ 31 by omega), nI_toInt (show a < 2 ^ 31 by omega), nI_toInt (show b < 2 ^ 31 by omega), Int.ofNat_le, okN (show i < 8 by omega) (by decide), if_true, bd, cl0 (show i < 2 ^ 31 by omega), h5, wI_sh (show gt (lhl L) i < 31 by omega), wI_or, nI_1, wor_0]
    have eo : othP L a b (i + 1) = if a ≤ i ∧ i ≤ b then othP L a b i else othP L a b i ||| 2 ^ gt (lhl L) i := rfl
    rw [eo]
    by_cases c : a ≤ i ∧ i ≤ b
    · rw [if_pos c, decide_eq_true c, if_neg (by decide)]
    · rw [if_neg c, decide_eq_false c, if_pos rfl]) (by
    rintro _ rfl
    refine ⟨_, ?_, rfl⟩
    unfold fX10_burnt_b82
    simp only [un3, h6, Int32.le_refl, if_true, othP_eq L hab hb]) n 0 ((0 : Int32), (0 : Int32), y) (by omega) rfl (by omega)
  exact hz
/-- is the row ahead of the best one -/
theorem m_better {y : bq_S} {n m : Nat} {r q : List Nat} (u1 u2 u3 u4 u5 u6 u7 u8 : Int32) (hm : m ≤ 8) (hr : r.length = m) (hq : q.length = m) (h8 : ∀ c ∈ r, c < 8) (hq8 : ∀ c ∈ q, c < 8) (hR : CRow y 10 r) (hQ : CRow y 11 q) : ∀ k p f, p + k = m → k + 1 < f → ∃ w, wh f (fX10_burnt_b213 n u1 u2 u3 u4 u5 (nI m) u6 u7 (1 : Int32) u8) ((0 : Int32), nI p, y) = some (b2i (lxb (r.drop p) (q.drop p)), w, y) := by
  intro k
  induction k with
  | zero =>
    intro p f hp hf
    obtain ⟨f, rfl⟩ : ∃ g, f = g + 1 := ⟨f - 1, by omega⟩
    have e : p = m := by omega
    subst e
    rw [List.drop_eq_nil_of_le (by omega), List.drop_eq_nil_of_le (by omega)]
    refine ⟨nI p, wh_e ?_⟩
    unfold fX10_burnt_b213
    simp only [un3, Int32.le_refl, if_true]
    rfl
  | succ k ih =>
    intro p f hp hf
    obtain ⟨f, rfl⟩ : ∃ g, f = g + 1 := ⟨f - 1, by omega⟩
    have hpr : p < r.length := by omega
    have hpq : p < q.length := by omega
    have g1 : gt r p < 8 := h8 _ (gt_mem hpr)
    have g2 : gt q p < 8 := hq8 _ (gt_mem hpq)
    have n1 : ¬ m ≤ p := by omega
    have e10 : ¬ (1 : Int32) = 0 := by decide
    rw [List.drop_eq_getElem_cons hpr, List.drop_eq_getElem_cons hpq, ← gt_get hpr, ← gt_get hpq, lxb_c]
    have hbody : fX10_burnt_b213 n u1 u2 u3 u4 u5 (nI m) u6 u7 (1 : Int32) u8 ((0 : Int32), nI p, y) = if gt r p = gt q p then some (.inl ((0 : Int32), nI (p + 1), y)) else if gt q p ≤ gt r p then some (.inl ((0 : Int32), nI (m + 1), y)) else some (.inl ((1 : Int32), nI (m + 1), y)) := by
      unfold fX10_burnt_b213
      simp only [un3, wIle (show m < 2 ^ 31 by omega) (show p < 2 ^ 31 by omega), n1, if_false, e10, if_true, okN (show p < 8 by omega) (by decide), cl0 (show p < 2 ^ 31 by omega), hR p hpr, hQ p hpq, wIeq (show gt r p < 2 ^ 31 by omega) (show gt q p < 2 ^ 31 by omega), wIle (show gt q p < 2 ^ 31 by omega) (show gt r p < 2 ^ 31 by omega), bd, nI_1]
    have hexit : ∀ v : Int32, wh f (fX10_burnt_b213 n u1 u2 u3 u4 u5 (nI m) u6 u7 (1 : Int32) u8) (v, nI (m + 1), y) = some (v, nI (m + 1), y) := by
      intro v
      obtain ⟨f, rfl⟩ : ∃ g, f = g + 1 := ⟨f - 1, by omega⟩
      apply wh_e
      unfold fX10_burnt_b213
      simp only [un3, wIle (show m < 2 ^ 31 by omega) (show m + 1 < 2 ^ 31 by omega), show m ≤ m + 1 by omega, if_true]
    by_cases c1 : gt r p = gt q p
    · rw [if_pos c1] at hbody
      obtain ⟨w, hw⟩ := ih (p + 1) f (by omega) (by omega)
      refine ⟨w, ?_⟩
      rw [wh_c hbody, hw, c1]
      simp
    · rw [if_neg c1] at hbody
      by_cases c2 : gt q p ≤ gt r p
      · rw [if_pos c2] at hbody
        refine ⟨nI (m + 1), ?_⟩
        rw [wh_c hbody, hexit]
        have : ¬ gt r p < gt q p := by omega
        simp [c1, this, b2i]
      · rw [if_neg c2] at hbody
        refine ⟨nI (m + 1), ?_⟩
        rw [wh_c hbody, hexit]
        have : gt r p < gt q p := by omega
        simp [this, b2i]
def BS (m : Nat) (P : List (List Nat)) (v f : Int32) (z : bq_S) : Prop := v = nI P.length ∧ (∀ r ∈ P, r.length = m ∧ ∀ c ∈ r, c < 8) ∧ ((P = [] ∧ f = 0) ∨ (f = 1 ∧ ∃ r0, IsLx P r0 ∧ CRow z 11 r0))
theorem BS_fr {m : Nat} {P : List (List Nat)} {v f : Int32} {z z1 : bq_S} (h : BS m P v f z) (e : z1.1 11 = z.1 11) : BS m P v f z1 := by
  obtain ⟨h1, h2, h3⟩ := h
  refine ⟨h1, h2, ?_⟩
  rcases h3 with h3 | ⟨h3, r0, h4, h5⟩
  · exact Or.inl h3
  · exact Or.inr ⟨h3, r0, h4, fun i hi => by rw [e]; exact h5 i hi⟩
/-- a row that fits is taken -/
theorem m_take {y : bq_S} {n m : Nat} {P : List (List Nat)} {v f : Int32} {r : List Nat} (u1 u2 u3 u4 u5 u7 u8 : Int32) (hm : m ≤ 8) (hn : 20 ≤ n) (hB : BS m P v f y) (hr : r.length = m) (h8 : ∀ c ∈ r, c < 8) (hR : MRow y r) : ∃ y1, fX10_burnt_j208 n u1 u2 u3 u4 u5 (nI m) u7 (v + 1) f u8 (if f = 0 then 1 else 0) y = fX10_burnt_j319 n u1 u2 u3 u4 u5 (nI m) u7 (v + 1) (1 : Int32) u8 y1 ∧ BS m (P ++ [r]) (v + 1) 1 y1 ∧ MRow y1 r ∧ (∀ c, c ≠ 11 → y1.1 c = y.1 c) ∧ y1.2 = y.2 := by
  obtain ⟨b1, b2, b3⟩ := hB
  have hv : v + 1 = nI (P ++ [r]).length := by rw [b1, nI_1]; simp
  have hall : ∀ q ∈ P ++ [r], q.length = m ∧ ∀ c ∈ q, c < 8 := fun q hq => by
    rcases List.mem_append.mp hq with h | h
    · exact b2 q h
    · rw [List.mem_singleton.mp h]; exact ⟨hr, h8⟩
  have e10 : ¬ (1 : Int32) = 0 := by decide
  have copy : ∀ w, ¬ w = (0 : Int32) → ∃ y1, wh n (fX10_burnt_b284 n u1 u2 u3 u4 u5 (nI m) u7 (v + 1) u8 w) ((0 : Int32), y) = some (nI m, y1) ∧ (∀ k, k < m → y1.1 11 k = y.1 10 k) ∧ (∀ c, c ≠ 11 → y1.1 c = y.1 c) ∧ y1.2 = y.2 := by
    intro w hw
    refine cp_loop (b := fX10_burnt_b284 n u1 u2 u3 u4 u5 (nI m) u7 (v + 1) u8 w) (y := y) (src := 10) (dst := 11) (len := m) (n := n) (by decide) (by omega) ?_ ?_
    · intro i z hi hz
      have n1 : ¬ m ≤ i := by omega
      unfold fX10_burnt_b284
      simp only [un2, wIle (show m < 2 ^ 31 by omega) (show i < 2 ^ 31 by omega), n1, if_false, hw, okN (show i < 8 by omega) (by decide), if_true, bd, cl0 (show i < 2 ^ 31 by omega), nI_1]
    · intro z hz
      unfold fX10_burnt_b284
      simp only [un2, Int32.le_refl, if_true]
  have fin : ∀ y1 : bq_S, (∀ k, k < m → y1.1 11 k = y.1 10 k) → CRow y1 11 r := fun y1 h i hi => by rw [h i (by omega)]; exact hR.2 i hi
  have rowk : ∀ y1 : bq_S, (∀ c, c ≠ 11 → y1.1 c = y.1 c) → MRow y1 r := fun y1 h => ⟨by rw [h 0 (by decide)]; exact hR.1, fun i hi => by rw [h 10 (by decide)]; exact hR.2 i hi⟩
  rcases b3 with ⟨hP, rfl⟩ | ⟨rfl, r0, hL, hQ⟩
  · obtain ⟨y1, k1, k2, k3, k4⟩ := copy 1 e10
    refine ⟨y1, ?_, ⟨hv, hall, Or.inr ⟨rfl, r, ?_, fin y1 k2⟩⟩, rowk y1 k3, k3, k4⟩
    · obtain ⟨n', rfl⟩ : ∃ n', n = n' + 1 := ⟨n - 1, by omega⟩
      have hw : wh (n' + 1) (fX10_burnt_b213 (n' + 1) u1 u2 u3 u4 u5 (nI m) u7 (v + 1) 0 u8) ((1 : Int32), (0 : Int32), y) = some ((1 : Int32), (0 : Int32), y) := by
        apply wh_e
        unfold fX10_burnt_b213
        simp only [un3, if_true]
        split <;> rfl
      unfold fX10_burnt_j208 fX10_burnt_j281
      rw [if_pos rfl, hw, Option.bind_some]
      simp only [un3, k1, Option.bind_some, un2]
    · rw [hP]
      exact ⟨by simp, fun q hq => Or.inl (by simpa using hq)⟩
  · have hr0 := b2 r0 hL.1
    obtain ⟨w, hw⟩ := m_better (y := y) (n := n) (m := m) (r := r) (q := r0) u1 u2 u3 u4 u5 u7 (v + 1) u8 hm hr hr0.1 h8 hr0.2 hR.2 hQ m 0 n (by omega) (by omega)
    rw [List.drop_zero, List.drop_zero] at hw
    have hw' : wh n (fX10_burnt_b213 n u1 u2 u3 u4 u5 (nI m) u7 (v + 1) 1 u8) ((0 : Int32), (0 : Int32), y) = some (b2i (lxb r r0), w, y) := hw
    cases hlx : lxb r r0 with
    | true =>
      rw [hlx] at hw'
      obtain ⟨y1, k1, k2, k3, k4⟩ := copy (b2i true) (by decide)
      refine ⟨y1, ?_, ⟨hv, hall, Or.inr ⟨rfl, r, ⟨by simp, fun q hq => ?_⟩, fin y1 k2⟩⟩, rowk y1 k3, k3, k4⟩
      · unfold fX10_burnt_j208 fX10_burnt_j281
        rw [if_neg e10, hw', Option.bind_some]
        simp only [un3, k1, Option.bind_some, un2]
      · rcases List.mem_append.mp hq with h | h
        · rcases hL.2 q h with e | e
          · rw [e]; exact Or.inr hlx
          · exact Or.inr (lxb_tr hlx e)
        · exact Or.inl (List.mem_singleton.mp h)
    | false =>
      rw [hlx] at hw'
      refine ⟨y, ?_, ⟨hv, hall, Or.inr ⟨rfl, r0, ⟨by simp [hL.1], fun q hq => ?_⟩, hQ⟩⟩, hR, fun _ _ => rfl, rfl⟩
      · obtain ⟨n', rfl⟩ : ∃ n', n = n' + 1 := ⟨n - 1, by omega⟩
        have hx : wh (n' + 1) (fX10_burnt_b284 (n' + 1) u1 u2 u3 u4 u5 (nI m) u7 (v + 1) u8 (b2i false)) ((0 : Int32), y) = some ((0 : Int32), y) := by
          apply wh_e
          unfold fX10_burnt_b284
          simp only [un2, b2i_f, if_true]
          split <;> rfl
        unfold fX10_burnt_j208 fX10_burnt_j281
        rw [if_neg e10, hw', Option.bind_some]
        simp only [un3, hx, Option.bind_some, un2]
      · rcases List.mem_append.mp hq with h | h
        · exact hL.2 q h
        · rw [List.mem_singleton.mp h]
          exact lxb_tot (by rw [hr, hr0.1]) hlx
theorem m_burnt_in {y : bq_S} {L : AL} (hc : ML y L) (ho : OKL L) {n a b th s u o m : Nat} (k5 : Int32) {P : List (List Nat)} {v f : Int32} (hn : 41000 ≤ n) (hab : a ≤ b) (hb : b < (lhl L).length) (hm : m = b - a + 1) (ht : th ≤ 99) (hu : u < 2 ^ lm L) (hdis : u &&& othS L a b = 0) (hp : pc u = m) {y0 : bq_S} (hB : BS m P v f y0) (h0 : RowAt u 0 1 y0) (hr : frB y y0) : ∃ v1 f1 g y1, wh n (fX10_burnt_b179 n (nI a) (nI b) (nI s) (nI th) k5 (nI m) (nI o) (nI u)) (v, f, (1 : Int32), y0) = some (v1, f1, g, y1) ∧ BS m (P ++ (PL u).filter (okF L a b th)) v1 f1 y1 ∧ frB y y1 := by
  have h256 : u < 256 := p8_256 ho.1 hu
  have hlen := PL_len u
  have h8 := hall8 ho
  have hpb := pc_bits h256
  have hm8 : m ≤ 8 := by omega
  obtain ⟨z, hz, h1, h2⟩ := wh_for (b := fX10_burnt_b179 n (nI a) (nI b) (nI s) (nI th) k5 (nI m) (nI o) (nI u)) (fun i z => BS m (P ++ ((PL u).take i).filter (okF L a b th)) z.1 z.2.1 z.2.2.2 ∧ RowAt u i z.2.2.1 z.2.2.2 ∧ frB y z.2.2.2) (fun z => BS m (P ++ (PL u).filter (okF L a b th)) z.1 z.2.1 z.2.2.2 ∧ frB y z.2.2.2) (PL u).length (by
    rintro i ⟨v, f, g, z⟩ hi ⟨hB, h1, h2⟩
    dsimp only at hB h1 h2
    rcases h1 with ⟨_, rfl, h1⟩ | ⟨h1, _⟩
    · have hrl : (PL u)[i].length = m := by rw [(PL_row hi).1, ← hpb, hp]
      obtain ⟨c, q, hcq⟩ : ∃ c q, (PL u)[i] = c :: q := by
        cases h : (PL u)[i] with
        | nil => rw [h] at hrl; simp at hrl; omega
        | cons c q => exact ⟨c, q, rfl⟩
      have hql : q.length = b - a := by
        rw [hcq, List.length_cons] at hrl; omega
      have hok := PL_ok hu hi
      have hfit : fX10_fits n (nI a) (nI b) (nI th) z = some (b2i (okF L a b th (PL u)[i]), z) := by
        have := m_fits (n := n) (th := th) (frB_ML h2 hc) ho (by omega) hab hb (c := c) (q := q) (by rw [← hcq]; exact hok) hql (by rw [← hcq]; exact h1) (by
          intro w hw j hj hnj e
          rw [← hcq] at hw
          have hb1 := (bits_mem.mp ((PL_row hi).2.2 w hw)).2
          have hb2 : (othS L a b).testBit w = true := (othS_bit L hab hb w).mpr ⟨j, hj, hnj, e.symm⟩
          have := congrArg (fun z => Nat.testBit z w) hdis
          simp [Nat.testBit_and, hb1, hb2] at this) ht
        rw [hcq]; exact this
      have e10 : ¬ (1 : Int32) = 0 := by decide
      have tk : ((PL u).take (i + 1)).filter (okF L a b th) = ((PL u).take i).filter (okF L a b th) ++ (if okF L a b th (PL u)[i] then [(PL u)[i]] else []) := by
        rw [take_s hi, List.filter_append, List.filter_cons, List.filter_nil]
      cases hf : okF L a b th (PL u)[i] with
      | false =>
        obtain ⟨g, z1, j1, j2, j3⟩ := m_nextR (n := n) hi h1 (by omega)
        refine Or.inl ⟨(v, f, g, z1), ?_, ?_, j2, frB_tr h2 (frB_row j3)⟩
        · unfold fX10_burnt_b179 fX10_burnt_j319
          simp only [un4, e10, if_false, hfit, hf, Option.bind_some, un2, b2i_f, if_true, j1]
        · rw [tk, hf, if_neg (by decide), List.append_nil]
          exact BS_fr hB (j3.1 11 (by decide) (by decide))
      | true =>
        obtain ⟨z1, k1, k2, k3, k4, k6⟩ := m_take (n := n) (nI a) (nI b) (nI s) (nI th) k5 (nI o) (nI u) hm8 (by omega) hB hrl (PL_row8 hi).2 h1
        obtain ⟨g, z2, j1, j2, j3⟩ := m_nextR (n := n) hi k3 (by omega)
        refine Or.inl ⟨(v + 1, 1, g, z2), ?_, ?_, j2, frB_tr h2 (frB_tr ⟨fun c a b d e => k4 c d, fun k hk => by rw [k4 0 (by decide)], k6⟩ (frB_row j3))⟩
        · have hbody : fX10_burnt_b179 n (nI a) (nI b) (nI s) (nI th) k5 (nI m) (nI o) (nI u) (v, f, (1 : Int32), z) = fX10_burnt_j208 n (nI a) (nI b) (nI s) (nI th) k5 (nI m) (nI o) (v + 1) f (nI u) (if f = 0 then 1 else 0) z := by
            unfold fX10_burnt_b179
            simp only [un4, e10, if_false, hfit, hf, Option.bind_some, un2, b2i_t, bd]
            by_cases c : f = 0
            · rw [if_pos c, if_pos c]
            · rw [if_neg c, if_neg c]
          rw [hbody, k1]
          unfold fX10_burnt_j319
          simp only [j1, Option.bind_some, un2]
        · rw [tk, hf, if_pos rfl, ← List.append_assoc]
          exact BS_fr k2 (j3.1 11 (by decide) (by decide))
    · omega) (by
    rintro ⟨v, f, g, z⟩ ⟨hB, h1, h2⟩
    dsimp only at hB h1 h2
    rcases h1 with ⟨h1, _⟩ | ⟨_, rfl⟩
    · exact absurd h1 (Nat.lt_irrefl _)
    · rw [List.take_length] at hB
      refine ⟨(v, f, 0, z), ?_, hB, h2⟩
      unfold fX10_burnt_b179
      simp only [un4, if_true]) n 0 (v, f, (1 : Int32), y0) (by omega) ⟨by simpa using hB, h0, hr⟩ (by omega)
  obtain ⟨v1, f1, g, z⟩ := z
  exact ⟨v1, f1, g, z, hz, h1, h2⟩
def GB (L : AL) (a b th s u : Nat) : List (List Nat) := if andn u s = 0 ∧ u &&& othS L a b = 0 ∧ pc u = b - a + 1 then (PL u).filter (okF L a b th) else []
def PB (L : AL) (a b th s : Nat) : Nat → List (List Nat)
  | 0 => []
  | j + 1 => PB L a b th s j ++ GB L a b th s (j + 1)
theorem m_burnt_out {y : bq_S} {L : AL} (hc : ML y L) (ho : OKL L) {n a b th s : Nat} (k5 : Int32) (hn : 41000 ≤ n) (hab : a ≤ b) (hb : b < (lhl L).length) (ht : th ≤ 99) (hs : s < 2 ^ lm L) : ∃ v1 f1 g y1, wh n (fX10_burnt_b137 n (nI a) (nI b) (nI s) (nI th) k5 (nI (b - a + 1)) (nI (othS L a b))) ((0 : Int32), (0 : Int32), (1 : Int32), y) = some (v1, f1, g, y1) ∧ BS (b - a + 1) (PB L a b th s s) v1 f1 y1 ∧ frB y y1 := by
  have h256 : s < 256 := p8_256 ho.1 hs
  have h8 := hall8 ho
  have ho256 : othS L a b < 256 := p8_256 ho.1 (othS_lt ho hab hb)
  obtain ⟨z, hz, h1, h2⟩ := wh_for (b := fX10_burnt_b137 n (nI a) (nI b) (nI s) (nI th) k5 (nI (b - a + 1)) (nI (othS L a b))) (fun i z => BS (b - a + 1) (PB L a b th s i) z.1 z.2.1 z.2.2.2 ∧ z.2.2.1 = nI (i + 1) ∧ frB y z.2.2.2) (fun z => BS (b - a + 1) (PB L a b th s s) z.1 z.2.1 z.2.2.2 ∧ frB y z.2.2.2) s (by
    rintro i ⟨v, f, w, z⟩ hi ⟨hB, h0, h2⟩
    dsimp only at hB h0 h2
    subst h0
    have n1 : ¬ s < i + 1 := by omega
    have hi8 : i + 1 < 256 := by omega
    have hpu := pc_le (i + 1)
    have ea : (nI (andn (i + 1) s) = (0 : Int32)) = (andn (i + 1) s = 0) := nI_zero (by have := andn_l8 (b := s) hi8; omega)
    have eb : (nI ((i + 1) &&& othS L a b) = (0 : Int32)) = ((i + 1) &&& othS L a b = 0) := nI_zero (and_lt31 (by omega))
    have ec : (nI (pc (i + 1)) = nI (b - a + 1)) = (pc (i + 1) = b - a + 1) := wIeq (by omega) (by omega)
    have hPB : PB L a b th s (i + 1) = PB L a b th s i ++ GB L a b th s (i + 1) := rfl
    have hskip : ¬ (andn (i + 1) s = 0 ∧ (i + 1) &&& othS L a b = 0 ∧ pc (i + 1) = b - a + 1) → PB L a b th s (i + 1) = PB L a b th s i := fun h => by
      rw [hPB]; unfold GB; rw [if_neg h, List.append_nil]
    unfold fX10_burnt_b137
    simp only [un4, wIlt (show s < 2 ^ 31 by omega) (show i + 1 < 2 ^ 31 by omega), n1, if_false, wI_andn, ea, wI_and, eb, m_size hi8 (show 20 ≤ n by omega), Option.bind_some, un2, ec, bd, nI_1]
    by_cases c1 : andn (i + 1) s = 0
    · rw [if_pos c1]
      by_cases c2 : (i + 1) &&& othS L a b = 0
      · rw [if_pos c2]
        by_cases c3 : pc (i + 1) = b - a + 1
        · rw [if_pos c3]
          obtain ⟨z1, j1, j2, j3⟩ := m_firstR (y := z) hi8 (show 20 ≤ n by omega)
          have hB1 : BS (b - a + 1) (PB L a b th s i) v f z1 := BS_fr hB (j3.1 11 (by decide) (by decide))
          obtain ⟨v1, f1, g, z2, l1, l2, l3⟩ := m_burnt_in hc ho (n := n) (s := s) (o := othS L a b) k5 hn hab hb rfl ht (sub_lt hs c1) c2 c3 hB1 j2 (frB_tr h2 (frB_row j3))
          refine Or.inl ⟨(v1, f1, nI (i + 1 + 1), z2), ?_, ?_, rfl, l3⟩
          · simp only [j1, Option.bind_some, l1]
          · rw [hPB]; unfold GB; rw [if_pos ⟨c1, c2, c3⟩]; exact l2
        · rw [if_neg c3]
          exact Or.inl ⟨_, rfl, by rw [hskip (fun h => c3 h.2.2)]; exact hB, rfl, h2⟩
      · rw [if_neg c2]
        exact Or.inl ⟨_, rfl, by rw [hskip (fun h => c2 h.2.1)]; exact hB, rfl, h2⟩
    · rw [if_neg c1]
      exact Or.inl ⟨_, rfl, by rw [hskip (fun h => c1 h.1)]; exact hB, rfl, h2⟩) (by
    rintro ⟨v, f, w, z⟩ ⟨hB, h0, h2⟩
    dsimp only at hB h0 h2
    subst h0
    refine ⟨(v, f, nI (s + 1), z), ?_, hB, h2⟩
    unfold fX10_burnt_b137
    simp only [un4, wIlt (show s < 2 ^ 31 by omega) (show s + 1 < 2 ^ 31 by omega), show s < s + 1 by omega, if_true]) n 0 ((0 : Int32), (0 : Int32), (1 : Int32), y) (by omega) ⟨⟨rfl, fun r hr => by simp [PB] at hr, Or.inl ⟨rfl, rfl⟩⟩, rfl, frB_rf y⟩ (by omega)
  obtain ⟨v1, f1, g, z⟩ := z
  exact ⟨v1, f1, g, z, hz, h1, h2⟩
theorem GB_set {L : AL} {a b th s u : Nat} {r : List Nat} (hu : u < 256) (h : r ∈ GB L a b th s u) : setOf r = u := by
  unfold GB at h
  split at h
  · exact PL_set hu (List.mem_filter.mp h).1
  · simp at h
theorem PB_nodup {L : AL} {a b th s : Nat} : ∀ j, j < 256 → (PB L a b th s j).Nodup ∧ ∀ r ∈ PB L a b th s j, setOf r ≤ j
  | 0, _ => ⟨by simp [PB], fun r hr => by simp [PB] at hr⟩
  | j + 1, hj => by
    obtain ⟨h1, h2⟩ := PB_nodup (L := L) (a := a) (b := b) (th := th) (s := s) j (by omega)
    unfold PB
    constructor
    · rw [List.nodup_append]
      refine ⟨h1, ?_, fun r hr q hq e => ?_⟩
      · unfold GB
        split
        · exact (PL_nodup _).filter _
        · simp
      · have := h2 r hr
        have h4 := GB_set hj hq
        rw [← e] at h4
        omega
    · intro r hr
      rcases List.mem_append.mp hr with h | h
      · have := h2 r h; omega
      · rw [GB_set hj h]; exact Nat.le_refl _
theorem PB_mem {L : AL} {a b th s : Nat} {r : List Nat} : ∀ j, r ∈ PB L a b th s j ↔ ∃ u, 1 ≤ u ∧ u ≤ j ∧ r ∈ GB L a b th s u
  | 0 => by
    constructor
    · intro h; simp [PB] at h
    · rintro ⟨u, h1, h2, _⟩; omega
  | j + 1 => by
    unfold PB
    rw [List.mem_append, PB_mem j]
    constructor
    · rintro (⟨u, h1, h2, h3⟩ | h)
      · exact ⟨u, h1, by omega, h3⟩
      · exact ⟨j + 1, by omega, by omega, h⟩
    · rintro ⟨u, h1, h2, h3⟩
      by_cases e : u = j + 1
      · right; rw [← e]; exact h3
      · left; exact ⟨u, h1, by omega, h3⟩
theorem PB_all {L : AL} (ho : OKL L) {a b th s : Nat} (hs : s < 2 ^ lm L) (r : List Nat) : r ∈ PB L a b th s s ↔ r ∈ (arrL (b - a + 1) (bits (andn s (othS L a b)))).filter (okF L a b th) := by
  have h256 : s < 256 := p8_256 ho.1 hs
  rw [PB_mem, List.mem_filter, arr_mem]
  constructor
  · rintro ⟨u, h1, h2, h3⟩
    unfold GB at h3
    split at h3
    · rename_i hc
      obtain ⟨c1, c2, c3⟩ := hc
      obtain ⟨h4, h5⟩ := List.mem_filter.mp h3
      obtain ⟨r1, r2, r3⟩ := arr_mem.mp h4
      refine ⟨⟨by rw [r1, ← pc_bits (by omega), c3], r2, fun c hc => ?_⟩, h5⟩
      obtain ⟨d1, d2⟩ := bits_mem.mp (r3 c hc)
      refine bits_mem.mpr ⟨d1, ?_⟩
      rw [andn_bit, andn_sub c1 d2]
      have := congrArg (fun z => Nat.testBit z c) c2
      simp only [Nat.testBit_and, d2, Bool.true_and, Nat.zero_testBit] at this
      rw [this]; rfl
    · simp at h3
  · rintro ⟨⟨r1, r2, r3⟩, h5⟩
    have hb : ∀ c ∈ r, c < 8 ∧ s.testBit c = true ∧ (othS L a b).testBit c = false := fun c hc => by
      obtain ⟨d1, d2⟩ := bits_mem.mp (r3 c hc)
      exact ⟨d1, (tb_andn d2).1, (tb_andn d2).2⟩
    obtain ⟨p1, p2⟩ := PL_of r2 (fun c hc => (hb c hc).1)
    have hsub : andn (setOf r) s = 0 := by
      apply Nat.eq_of_testBit_eq
      intro c
      rw [andn_bit, setOf_bit, Nat.zero_testBit]
      by_cases e : c ∈ r
      · rw [(hb c e).2.1]; simp
      · simp [e]
    have hdis : setOf r &&& othS L a b = 0 := by
      apply Nat.eq_of_testBit_eq
      intro c
      rw [Nat.testBit_and, setOf_bit, Nat.zero_testBit]
      by_cases e : c ∈ r
      · rw [(hb c e).2.2]; simp
      · simp [e]
    have hle := sub_le hsub
    refine ⟨setOf r, ?_, hle, ?_⟩
    · cases r with
      | nil => simp at r1
      | cons c q =>
        rw [setOf_cons]
        have : 1 ≤ 2 ^ c := Nat.one_le_two_pow
        exact Nat.le_trans this Nat.left_le_or
    · unfold GB
      rw [if_pos ⟨hsub, hdis, by rw [pc_bits (by omega), p2, r1]⟩]
      exact List.mem_filter.mpr ⟨p1, h5⟩
