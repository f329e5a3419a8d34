/-! ===== a row judged ===== -/
def gt (r : List Nat) (i : Nat) : Nat := r.getD i 0
/-- the first place at or behind k (k + f at most) that may not touch the next one -/
def scan (T : Nat → Nat → Bool) (r : List Nat) : Nat → Nat → Option Nat
  | 0, _ => none
  | f + 1, k => if k + 1 < r.length then (if T (gt r k) (gt r (k + 1)) then scan T r f (k + 1) else some k) else none
def ends (T : Nat → Nat → Bool) (ring : Bool) (r : List Nat) : Bool := !(ring && decide (3 ≤ r.length) && !T (gt r (r.length - 1)) (gt r 0))
def jud (T : Nat → Nat → Bool) (ring : Bool) (r : List Nat) : Int32 := match scan T r 9 0 with
  | some k => nI k
  | none => if ends T ring r then -4 else nI (r.length - 1)
def lawB (T : Nat → Nat → Bool) (ring : Bool) (r : List Nat) : Bool := (scan T r 9 0).isNone && ends T ring r
theorem scan_lt {T : Nat → Nat → Bool} {r : List Nat} : ∀ {f k j : Nat}, scan T r f k = some j → j + 1 < r.length
  | 0, _, _, h => by simp [scan] at h
  | f + 1, k, j, h => by
    unfold scan at h
    by_cases a : k + 1 < r.length
    · rw [if_pos a] at h
      by_cases b : T (gt r k) (gt r (k + 1)) = true
      · rw [if_pos b] at h; exact scan_lt h
      · rw [if_neg b] at h; cases h; exact a
    · rw [if_neg a] at h; cases h
theorem jud_law {T : Nat → Nat → Bool} {ring : Bool} {r : List Nat} (hr : r.length ≤ 8) : (jud T ring r = -4) = (lawB T ring r = true) := by
  unfold jud lawB
  cases h : scan T r 9 0 with
  | some k =>
    have := scan_lt h
    simp only [Option.isNone_some, Bool.false_and, Bool.false_eq_true, eq_iff_iff, iff_false]
    intro e
    have : ∀ k : Fin 8, nI k.val ≠ -4 := by decide
    exact this ⟨k, by omega⟩ e
  | none =>
    simp only [Option.isNone_none, Bool.true_and]
    cases ends T ring r with
    | true => simp
    | false =>
      simp only [Bool.false_eq_true, if_false, eq_iff_iff, iff_false]
      have : ∀ k : Fin 9, nI k.val ≠ -4 := by decide
      exact this ⟨r.length - 1, by omega⟩
theorem jud_ge {T : Nat → Nat → Bool} {ring : Bool} {r : List Nat} (hr : r.length ≤ 8) : (0 ≤ jud T ring r) = (lawB T ring r = false) := by
  have h := jud_law (T := T) (ring := ring) hr
  cases e : lawB T ring r with
  | true =>
    rw [e] at h
    rw [h.mpr rfl]
    simp
  | false =>
    simp only [eq_iff_iff, iff_true]
    unfold jud lawB at *
    cases h2 : scan T r 9 0 with
    | some k =>
      have := scan_lt h2
      exact nI_pos' (by omega)
    | none =>
      rw [h2] at e
      simp only [Option.isNone_none, Bool.true_and] at e
      simp only [e, Bool.false_eq_true, if_false]
      exact nI_pos' (by omega)
def CRow (x : bq_S) (q : Nat) (r : List Nat) : Prop := ∀ i, i < r.length → x.1 q i = nI (gt r i)
def MRow (y : bq_S) (r : List Nat) : Prop := y.1 0 17 = nI r.length ∧ ∀ i, i < r.length → y.1 10 i = nI (gt r i)
theorem gt_mem {r : List Nat} {i : Nat} (h : i < r.length) : gt r i ∈ r := by
  unfold gt; rw [List.getD_eq_getElem?_getD, List.getElem?_eq_getElem h]; exact List.getElem_mem h
theorem gt_get {r : List Nat} {i : Nat} (h : i < r.length) : gt r i = r[i] := by
  unfold gt; rw [List.getD_eq_getElem?_getD, List.getElem?_eq_getElem h]; rfl
theorem gt_ne {r : List Nat} (hn : r.Nodup) {i j : Nat} (hi : i < r.length) (hj : j < r.length) (h : i ≠ j) : gt r i ≠ gt r j := by
  rw [gt_get hi, gt_get hj]
  have hp := List.pairwise_iff_getElem.mp hn
  rcases Nat.lt_or_gt_of_ne h with h1 | h1
  · exact hp i j hi hj h1
  · exact fun e => hp j i hj hi h1 e.symm
theorem nI_m {k : Nat} (h : 0 < k) : nI k - 1 = nI (k - 1) := by
  obtain ⟨j, rfl⟩ : ∃ j, k = j + 1 := ⟨k - 1, by omega⟩
  rw [nI_pred]; rfl
theorem s_firstApart {x : bq_S} {L : AL} (hc : CL x 1 L) (hN : NR x 1 L) (ho : OKL L) {q n : Nat} (hn : 20 ≤ n) {r : List Nat} (hr : r.length ≤ 8) (h8 : ∀ b ∈ r, b < 8) (hR : CRow x q r) : fX4_firstApart n 1 q 8 (nI r.length) x = some (jud (tch L) (decide (lri L = 1)) r, x) := by
  have hb : ∀ i, i < r.length → gt r i < 8 := fun i hi => h8 _ (gt_mem hi)
  have key : ∀ k f i, r.length ≤ i + 1 + k → k < f → i ≤ 8 → ∃ v, wh f (fX4_firstApart_b2 n 1 q 8 (nI r.length)) (nI i, x) = some (match scan (tch L) r (k + 1) i with | some j => .inr (nI j, x) | none => .inl (v, x)) := by
    intro k
    induction k with
    | zero =>
      intro f i h1 h2 h3
      obtain ⟨f, rfl⟩ : ∃ g, f = g + 1 := ⟨f - 1, by omega⟩
      refine ⟨nI i, wh_e ?_⟩
      have n1 : ¬ i + 1 < r.length := by omega
      unfold fX4_firstApart_b2
      simp only [un2, nI_1, wIle (show r.length < 2 ^ 31 by omega) (show i + 1 < 2 ^ 31 by omega), show r.length ≤ i + 1 by omega, if_true, scan, n1, if_false]
    | succ k ih =>
      intro f i h1 h2 h3
      obtain ⟨f, rfl⟩ : ∃ g, f = g + 1 := ⟨f - 1, by omega⟩
      by_cases n1 : i + 1 < r.length
      · have n2 : ¬ r.length ≤ i + 1 := by omega
        have hbody : fX4_firstApart_b2 n 1 q 8 (nI r.length) (nI i, x) = if tch L (gt r i) (gt r (i + 1)) then some (.inl (nI (i + 1), x)) else some (.inr (.inr (nI i, x))) := by
          unfold fX4_firstApart_b2
          simp only [un2, nI_1, wIle (show r.length < 2 ^ 31 by omega) (show i + 1 < 2 ^ 31 by omega), n2, if_false, okN (show i < 8 by omega) (by decide), okN (show i + 1 < 8 by omega) (by decide), if_true, cl0 (show i < 2 ^ 31 by omega), cl0 (show i + 1 < 2 ^ 31 by omega), hR i (by omega), hR (i + 1) n1, s_touches hN _ _ (hb i (by omega)) (hb (i + 1) n1), Option.bind_some, b2i_0, bd]
          cases tch L (gt r i) (gt r (i + 1)) <;> simp
        rw [show scan (tch L) r (k + 1 + 1) i = if tch L (gt r i) (gt r (i + 1)) then scan (tch L) r (k + 1) (i + 1) else some i by rw [scan, if_pos n1]]
        cases hT : tch L (gt r i) (gt r (i + 1)) with
        | true =>
          rw [hT] at hbody
          obtain ⟨v, hv⟩ := ih f (i + 1) (by omega) (by omega) (by omega)
          refine ⟨v, ?_⟩
          rw [wh_c (by simpa using hbody), hv]
          simp
        | false =>
          rw [hT] at hbody
          refine ⟨0, ?_⟩
          rw [wh_e (by simpa using hbody)]
          simp
      · refine ⟨nI i, wh_e ?_⟩
        unfold fX4_firstApart_b2
        simp only [un2, nI_1, wIle (show r.length < 2 ^ 31 by omega) (show i + 1 < 2 ^ 31 by omega), show r.length ≤ i + 1 by omega, if_true, scan, n1, if_false]
  obtain ⟨v, hv⟩ := key 8 n 0 (by omega) (by omega) (by omega)
  unfold fX4_firstApart jud
  have hv' : wh n (fX4_firstApart_b2 n 1 q 8 (nI r.length)) ((0 : Int32), x) = _ := hv
  rw [hv']
  cases hs : scan (tch L) r (8 + 1) 0 with
  | some j => simp
  | none =>
    simp only [Option.bind_some, Sum.elim_inl, un2, s_closes hc ho r.length (by omega), b2i_0, ends]
    by_cases hcl : lri L = 1 ∧ 3 ≤ r.length
    · have h0 : (0 : Int32).toNatClampNeg = 0 := rfl
      have hok0 : ok_i (0 : Int32) 8 = true := by decide
      have hR0 : x.1 q 0 = nI (gt r 0) := hR 0 (by omega)
      simp only [hcl, and_self, decide_true, Bool.true_eq_false, if_false, nI_m (show 0 < r.length by omega), okN (show r.length - 1 < 8 by omega) (by decide), if_true, hok0, cl0 (show r.length - 1 < 2 ^ 31 by omega), h0, hR0, hR (r.length - 1) (by omega), s_touches hN _ _ (hb (r.length - 1) (by omega)) (hb 0 (by omega)), Option.bind_some, b2i_0, Bool.true_and]
      cases tch L (gt r (r.length - 1)) (gt r 0) <;> simp
    · have : decide (lri L = 1 ∧ 3 ≤ r.length) = false := decide_eq_false hcl
      have h2 : (decide (lri L = 1) && decide (3 ≤ r.length)) = false := by
        rw [← Bool.decide_and]; exact this
      simp only [this, if_true, h2, Bool.false_and, Bool.not_false]
theorem s_isLawful {x : bq_S} {L : AL} (hc : CL x 1 L) (hN : NR x 1 L) (ho : OKL L) {q n : Nat} (hn : 20 ≤ n) {r : List Nat} (hr : r.length ≤ 8) (h8 : ∀ b ∈ r, b < 8) (hR : CRow x q r) : fX4_isLawful n 1 q 8 (nI r.length) x = some (b2i (lawB (tch L) (decide (lri L = 1)) r), x) := by
  unfold fX4_isLawful
  rw [s_firstApart hc hN ho hn hr h8 hR]
  simp only [Option.bind_some, un2, jud_law hr]
  cases lawB (tch L) (decide (lri L = 1)) r <;> simp [b2i]
theorem m_wrongAt {y : bq_S} {L : AL} (hc : ML y L) (ho : OKL L) {n : Nat} (hn : 20 ≤ n) {r : List Nat} (hr : rowOK (lm L) r) (hR : MRow y r) : fX10_wrongAt n y = some (jud (tch L) (decide (lri L = 1)) r, y) := by
  have hlen : r.length ≤ 8 := Nat.le_trans (rowOK_len ho.1 hr) ho.1
  have hb : ∀ i, i < r.length → gt r i < lm L := fun i hi => hr.2 _ (gt_mem hi)
  have key : ∀ k f i, r.length ≤ i + 1 + k → k < f → i ≤ 8 → ∃ v, wh f (fX10_wrongAt_b2 n) (nI i, y) = some (match scan (tch L) r (k + 1) i with | some j => .inr (nI j, y) | none => .inl (v, y)) := by
    intro k
    induction k with
    | zero =>
      intro f i h1 h2 h3
      obtain ⟨f, rfl⟩ : ∃ g, f = g + 1 := ⟨f - 1, by omega⟩
      refine ⟨nI i, wh_e ?_⟩
      have n1 : ¬ i + 1 < r.length := by omega
      unfold fX10_wrongAt_b2
      simp only [un2, nI_1, hR.1, wIle (show r.length < 2 ^ 31 by omega) (show i + 1 < 2 ^ 31 by omega), show r.length ≤ i + 1 by omega, if_true, scan, n1, if_false]
    | succ k ih =>
      intro f i h1 h2 h3
      obtain ⟨f, rfl⟩ : ∃ g, f = g + 1 := ⟨f - 1, by omega⟩
      by_cases n1 : i + 1 < r.length
      · have n2 : ¬ r.length ≤ i + 1 := by omega
        have hbody : fX10_wrongAt_b2 n (nI i, y) = if tch L (gt r i) (gt r (i + 1)) then some (.inl (nI (i + 1), y)) else some (.inr (.inr (nI i, y))) := by
          unfold fX10_wrongAt_b2
          simp only [un2, nI_1, hR.1, wIle (show r.length < 2 ^ 31 by omega) (show i + 1 < 2 ^ 31 by omega), n2, if_false, okN (show i < 8 by omega) (by decide), okN (show i + 1 < 8 by omega) (by decide), if_true, cl0 (show i < 2 ^ 31 by omega), cl0 (show i + 1 < 2 ^ 31 by omega), hR.2 i (by omega), hR.2 (i + 1) n1, m_mayTouch hc ho _ _ (hb i (by omega)) (hb (i + 1) n1), ← tch_may (hb i (by omega)) (hb (i + 1) n1) (gt_ne hr.1 (show i < r.length by omega) n1 (by omega)), Option.bind_some, b2i_0, bd]
          cases tch L (gt r i) (gt r (i + 1)) <;> simp
        rw [show scan (tch L) r (k + 1 + 1) i = if tch L (gt r i) (gt r (i + 1)) then scan (tch L) r (k + 1) (i + 1) else some i by rw [scan, if_pos n1]]
        cases hT : tch L (gt r i) (gt r (i + 1)) with
        | true =>
          rw [hT] at hbody
          obtain ⟨v, hv⟩ := ih f (i + 1) (by omega) (by omega) (by omega)
          refine ⟨v, ?_⟩
          rw [wh_c (by simpa using hbody), hv]
          simp
        | false =>
          rw [hT] at hbody
          refine ⟨0, ?_⟩
          rw [wh_e (by simpa using hbody)]
          simp
      · refine ⟨nI i, wh_e ?_⟩
        unfold fX10_wrongAt_b2
        simp only [un2, nI_1, hR.1, wIle (show r.length < 2 ^ 31 by omega) (show i + 1 < 2 ^ 31 by omega), show r.length ≤ i + 1 by omega, if_true, scan, n1, if_false]
  obtain ⟨v, hv⟩ := key 8 n 0 (by omega) (by omega) (by omega)
  unfold fX10_wrongAt jud
  have hv' : wh n (fX10_wrongAt_b2 n) ((0 : Int32), y) = _ := hv
  rw [hv']
  cases hs : scan (tch L) r (8 + 1) 0 with
  | some j => simp
  | none =>
    have h7 : y.1 4 (0 : Int32).toNatClampNeg = nI (lri L) := hc.2.2.2.2.2.2.1
    have e1 : (nI (lri L) = (1 : Int32)) = (lri L = 1) := wIeq (b := 1) (by have := ho.2.2.2.2.2.2.1; omega) (by decide)
    have e2 : (nI r.length ≤ (2 : Int32)) = (r.length ≤ 2) := wIle (b := 2) (by omega) (by decide)
    simp only [Option.bind_some, Sum.elim_inl, un2, h7, e1, hR.1, e2, ends]
    by_cases h1 : lri L = 1
    · by_cases h3 : r.length ≤ 2
      · have : ¬ 3 ≤ r.length := by omega
        simp [h1, h3, this]
      · have h0 : (0 : Int32).toNatClampNeg = 0 := rfl
        have hR0 : y.1 10 0 = nI (gt r 0) := hR.2 0 (by omega)
        have h33 : 3 ≤ r.length := by omega
        simp only [h1, h3, h33, decide_true, if_true, if_false, nI_m (show 0 < r.length by omega), okN (show r.length - 1 < 8 by omega) (by decide), cl0 (show r.length - 1 < 2 ^ 31 by omega), h0, hR0, hR.2 (r.length - 1) (by omega), m_mayTouch hc ho _ _ (hb (r.length - 1) (by omega)) (hb 0 (by omega)), ← tch_may (hb (r.length - 1) (by omega)) (hb 0 (by omega)) (gt_ne hr.1 (show r.length - 1 < r.length by omega) (show 0 < r.length by omega) (by omega)), Option.bind_some, b2i_0, Bool.true_and]
        cases tch L (gt r (r.length - 1)) (gt r 0) <;> simp [hR.1, nI_m (show 0 < r.length by omega)]
    · simp [h1]
theorem m_takesHall {y : bq_S} {L : AL} (hc : ML y L) (ho : OKL L) {n : Nat} (hn : 20 ≤ n) : ∃ y1, fX10_takesHall n y = some y1 ∧ MRow y1 (lhl L) ∧ sameM y y1 := by
  have h8 := hall8 ho
  have hst := hc.2.2.1
  obtain ⟨z, hz, h1, h2, h3, h4⟩ := wh_for (b := fX10_takesHall_b10 n) (fun i z => z.1 = nI i ∧ z.2.2 = y.2 ∧ (∀ c, c ≠ 10 → z.2.1 c = (bq_sI y 0 17 (y.1 0 6)).1 c) ∧ (∀ j, j < i → z.2.1 10 j = y.1 5 j)) (fun z => z.2.2 = y.2 ∧ (∀ c, c ≠ 10 → z.2.1 c = (bq_sI y 0 17 (y.1 0 6)).1 c) ∧ (∀ j, j < (lhl L).length → z.2.1 10 j = y.1 5 j) ∧ True) (lhl L).length (by
    rintro i ⟨v, z⟩ hi ⟨h0, h1, h2, h3⟩
    dsimp only at h0 h1 h2 h3
    subst h0
    have z6 : z.1 0 6 = nI (lhl L).length := by rw [h2 0 (by decide), sI_s, pk_un (by decide)]; exact hst
    refine Or.inl ⟨(nI (i + 1), bq_sI z 10 i (z.1 5 i)), ?_, rfl, h1, fun c hc => ?_, fun j hj => ?_⟩
    · unfold fX10_takesHall_b10
      have n1 : ¬ (lhl L).length ≤ i := by omega
      simp only [un2, z6, wIle (show (lhl L).length < 2 ^ 31 by omega) (show i < 2 ^ 31 by omega), n1, if_false, okN (show i < 8 by omega) (by decide), if_true, bd, nI_1, cl0 (show i < 2 ^ 31 by omega)]
    · dsimp only; rw [sI_n _ _ _ hc]; exact h2 c hc
    · dsimp only; rw [sI_s]
      by_cases e : j = i
      · subst e; rw [pk_us, h2 5 (by decide), sI_n _ _ _ (by decide)]
      · rw [pk_un e]; exact h3 j (by omega)) (by
    rintro ⟨v, z⟩ ⟨h0, h1, h2, h3⟩
    dsimp only at h0 h1 h2 h3
    subst h0
    have z6 : z.1 0 6 = nI (lhl L).length := by rw [h2 0 (by decide), sI_s, pk_un (by decide)]; exact hst
    refine ⟨(nI (lhl L).length, z), ?_, h1, h2, h3, trivial⟩
    unfold fX10_takesHall_b10
    simp only [un2, z6, Int32.le_refl, if_true]) n 0 ((0 : Int32), bq_sI y 0 17 (y.1 0 6)) (by omega) ⟨rfl, rfl, fun _ _ => rfl, fun j hj => by omega⟩ (by omega)
  obtain ⟨v, z⟩ := z
  refine ⟨z, ?_, ⟨?_, fun i hi => ?_⟩, ⟨fun k hk => ?_, fun c a b => ?_, fun c a b => ?_, ?_⟩⟩
  · unfold fX10_takesHall
    simp only [bd, hz, Option.bind_some, un2]
  · rw [h2 0 (by decide), sI_s, pk_us]; exact hst
  · rw [h3 i hi]; exact hc.2.2.2.2.2.2.2.2 i hi
  · rw [h2 0 (by decide), sI_s, pk_un (by omega)]
  · rw [h2 c (by omega), sI_n _ _ _ (by omega)]
  · rw [h2 c (by omega), sI_n _ _ _ (by omega)]
  · rw [h1]
theorem st_judged {n : Nat} (hn : 20 ≤ n) : bs_judged Rl n := by
  rintro x y ⟨A, ho, hx, hy⟩
  obtain ⟨y1, a1, a2, a3⟩ := m_takesHall hy.1 ho.1 hn
  have hy1 := MR_same a3 hy
  have h8 := hall8 ho.1
  refine ⟨jud (tch A.1) (decide (lri A.1 = 1)) (lhl A.1), x, y1, ?_, ?_, A, ho, hx, hy1⟩
  · unfold fX9_judged
    rw [hx.1.2.2.1, s_firstApart hx.1 hx.2.1 ho.1 hn h8 (fun b hb => by have := ho.1.2.2.2.2.2.2.2.2.2 b hb; have := ho.1.1; omega) hx.1.2.2.2.2.2.2.2.2]
    rfl
  · unfold fX10_judged
    rw [a1]
    simp only [Option.bind_some]
    rw [m_wrongAt hy1.1 ho.1 hn ho.1.2.2.2.2.2.2.2.2 a2]
    rfl
