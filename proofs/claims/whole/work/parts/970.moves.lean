/-! ===== moved: the longest that stays in order ===== -/
def ps : List Nat → Nat → Nat
  | [], _ => 0
  | h :: t, b => if h = b then 0 else ps t b + 1
theorem ps_le : ∀ (H : List Nat) (b : Nat), ps H b ≤ H.length
  | [], b => Nat.le_refl _
  | h :: t, b => by
    unfold ps
    rw [List.length_cons]
    have := ps_le t b
    split <;> omega
theorem ps_gt : ∀ {H : List Nat} {b : Nat}, ps H b < H.length → gt H (ps H b) = b
  | [], b, h => by simp [ps] at h
  | c :: t, b, h => by
    unfold ps at h ⊢
    by_cases e : c = b
    · rw [if_pos e]; exact e
    · rw [if_neg e] at h ⊢
      rw [List.length_cons] at h
      show gt t (ps t b) = b
      exact ps_gt (by omega)
theorem ps_first : ∀ {H : List Nat} {i : Nat}, i < H.length → ps H (gt H i) ≤ i
  | [], i, h => by simp at h
  | c :: t, 0, h => by
    unfold ps
    have : gt (c :: t) 0 = c := rfl
    rw [this, if_pos rfl]; exact Nat.le_refl _
  | c :: t, i + 1, h => by
    unfold ps
    have e : gt (c :: t) (i + 1) = gt t i := rfl
    rw [e]
    have := ps_first (H := t) (i := i) (by simpa using h)
    split <;> omega
theorem ps_at {H : List Nat} (hn : H.Nodup) {i : Nat} (h : i < H.length) : ps H (gt H i) = i := by
  have h1 := ps_first h
  have h2 := ps_gt (H := H) (b := gt H i) (by omega)
  apply Classical.byContradiction
  intro hne
  exact gt_ne hn (show ps H (gt H i) < H.length by omega) h hne h2
theorem ps_mem {H : List Nat} {b : Nat} : b ∈ H ↔ ps H b < H.length := by
  constructor
  · intro h
    obtain ⟨i, hi, e⟩ := List.getElem_of_mem h
    have := ps_first hi
    rw [gt_get hi, e] at this
    omega
  · intro h
    have := gt_mem h
    rw [ps_gt h] at this
    exact this
def mxn (a b : Nat) : Nat := if a < b then b else a
theorem mxn_l (a b : Nat) : a ≤ mxn a b := by unfold mxn; split <;> omega
theorem mxn_r (a b : Nat) : b ≤ mxn a b := by unfold mxn; split <;> omega
theorem mxn_le {a b c : Nat} (h1 : a ≤ c) (h2 : b ≤ c) : mxn a b ≤ c := by unfold mxn; split <;> omega
def EE (H r : List Nat) : Nat → Nat → Nat
  | 0, _ => 0
  | b + 1, a => if ps H (gt r b) < a then mxn (EE H r b a) (EE H r b (ps H (gt r b)) + 1) else EE H r b a
theorem EE_t {H r : List Nat} {b a : Nat} (h : ps H (gt r b) < a) : EE H r (b + 1) a = mxn (EE H r b a) (EE H r b (ps H (gt r b)) + 1) := by rw [EE, if_pos h]
theorem EE_f {H r : List Nat} {b a : Nat} (h : ¬ ps H (gt r b) < a) : EE H r (b + 1) a = EE H r b a := by rw [EE, if_neg h]
theorem EE_mono {H r : List Nat} : ∀ {b a c : Nat}, a ≤ c → EE H r b a ≤ EE H r b c
  | 0, _, _, _ => Nat.le_refl _
  | b + 1, a, c, h => by
    have ih := EE_mono (H := H) (r := r) (b := b) h
    by_cases h1 : ps H (gt r b) < a
    · rw [EE_t h1, EE_t (show ps H (gt r b) < c by omega)]
      exact mxn_le (Nat.le_trans ih (mxn_l _ _)) (mxn_r _ _)
    · rw [EE_f h1]
      by_cases h2 : ps H (gt r b) < c
      · rw [EE_t h2]; exact Nat.le_trans ih (mxn_l _ _)
      · rw [EE_f h2]; exact ih
theorem EE_0 (H r : List Nat) : ∀ b, EE H r b 0 = 0
  | 0 => rfl
  | b + 1 => by rw [EE_f (by omega), EE_0 H r b]
/-- the reference's own -/
def own1 (u l d : Nat) (eq : Bool) : Nat := if eq && decide ((if u ≤ l then l else u) < d + 1) then d + 1 else (if u ≤ l then l else u)
theorem EE_rec {H r : List Nat} (hn : H.Nodup) {a b : Nat} (ha : a < H.length) : EE H r (b + 1) (a + 1) = own1 (EE H r (b + 1) a) (EE H r b (a + 1)) (EE H r b a) (decide (gt H a = gt r b)) := by
  have m1 : EE H r b a ≤ EE H r b (a + 1) := EE_mono (by omega)
  by_cases e : gt H a = gt r b
  · have hp : ps H (gt r b) = a := by rw [← e]; exact ps_at hn ha
    rw [EE_t (show ps H (gt r b) < a + 1 by omega), EE_f (show ¬ ps H (gt r b) < a by omega), hp, decide_eq_true e]
    unfold own1 mxn
    rw [if_pos m1, Bool.true_and]
    by_cases c : EE H r b (a + 1) < EE H r b a + 1
    · rw [if_pos c, if_pos (decide_eq_true c)]
    · rw [if_neg c, if_neg (fun h => c (of_decide_eq_true h))]
  · have hp : ps H (gt r b) ≠ a := fun h => e (by rw [← h]; exact ps_gt (by omega))
    rw [decide_eq_false e]
    unfold own1
    rw [Bool.false_and, if_neg (by decide)]
    by_cases c : ps H (gt r b) < a
    · have m2 : EE H r b (ps H (gt r b)) ≤ EE H r b (a + 1) := EE_mono (by omega)
      rw [EE_t (show ps H (gt r b) < a + 1 by omega), EE_t c]
      unfold mxn
      by_cases c1 : EE H r b (a + 1) < EE H r b (ps H (gt r b)) + 1
      · rw [if_pos c1, if_pos (show EE H r b a < EE H r b (ps H (gt r b)) + 1 by omega)]
        by_cases c2 : EE H r b (ps H (gt r b)) + 1 ≤ EE H r b (a + 1)
        · omega
        · rw [if_neg c2]
      · rw [if_neg c1]
        by_cases c2 : EE H r b a < EE H r b (ps H (gt r b)) + 1
        · rw [if_pos c2, if_pos (by omega)]
        · rw [if_neg c2, if_pos m1]
    · rw [EE_f (show ¬ ps H (gt r b) < a + 1 by omega), EE_f c, if_pos m1]
/-- how many of the first stood -/
def sdF (H r : List Nat) : Nat → Nat
  | 0 => 0
  | k + 1 => sdF H r k + (if ps H (gt r k) < H.length then 1 else 0)
theorem EE_sd {H r : List Nat} : ∀ {b a : Nat}, a ≤ H.length → EE H r b a ≤ sdF H r b
  | 0, _, _ => Nat.le_refl _
  | b + 1, a, h => by
    have h1 := EE_sd (H := H) (r := r) (b := b) h
    have h2 := EE_sd (H := H) (r := r) (b := b) (ps_le H (gt r b))
    unfold sdF
    by_cases c : ps H (gt r b) < a
    · rw [EE_t c, if_pos (by omega)]
      exact mxn_le (by omega) (by omega)
    · rw [EE_f c]; omega
theorem EE_pos {H r : List Nat} : ∀ {b : Nat}, 1 ≤ sdF H r b → 1 ≤ EE H r b H.length
  | 0, h => by simp [sdF] at h
  | b + 1, h => by
    unfold sdF at h
    by_cases c : ps H (gt r b) < H.length
    · rw [EE_t c]
      have := mxn_r (EE H r b H.length) (EE H r b (ps H (gt r b)) + 1)
      omega
    · rw [if_neg c] at h
      rw [EE_f c]; exact EE_pos h
theorem sdF_le (H r : List Nat) : ∀ k, sdF H r k ≤ k
  | 0 => Nat.le_refl _
  | k + 1 => by
    have := sdF_le H r k
    unfold sdF
    split <;> omega
def mvp (H r : List Nat) (k : Nat) : Nat := sdF H r k - EE H r k H.length
def mv (H r : List Nat) : Nat := mvp H r r.length
theorem mvp_s (H r : List Nat) (k : Nat) : mvp H r k ≤ mvp H r (k + 1) := by
  have h1 := EE_sd (H := H) (r := r) (b := k) (Nat.le_refl _)
  have h2 : EE H r k (ps H (gt r k)) ≤ EE H r k H.length := EE_mono (ps_le _ _)
  unfold mvp
  by_cases c : ps H (gt r k) < H.length
  · have h3 : EE H r (k + 1) H.length ≤ EE H r k H.length + 1 := by rw [EE_t c]; exact mxn_le (by omega) (by omega)
    have h4 : sdF H r (k + 1) = sdF H r k + 1 := by rw [sdF, if_pos c]
    omega
  · have h4 : sdF H r (k + 1) = sdF H r k := by rw [sdF, if_neg c]; rfl
    rw [EE_f c, h4]; exact Nat.le_refl _
theorem mvp_mono (H r : List Nat) {j : Nat} : ∀ d, mvp H r j ≤ mvp H r (j + d)
  | 0 => Nat.le_refl _
  | d + 1 => Nat.le_trans (mvp_mono H r d) (mvp_s H r (j + d))
theorem EE_congr {H r q : List Nat} : ∀ {b a : Nat}, (∀ i, i < b → gt r i = gt q i) → EE H r b a = EE H q b a
  | 0, _, _ => rfl
  | b + 1, a, h => by
    have ih : ∀ a, EE H r b a = EE H q b a := fun a => EE_congr (fun i hi => h i (by omega))
    unfold EE
    rw [h b (by omega), ih, ih]
theorem sdF_congr {H r q : List Nat} : ∀ {b : Nat}, (∀ i, i < b → gt r i = gt q i) → sdF H r b = sdF H q b
  | 0, _ => rfl
  | b + 1, h => by
    unfold sdF
    rw [h b (by omega), sdF_congr (fun i hi => h i (by omega))]
theorem mvp_congr {H r q : List Nat} {b : Nat} (h : ∀ i, i < b → gt r i = gt q i) : mvp H r b = mvp H q b := by
  unfold mvp; rw [EE_congr h, sdF_congr h]
theorem mv_7 {H r : List Nat} (h : r.length ≤ 8) : mv H r ≤ 7 := by
  have h1 := sdF_le H r r.length
  unfold mv mvp
  by_cases c : 1 ≤ sdF H r r.length
  · have := EE_pos c; omega
  · omega
def chv (H r : List Nat) (j : Nat) : Nat := if ps H (gt r j) < H.length then EE H r j (ps H (gt r j)) + 1 else 0
theorem chv_congr {H r q : List Nat} {j : Nat} (h : ∀ i, i < j + 1 → gt r i = gt q i) : chv H r j = chv H q j := by
  unfold chv
  rw [h j (by omega), EE_congr (r := r) (q := q) (fun i hi => h i (by omega))]
theorem EE_chv (H r : List Nat) (k : Nat) : EE H r (k + 1) H.length = if EE H r k H.length < chv H r k then chv H r k else EE H r k H.length := by
  unfold chv
  by_cases c : ps H (gt r k) < H.length
  · rw [EE_t c, if_pos c]; rfl
  · rw [EE_f c, if_neg c, if_neg (by omega)]
/-- sets and counts -/
theorem mset_no {r : List Nat} (hn : r.Nodup) {k : Nat} (hk : k < r.length) : (mset r 0 k).testBit (gt r k) = false := by
  cases h : (mset r 0 k).testBit (gt r k)
  · rfl
  · rw [mset_bit, List.any_eq_true] at h
    obtain ⟨j, h1, h2⟩ := h
    have h1 := List.mem_range.mp h1
    have h2 := of_decide_eq_true h2
    rw [Nat.zero_add] at h2
    exact absurd h2 (gt_ne hn (by omega) hk (by omega))
theorem pc_sd {H r : List Nat} {st : Nat} (hn : r.Nodup) (h8 : ∀ c ∈ r, c < 8) (hst : st < 256) (hs : ∀ c ∈ r, st.testBit c = decide (c ∈ H)) : ∀ k, k ≤ r.length → pc (mset r 0 k &&& st) = sdF H r k
  | 0, _ => by
    have : mset r 0 0 &&& st = 0 := by show 0 &&& st = 0; simp
    rw [this]; rfl
  | k + 1, hk => by
    have ih := pc_sd (H := H) hn h8 hst hs k (by omega)
    have hm := gt_mem (show k < r.length by omega)
    have hb := hs _ hm
    have hno := mset_no hn (show k < r.length by omega)
    rw [mset_s, Nat.zero_add]
    unfold sdF
    by_cases c : ps H (gt r k) < H.length
    · rw [if_pos c]
      rw [decide_eq_true (ps_mem.mpr c)] at hb
      have e : (mset r 0 k ||| 2 ^ gt r k) &&& st = (mset r 0 k &&& st) ||| 2 ^ gt r k := by
        apply Nat.eq_of_testBit_eq
        intro i
        rw [Nat.testBit_and, Nat.testBit_or, Nat.testBit_or, Nat.testBit_and, Nat.testBit_two_pow]
        by_cases ei : gt r k = i
        · subst ei; rw [hb]; simp
        · simp [ei]
      rw [e, (pc_or (Nat.lt_of_le_of_lt Nat.and_le_right hst) (h8 _ hm) (by rw [Nat.testBit_and, hno]; rfl)).1, ih]
    · rw [if_neg c]
      have hnm : ¬ gt r k ∈ H := fun h => c (ps_mem.mp h)
      rw [decide_eq_false hnm] at hb
      have e : (mset r 0 k ||| 2 ^ gt r k) &&& st = mset r 0 k &&& st := by
        apply Nat.eq_of_testBit_eq
        intro i
        rw [Nat.testBit_and, Nat.testBit_or, Nat.testBit_and, Nat.testBit_two_pow]
        by_cases ei : gt r k = i
        · subst ei; rw [hb]; simp
        · simp [ei]
      rw [e, ih]; rfl
theorem setOf_app1 (p : List Nat) (b : Nat) : setOf (p ++ [b]) = setOf p ||| 2 ^ b := by
  apply Nat.eq_of_testBit_eq
  intro i
  rw [setOf_bit, Nat.testBit_or, setOf_bit, Nat.testBit_two_pow]
  by_cases e : b = i
  · subst e; simp
  · have : ¬ i = b := fun h => e h.symm
    simp [e, this]
theorem law_adj {T : Nat → Nat → Bool} {ring : Bool} {r : List Nat} (h8 : r.length ≤ 8) (h : lawB T ring r = true) {i : Nat} (hi : i + 1 < r.length) : T (gt r i) (gt r (i + 1)) = true := by
  cases r with
  | nil => simp at hi
  | cons b q =>
    rw [List.length_cons] at h8 hi
    rw [law_chn (by omega), Bool.and_eq_true] at h
    exact (chn_iff T q b).mp h.1 i (by omega)
def okM (L : AL) (al : Nat) (r : List Nat) : Bool := lawB (tch L) (decide (lri L = 1)) r && decide (mv (lhl L) r ≤ al)
/-! the class: where a book stood, the chain -/
theorem s_placeOf {x : bq_S} {L : AL} (hc : CL x 1 L) (ho : OKL L) {n b : Nat} (hn : 20 ≤ n) (hb : b < 8) : fX4_placeOf n 1 (nI b) x = some (if ps (lhl L) b < (lhl L).length then nI (ps (lhl L) b) else -1, x) := by
  have h8 := hall8 ho
  have hm := ho.1
  have h2 : x.1 1 2 = nI (lhl L).length := hc.2.2.1
  have h6 : ∀ t, t < (lhl L).length → x.1 (1 + 5) t = nI (gt (lhl L) t) := fun t ht => hc.2.2.2.2.2.2.2.2 t ht
  obtain ⟨o, hz, h1⟩ := wh_for (b := fX4_placeOf_b2 n 1 (nI b)) (fun i z => z = (nI i, x) ∧ i ≤ ps (lhl L) b) (fun o => o = if ps (lhl L) b < (lhl L).length then .inr (nI (ps (lhl L) b), x) else .inl (nI (lhl L).length, x)) (lhl L).length (by
    rintro i _ hi ⟨rfl, hf⟩
    have n1 : ¬ (lhl L).length ≤ i := by omega
    have hg := hallR ho hi
    have hbody : fX4_placeOf_b2 n 1 (nI b) (nI i, x) = if gt (lhl L) i = b then some (.inr (.inr (nI i, x))) else some (.inl (nI (i + 1), x)) := by
      unfold fX4_placeOf_b2
      simp only [un2, h2, wIle (show (lhl L).length < 2 ^ 31 by omega) (show i < 2 ^ 31 by omega), n1, if_false, okN (show i < 8 by omega) (by decide), if_true, cl0 (show i < 2 ^ 31 by omega), h6 i hi, wIeq (show gt (lhl L) i < 2 ^ 31 by omega) (show b < 2 ^ 31 by omega), bd, nI_1]
    by_cases c : gt (lhl L) i = b
    · rw [if_pos c] at hbody
      refine Or.inr ⟨_, hbody, ?_⟩
      have := ps_first hi
      rw [c] at this
      have e : ps (lhl L) b = i := by omega
      rw [e, if_pos hi]
    · rw [if_neg c] at hbody
      refine Or.inl ⟨_, hbody, rfl, ?_⟩
      by_cases e : i = ps (lhl L) b
      · have := ps_gt (H := lhl L) (b := b) (by omega)
        rw [← e] at this
        exact absurd this c
      · omega) (by
    rintro _ ⟨rfl, hf⟩
    refine ⟨.inl (nI (lhl L).length, x), ?_, ?_⟩
    · unfold fX4_placeOf_b2
      simp only [un2, h2, Int32.le_refl, if_true]
    · rw [if_neg (by omega)]) n 0 ((0 : Int32), x) (by omega) ⟨rfl, Nat.zero_le _⟩ (by omega)
  unfold fX4_placeOf
  rw [hz, Option.bind_some, h1]
  by_cases c : ps (lhl L) b < (lhl L).length
  · rw [if_pos c, if_pos c]; rfl
  · rw [if_neg c, if_neg c]; rfl
theorem s_chainAt {x : bq_S} {L : AL} (hc : CL x 1 L) (ho : OKL L) {n k : Nat} {r : List Nat} (hn : 20 ≤ n) (hk : k < r.length) (hr : r.length ≤ 8) (h8 : ∀ c ∈ r, c < 8) (hR : CRow x 30 r) (hC : ∀ j, j < k → x.1 31 j = nI (chv (lhl L) r j)) : fX5_chainAt n (nI k) x = some (nI (chv (lhl L) r k), x) := by
  have hh := hall8 ho
  have hb : ∀ i, i < r.length → gt r i < 8 := fun i hi => h8 _ (gt_mem hi)
  unfold fX5_chainAt
  simp only [okN (show k < 8 by omega) (by decide), if_true, cl0 (show k < 2 ^ 31 by omega), hR k hk, s_placeOf hc ho hn (hb k hk), Option.bind_some, un2]
  have hne : ∀ t, t ≤ 8 → ¬ nI t = (-1 : Int32) := fun t ht => by
    have : ∀ t : Fin 9, ¬ nI t.val = (-1 : Int32) := by decide
    exact this ⟨t, by omega⟩
  by_cases c : ps (lhl L) (gt r k) < (lhl L).length
  · rw [if_pos c, if_neg (hne _ (by omega))]
    obtain ⟨w, hw⟩ : ∃ w, w = ps (lhl L) (gt r k) := ⟨_, rfl⟩
    rw [← hw] at c ⊢
    obtain ⟨z, hz, rfl⟩ := wh_for (b := fX5_chainAt_b26 n (nI k) (nI w)) (fun i z => z = (nI (EE (lhl L) r i w), nI i, x)) (fun z => z = (nI (EE (lhl L) r k w), nI k, x)) k (by
      rintro i _ hi rfl
      have n1 : ¬ k ≤ i := by omega
      have hE : ∀ a, a ≤ (lhl L).length → EE (lhl L) r i a ≤ 8 := fun a ha => by
        have := EE_sd (H := lhl L) (r := r) (b := i) ha
        have := sdF_le (lhl L) r i
        omega
      have hE1 := hE w (by omega)
      have hci := hC i hi
      have hcv : chv (lhl L) r i ≤ 9 := by
        unfold chv
        have := hE _ (ps_le (lhl L) (gt r i))
        split <;> omega
      refine Or.inl ⟨_, ?_, rfl⟩
      unfold fX5_chainAt_b26
      simp only [un3, wIle (show k < 2 ^ 31 by omega) (show i < 2 ^ 31 by omega), n1, if_false, okN (show i < 8 by omega) (by decide), if_true, cl0 (show i < 2 ^ 31 by omega), hR i (by omega), s_placeOf hc ho hn (hb i (by omega)), Option.bind_some, un2, hci, bd, nI_1, wIlt (show EE (lhl L) r i w < 2 ^ 31 by omega) (show chv (lhl L) r i < 2 ^ 31 by omega)]
      by_cases d : ps (lhl L) (gt r i) < (lhl L).length
      · rw [if_pos d]
        have ee : (nI w ≤ nI (ps (lhl L) (gt r i))) = (w ≤ ps (lhl L) (gt r i)) := wIle (by omega) (by omega)
        simp only [ee]
        by_cases e : w ≤ ps (lhl L) (gt r i)
        · rw [if_pos e, EE_f (by omega)]
        · rw [if_neg e, EE_t (by omega)]
          unfold chv mxn
          rw [if_pos d]
          by_cases g : EE (lhl L) r i w < EE (lhl L) r i (ps (lhl L) (gt r i)) + 1
          · rw [if_pos g, if_pos g]
          · rw [if_neg g, if_neg g]
      · rw [if_neg d]
        have n2 : ¬ nI w ≤ (-1 : Int32) := by
          have : ∀ t : Fin 9, ¬ nI t.val ≤ (-1 : Int32) := by decide
          exact this ⟨w, by omega⟩
        have e0 : chv (lhl L) r i = 0 := by unfold chv; rw [if_neg d]
        rw [if_neg n2, e0, if_neg (by omega), EE_f (by have := ps_le (lhl L) (gt r i); omega)]) (by
      rintro _ rfl
      refine ⟨_, ?_, rfl⟩
      unfold fX5_chainAt_b26
      simp only [un3, Int32.le_refl, if_true]) n 0 ((0 : Int32), (0 : Int32), x) (by omega) rfl (by omega)
    rw [hz, Option.bind_some]
    simp only [un3, nI_1]
    have e : chv (lhl L) r k = EE (lhl L) r k w + 1 := by unfold chv; rw [← hw, if_pos c]
    rw [e]
  · rw [if_neg c, if_pos rfl]
    have e : chv (lhl L) r k = 0 := by unfold chv; rw [if_neg c]
    rw [e]; rfl
