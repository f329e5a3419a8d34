/-! ===== rows step by step ===== -/
theorem bits_rm (s b : Nat) : bits (andn s (2 ^ b)) = (bits s).filter (fun c => c != b) := by
  unfold bits
  rw [List.filter_filter]
  apply List.filter_congr
  intro c _
  rw [andn_bit, Nat.testBit_two_pow]
  by_cases e : b = c
  · subst e; simp
  · have : (c != b) = true := by simp; exact fun h => e h.symm
    simp [e, this]
theorem andn_or (s u b : Nat) : andn s (u ||| 2 ^ b) = andn (andn s u) (2 ^ b) := by
  apply Nat.eq_of_testBit_eq
  intro i
  simp only [andn_bit, Nat.testBit_or]
  cases s.testBit i <;> cases u.testBit i <;> cases (2 ^ b).testBit i <;> rfl
/-- what is left behind j -/
def rst (s j : Nat) : List Nat := (List.range' j (8 - j)).filter s.testBit
theorem rst_0 (s : Nat) : rst s 0 = bits s := by unfold rst bits; rw [List.range_eq_range']
theorem rst_8 (s : Nat) : rst s 8 = [] := rfl
theorem rst_s {s j : Nat} (h : j < 8) : rst s j = if s.testBit j then j :: rst s (j + 1) else rst s (j + 1) := by
  unfold rst
  obtain ⟨k, hk⟩ : ∃ k, 8 - j = k + 1 := ⟨8 - j - 1, by omega⟩
  have : 8 - (j + 1) = k := by omega
  rw [hk, this, List.range'_succ, List.filter_cons]
/-- the value of all ways on from here: what is used, the last, k more -/
def FF (st : Nat) (z : Int32) (stp : Nat → Nat → Nat → Int32 → Int32) (bth : Int32 → Int32 → Int32) (whl : Nat → Nat → Int32) : Nat → Nat → Nat → Int32
  | 0, u, l => whl u l
  | k + 1, u, l => (bits (andn st u)).foldl (fun acc b => bth acc (stp u l b (FF st z stp bth whl k (u ||| 2 ^ b) b))) z
/-- the ways on themselves -/
def QQ (st : Nat) (T : Nat → Nat → Bool) (W : Nat → Nat → Bool) : Nat → Nat → Nat → List (List Nat)
  | 0, u, l => if W u l then [[]] else []
  | k + 1, u, l => (bits (andn st u)).flatMap (fun b => if T l b then (QQ st T W k (u ||| 2 ^ b) b).map (fun r => b :: r) else [])
theorem fold_len {α : Type} (f : Nat → List α) : ∀ (l : List Nat) (a : Nat), l.foldl (fun acc b => acc + nI (f b).length) (nI a) = nI (a + (l.flatMap f).length)
  | [], a => by simp
  | b :: l, a => by rw [List.foldl_cons, nI_add, fold_len f l, List.flatMap_cons, List.length_append, Nat.add_assoc]
theorem FF_len (st : Nat) (T W : Nat → Nat → Bool) : ∀ k u l, FF st 0 (fun _ l b v => if T l b then v else 0) (fun a b => a + b) (fun u l => if W u l then 1 else 0) k u l = nI (QQ st T W k u l).length
  | 0, u, l => by
    unfold FF QQ
    cases W u l <;> rfl
  | k + 1, u, l => by
    unfold FF QQ
    have h0 : (0 : Int32) = nI 0 := rfl
    have := fold_len (fun b => if T l b then (QQ st T W k (u ||| 2 ^ b) b).map (fun r => b :: r) else []) (bits (andn st u)) 0
    rw [Nat.zero_add] at this
    refine Eq.trans ?_ this
    show List.foldl _ (0 : Int32) _ = List.foldl _ (0 : Int32) _
    congr 1
    funext acc b
    rw [FF_len st T W k]
    cases T l b with
    | false => rw [if_neg (by decide), if_neg (by decide)]; rfl
    | true => rw [if_pos rfl, if_pos rfl, List.length_map]
/-- the row holds from l on -/
def chn (T : Nat → Nat → Bool) : Nat → List Nat → Bool
  | _, [] => true
  | l, b :: r => T l b && chn T b r
def lst : Nat → List Nat → Nat
  | l, [] => l
  | _, b :: r => lst b r
theorem setOf_nil : setOf [] = 0 := by
  apply Nat.eq_of_testBit_eq; intro i; rw [setOf_bit]; simp
theorem setOf_cons (b : Nat) (r : List Nat) : setOf (b :: r) = 2 ^ b ||| setOf r := by
  apply Nat.eq_of_testBit_eq
  intro i
  rw [setOf_bit, Nat.testBit_or, setOf_bit, Nat.testBit_two_pow]
  by_cases e : b = i
  · subst e; simp
  · have : ¬ i = b := fun h => e h.symm
    simp [e, this]
theorem QQ_arr (st : Nat) (T W : Nat → Nat → Bool) : ∀ k u l, QQ st T W k u l = (arrL k (bits (andn st u))).filter (fun r => chn T l r && W (u ||| setOf r) (lst l r))
  | 0, u, l => by
    unfold QQ arrL
    rw [List.filter_cons, List.filter_nil]
    simp only [chn, lst, setOf_nil, Nat.or_zero, Bool.true_and]
  | k + 1, u, l => by
    unfold QQ arrL
    rw [List.filter_flatMap]
    congr 1
    funext b
    rw [List.filter_map, ← bits_rm, ← andn_or, QQ_arr st T W k]
    cases h : T l b with
    | false =>
      rw [if_neg (by decide)]
      have : (fun r => chn T l r && W (u ||| setOf r) (lst l r)) ∘ (fun r => b :: r) = fun _ => false := by
        funext r
        simp [chn, h]
      rw [this]; simp
    | true =>
      rw [if_pos rfl]
      congr 2
      funext r
      simp [chn, h, lst, setOf_cons, Nat.or_assoc]
theorem scan_chn {T : Nat → Nat → Bool} {r : List Nat} : ∀ f k, r.length ≤ k + f → k < r.length → (scan T r f k).isNone = chn T (gt r k) (r.drop (k + 1))
  | 0, k, h1, h2 => by omega
  | f + 1, k, h1, h2 => by
    unfold scan
    by_cases c : k + 1 < r.length
    · rw [if_pos c, List.drop_eq_getElem_cons c, chn, ← gt_get c, ← scan_chn f (k + 1) (by omega) c]
      cases T (gt r k) (gt r (k + 1)) <;> simp
    · rw [if_neg c, List.drop_eq_nil_of_le (by omega)]; rfl
theorem lst_gt : ∀ (b : Nat) (q : List Nat), lst b q = gt (b :: q) q.length
  | b, [] => rfl
  | b, c :: q => by rw [lst, lst_gt c q]; rfl
theorem law_chn {T : Nat → Nat → Bool} {ring : Bool} {b : Nat} {q : List Nat} (h : q.length ≤ 7) : lawB T ring (b :: q) = (chn T b q && !(ring && decide (3 ≤ q.length + 1) && !T (lst b q) b)) := by
  unfold lawB ends
  rw [scan_chn 9 0 (by simp; omega) (by simp)]
  simp only [List.length_cons, Nat.add_sub_cancel, ← lst_gt]
  rfl
theorem law_nil {T : Nat → Nat → Bool} {ring : Bool} : lawB T ring [] = true := by
  unfold lawB ends; simp [scan]
/-- all ways by their firsts -/
def AQ (st fi : Nat) (T : Nat → Nat → Bool) (W : Nat → Nat → Nat → Bool) (k : Nat) : List (List Nat) := (bits (st &&& fi)).flatMap (fun b => (QQ st T (W b) k (2 ^ b) b).map (fun r => b :: r))
def okR (fi : Nat) (T : Nat → Nat → Bool) (W : Nat → Nat → Nat → Bool) : List Nat → Bool
  | [] => false
  | b :: q => fi.testBit b && (chn T b q && W b (2 ^ b ||| setOf q) (lst b q))
theorem bits_and (s f : Nat) : bits (s &&& f) = (bits s).filter f.testBit := by
  unfold bits
  rw [List.filter_filter]
  apply List.filter_congr
  intro c _
  rw [Nat.testBit_and, Bool.and_comm]
theorem flat_filter {α β : Type} {p : α → Bool} {g : α → List β} : ∀ (l : List α), (l.filter p).flatMap g = l.flatMap (fun b => if p b then g b else [])
  | [] => rfl
  | a :: l => by
    rw [List.filter_cons, List.flatMap_cons, ← flat_filter l]
    cases p a <;> simp
theorem AQ_arr (st fi : Nat) (T : Nat → Nat → Bool) (W : Nat → Nat → Nat → Bool) (k : Nat) : AQ st fi T W k = (arrL (k + 1) (bits st)).filter (okR fi T W) := by
  unfold AQ arrL
  rw [bits_and, flat_filter, List.filter_flatMap]
  congr 1
  funext b
  rw [List.filter_map, QQ_arr, ← bits_rm]
  cases h : fi.testBit b with
  | false =>
    rw [if_neg (by decide)]
    have : okR fi T W ∘ (fun r => b :: r) = fun _ => false := by
      funext r; simp [okR, h]
    rw [this]; simp
  | true =>
    rw [if_pos rfl]
    congr 2
    funext r
    simp [okR, h]
theorem QQ_len (st : Nat) (T W : Nat → Nat → Bool) (k u l : Nat) : (QQ st T W k u l).length ≤ 8 ^ k := by
  rw [QQ_arr]
  exact Nat.le_trans (List.length_filter_le _ _) (arr_len (bits_len _))
theorem AQ_len (st fi : Nat) (T : Nat → Nat → Bool) (W : Nat → Nat → Nat → Bool) (k : Nat) : (AQ st fi T W k).length ≤ 8 ^ (k + 1) := by
  rw [AQ_arr]
  exact Nat.le_trans (List.length_filter_le _ _) (arr_len (bits_len _))
