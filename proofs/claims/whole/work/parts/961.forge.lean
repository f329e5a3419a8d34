/-! ===== the fewest footnotes to be forged ===== -/
def pst (L : AL) (p : Nat × Nat) (v : Nat) : Nat := if (lha L p.1).testBit p.2 = true then 99 else if tch L p.1 p.2 = true then v else if v = 99 then 99 else v + 1
theorem pst_le {L : AL} {p : Nat × Nat} {v : Nat} (h : v ≤ 99) : pst L p v ≤ 99 := by
  unfold pst
  by_cases a : (lha L p.1).testBit p.2 = true
  · rw [if_pos a]; exact Nat.le_refl _
  · rw [if_neg a]
    by_cases b : tch L p.1 p.2 = true
    · rw [if_pos b]; exact h
    · rw [if_neg b]
      by_cases c : v = 99
      · rw [if_pos c]; exact Nat.le_refl _
      · rw [if_neg c]; omega
theorem pst_mono {L : AL} {p : Nat × Nat} {v w : Nat} (h : v ≤ w) (hw : w ≤ 99) : pst L p v ≤ pst L p w := by
  unfold pst
  by_cases a : (lha L p.1).testBit p.2 = true
  · rw [if_pos a, if_pos a]; exact Nat.le_refl _
  · rw [if_neg a, if_neg a]
    by_cases b : tch L p.1 p.2 = true
    · rw [if_pos b, if_pos b]; exact h
    · rw [if_neg b, if_neg b]
      by_cases c : w = 99
      · rw [if_pos c]
        by_cases d : v = 99
        · rw [if_pos d]; exact Nat.le_refl _
        · rw [if_neg d]; omega
      · rw [if_neg c, if_neg (by omega)]; omega
theorem pst_inj {L : AL} {p : Nat × Nat} {v w m : Nat} (hm : m < 99) (h1 : pst L p v = m) (h2 : pst L p w = m) : v = w := by
  unfold pst at h1 h2
  by_cases a : (lha L p.1).testBit p.2 = true
  · rw [if_pos a] at h1; omega
  · rw [if_neg a] at h1 h2
    by_cases b : tch L p.1 p.2 = true
    · rw [if_pos b] at h1 h2; omega
    · rw [if_neg b] at h1 h2
      by_cases c : v = 99
      · rw [if_pos c] at h1; omega
      · by_cases d : w = 99
        · rw [if_pos d] at h2; omega
        · rw [if_neg c] at h1
          rw [if_neg d] at h2
          omega
theorem pst_comm (L : AL) (p q : Nat × Nat) (v : Nat) : pst L p (pst L q v) = pst L q (pst L p v) := by
  unfold pst
  by_cases a : (lha L p.1).testBit p.2 = true <;> by_cases b : (lha L q.1).testBit q.2 = true <;> by_cases c : tch L p.1 p.2 = true <;> by_cases d : tch L q.1 q.2 = true <;> simp [a, b, c, d]
theorem pst_fr (L : AL) (p : Nat × Nat) : ∀ (l : List (Nat × Nat)) (v : Nat), l.foldr (pst L) (pst L p v) = pst L p (l.foldr (pst L) v)
  | [], v => rfl
  | q :: l, v => by rw [List.foldr_cons, List.foldr_cons, pst_fr L p l v, pst_comm]
theorem pst_lr (L : AL) : ∀ (l : List (Nat × Nat)) (v : Nat), l.foldl (fun a p => pst L p a) v = l.foldr (pst L) v
  | [], v => rfl
  | q :: l, v => by rw [List.foldl_cons, List.foldr_cons, pst_lr L l, pst_fr]
theorem pst_fl (L : AL) : ∀ (l : List (Nat × Nat)) (v : Nat), v ≤ 99 → l.foldl (fun a p => pst L p a) v ≤ 99
  | [], v, h => h
  | q :: l, v, h => pst_fl L l _ (pst_le h)
/-- all that stand side by side, from l on; the last one and the first -/
def prs (cl : Bool) (fs : Nat) : Nat → List Nat → List (Nat × Nat)
  | l, [] => if cl then [(l, fs)] else []
  | l, b :: r => (l, b) :: prs cl fs b r
def cst (L : AL) (cl : Bool) (fs l : Nat) (r : List Nat) : Nat := (prs cl fs l r).foldr (pst L) 0
theorem cst_cons (L : AL) (cl : Bool) (fs l b : Nat) (r : List Nat) : cst L cl fs l (b :: r) = pst L (l, b) (cst L cl fs b r) := rfl
theorem cst_le (L : AL) (cl : Bool) (fs : Nat) : ∀ (r : List Nat) (l : Nat), cst L cl fs l r ≤ 99
  | [], l => by
    unfold cst prs
    cases cl
    · simp
    · exact pst_le (v := 0) (by omega)
  | b :: r, l => by rw [cst_cons]; exact pst_le (cst_le L cl fs r b)
def mnF (f : Nat → Nat) (l : List Nat) (a : Nat) : Nat := l.foldl (fun acc b => if f b < acc then f b else acc) a
theorem mnF_ok (f : Nat → Nat) : ∀ (l : List Nat) (a : Nat), mnF f l a ≤ a ∧ (∀ b ∈ l, mnF f l a ≤ f b) ∧ (mnF f l a = a ∨ ∃ b ∈ l, mnF f l a = f b)
  | [], a => ⟨Nat.le_refl _, fun b hb => by simp at hb, Or.inl rfl⟩
  | c :: l, a => by
    have e : mnF f (c :: l) a = mnF f l (if f c < a then f c else a) := rfl
    obtain ⟨h1, h2, h3⟩ := mnF_ok f l (if f c < a then f c else a)
    rw [e]
    by_cases d : f c < a
    · rw [if_pos d] at h1 h2 h3 ⊢
      refine ⟨by omega, fun b hb => ?_, ?_⟩
      · rcases List.mem_cons.mp hb with e | e
        · rw [e]; exact h1
        · exact h2 b e
      · right
        rcases h3 with h3 | ⟨b, hb, h3⟩
        · exact ⟨c, by simp, h3⟩
        · exact ⟨b, by simp [hb], h3⟩
    · rw [if_neg d] at h1 h2 h3 ⊢
      refine ⟨h1, fun b hb => ?_, ?_⟩
      · rcases List.mem_cons.mp hb with e | e
        · rw [e]; omega
        · exact h2 b e
      · rcases h3 with h3 | ⟨b, hb, h3⟩
        · exact Or.inl h3
        · exact Or.inr ⟨b, by simp [hb], h3⟩
def FM (L : AL) (cl : Bool) (fs st : Nat) : Nat → Nat → Nat → Nat
  | 0, _, l => cst L cl fs l []
  | k + 1, u, l => mnF (fun b => pst L (l, b) (FM L cl fs st k (u ||| 2 ^ b) b)) (bits (andn st u)) 99
theorem FM_le (L : AL) (cl : Bool) (fs st : Nat) : ∀ k u l, FM L cl fs st k u l ≤ 99
  | 0, _, l => cst_le L cl fs [] l
  | k + 1, u, l => (mnF_ok _ _ _).1
theorem arr_cons {st u k : Nat} {r : List Nat} : r ∈ arrL (k + 1) (bits (andn st u)) ↔ ∃ b ∈ bits (andn st u), ∃ q ∈ arrL k (bits (andn st (u ||| 2 ^ b))), b :: q = r := by
  simp only [arrL, List.mem_flatMap, List.mem_map, ← bits_rm, ← andn_or]
theorem FM_spec (L : AL) (cl : Bool) (fs st : Nat) : ∀ k u l, (∀ r ∈ arrL k (bits (andn st u)), FM L cl fs st k u l ≤ cst L cl fs l r) ∧ (FM L cl fs st k u l < 99 → ∃ r ∈ arrL k (bits (andn st u)), cst L cl fs l r = FM L cl fs st k u l)
  | 0, u, l => by
    constructor
    · intro r hr
      have : r = [] := by simpa [arrL] using hr
      rw [this]; exact Nat.le_refl _
    · intro _
      exact ⟨[], by simp [arrL], rfl⟩
  | k + 1, u, l => by
    obtain ⟨h1, h2, h3⟩ := mnF_ok (fun b => pst L (l, b) (FM L cl fs st k (u ||| 2 ^ b) b)) (bits (andn st u)) 99
    constructor
    · intro r hr
      obtain ⟨b, hb, q, hq, rfl⟩ := arr_cons.mp hr
      rw [cst_cons]
      exact Nat.le_trans (h2 b hb) (pst_mono ((FM_spec L cl fs st k (u ||| 2 ^ b) b).1 q hq) (cst_le L cl fs q b))
    · intro hlt
      have hlt' : mnF (fun b => pst L (l, b) (FM L cl fs st k (u ||| 2 ^ b) b)) (bits (andn st u)) 99 < 99 := hlt
      rcases h3 with h3 | ⟨b, hb, h3⟩
      · omega
      · have hf : FM L cl fs st k (u ||| 2 ^ b) b < 99 := by
          apply Classical.byContradiction
          intro hge
          have h9 : FM L cl fs st k (u ||| 2 ^ b) b = 99 := by have := FM_le L cl fs st k (u ||| 2 ^ b) b; omega
          have : pst L (l, b) 99 = 99 := by
            unfold pst
            by_cases a : (lha L l).testBit b = true
            · rw [if_pos a]
            · rw [if_neg a]
              by_cases c : tch L l b = true
              · rw [if_pos c]
              · rw [if_neg c, if_pos rfl]
          rw [h9, this] at h3
          omega
        obtain ⟨q, hq, e⟩ := (FM_spec L cl fs st k (u ||| 2 ^ b) b).2 hf
        refine ⟨b :: q, arr_cons.mpr ⟨b, hb, q, hq, rfl⟩, ?_⟩
        rw [cst_cons, e]
        exact h3.symm
theorem find_flat {S : List Nat} (hS : S.Pairwise (fun i j => i < j)) {G : Nat → List (List Nat)} {p : List Nat → Bool} {b : Nat} {r : List Nat} (hb : b ∈ S) (h1 : ∀ c ∈ S, c < b → ∀ q ∈ G c, p q = false) (h2 : (G b).find? p = some r) : (S.flatMap G).find? p = some r := by
  obtain ⟨S1, S2, rfl⟩ := List.append_of_mem hb
  rw [List.flatMap_append, List.flatMap_cons, List.find?_append, List.find?_append, h2]
  have : (S1.flatMap G).find? p = none := by
    rw [List.find?_eq_none]
    intro q hq
    obtain ⟨c, hc, hq⟩ := List.mem_flatMap.mp hq
    rw [h1 c (by simp [hc]) ((List.pairwise_append.mp hS).2.2 c hc b (by simp)) q hq]
    decide
  rw [this]; rfl
theorem fst_step {L : AL} {cl : Bool} {fs st k u l m b : Nat} {r : List Nat} (hm : m < 99) (hb : b ∈ bits (andn st u)) (hmin : FM L cl fs st (k + 1) u l = m) (hbm : pst L (l, b) (FM L cl fs st k (u ||| 2 ^ b) b) = m) (hfirst : ∀ c ∈ bits (andn st u), c < b → pst L (l, c) (FM L cl fs st k (u ||| 2 ^ c) c) ≠ m) (hr : (arrL k (bits (andn st (u ||| 2 ^ b)))).find? (fun r => decide (cst L cl fs b r = FM L cl fs st k (u ||| 2 ^ b) b)) = some r) : (arrL (k + 1) (bits (andn st u))).find? (fun r => decide (cst L cl fs l r = m)) = some (b :: r) := by
  have hmn := mnF_ok (fun b => pst L (l, b) (FM L cl fs st k (u ||| 2 ^ b) b)) (bits (andn st u)) 99
  have hmin' : mnF (fun b => pst L (l, b) (FM L cl fs st k (u ||| 2 ^ b) b)) (bits (andn st u)) 99 = m := hmin
  rw [hmin'] at hmn
  unfold arrL
  refine find_flat (bits_asc _) hb ?_ ?_
  · intro c hc hcb q hq
    obtain ⟨q', hq', rfl⟩ := List.mem_map.mp hq
    rw [← bits_rm, ← andn_or] at hq'
    apply decide_eq_false
    rw [cst_cons]
    have h1 := hmn.2.1 c hc
    have h2 := hfirst c hc hcb
    have h3 := pst_mono (L := L) (p := (l, c)) ((FM_spec L cl fs st k (u ||| 2 ^ c) c).1 q' hq') (cst_le L cl fs q' c)
    omega
  · rw [← bits_rm, ← andn_or, List.find?_map]
    have e : ((fun r => decide (cst L cl fs l r = m)) ∘ fun r => b :: r) = fun r => decide (cst L cl fs b r = FM L cl fs st k (u ||| 2 ^ b) b) := by
      funext q
      apply decide_eq_decide.mpr
      rw [cst_cons]
      constructor
      · intro h; exact pst_inj hm h hbm
      · intro h; rw [h]; exact hbm
    rw [e, hr]; rfl
def stpI (L : AL) (l b : Nat) (v : Int32) : Int32 := if v = 99 then 99 else if (lha L l).testBit b = true then 99 else if tch L l b = true then v else v + 1
theorem stpI_n {L : AL} {l b v : Nat} (h : v ≤ 99) : stpI L l b (nI v) = nI (pst L (l, b) v) := by
  unfold stpI pst
  have e : (nI v = (99 : Int32)) = (v = 99) := wIeq (b := 99) (by omega) (by decide)
  simp only [e]
  by_cases a : (lha L l).testBit b = true
  · rw [if_pos a, if_pos a]
    by_cases c : v = 99
    · rw [if_pos c]; rfl
    · rw [if_neg c]; rfl
  · rw [if_neg a, if_neg a]
    by_cases d : tch L l b = true
    · rw [if_pos d, if_pos d]
      by_cases c : v = 99
      · rw [if_pos c, c]; rfl
      · rw [if_neg c]
    · rw [if_neg d, if_neg d]
      by_cases c : v = 99
      · rw [if_pos c, if_pos c]; rfl
      · rw [if_neg c, if_neg c, nI_1]
theorem fold_mn (f : Nat → Nat) (hf : ∀ b, f b ≤ 99) : ∀ (l : List Nat) (a : Nat), a ≤ 99 → l.foldl (fun acc b => w2B acc (nI (f b))) (nI a) = nI (mnF f l a)
  | [], a, _ => rfl
  | c :: l, a, h => by
    have hc := hf c
    have e : mnF f (c :: l) a = mnF f l (if f c < a then f c else a) := rfl
    have e2 : w2B (nI a) (nI (f c)) = nI (if f c < a then f c else a) := by
      unfold w2B
      simp only [wIlt (show f c < 2 ^ 31 by omega) (show a < 2 ^ 31 by omega)]
      by_cases d : f c < a
      · rw [if_pos d, if_pos d]
      · rw [if_neg d, if_neg d]
    rw [List.foldl_cons, e2, e]
    exact fold_mn f hf l _ (by split <;> omega)
theorem FF_FM (L : AL) (cl : Bool) (fs st : Nat) : ∀ k u l, FF st 99 (fun _ l b v => stpI L l b v) w2B (fun _ l => nI (cst L cl fs l [])) k u l = nI (FM L cl fs st k u l)
  | 0, u, l => rfl
  | k + 1, u, l => by
    have e := fold_mn (fun b => pst L (l, b) (FM L cl fs st k (u ||| 2 ^ b) b)) (fun b => pst_le (FM_le L cl fs st k (u ||| 2 ^ b) b)) (bits (andn st u)) 99 (Nat.le_refl _)
    unfold FF FM
    refine Eq.trans ?_ e
    show List.foldl _ (99 : Int32) _ = List.foldl _ (99 : Int32) _
    congr 1
    funext acc b
    rw [FF_FM L cl fs st k, stpI_n (FM_le L cl fs st k (u ||| 2 ^ b) b)]
