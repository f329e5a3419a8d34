/-! ===== how far apart: sets of gaps ===== -/
/-- books between the two: c of them are passed -/
def gp2 (two : Nat) : Nat → List Nat → Nat
  | _, [] => 0
  | c, b :: r => (if c = 1 ∧ two.testBit b = false then 1 else 0) + gp2 two (c + (two.testBit b).toNat) r
def MG (st two : Nat) (T W : Nat → Nat → Bool) : Nat → Nat → Nat → Nat
  | 0, u, l => if W u l then 1 else 0
  | k + 1, u, l => (bits (andn st u)).foldl (fun acc b => acc ||| (if T l b then (if pc (u &&& two) = 1 ∧ two.testBit b = false then 2 * MG st two T W k (u ||| 2 ^ b) b else MG st two T W k (u ||| 2 ^ b) b) else 0)) 0
theorem fold_or_bit (f : Nat → Nat) (g : Nat) : ∀ (l : List Nat) (a : Nat), (l.foldl (fun acc b => acc ||| f b) a).testBit g = (a.testBit g || l.any (fun b => (f b).testBit g))
  | [], a => by simp
  | b :: l, a => by rw [List.foldl_cons, fold_or_bit f g l, Nat.testBit_or, List.any_cons, Bool.or_assoc]
theorem fold_or_lt (f : Nat → Nat) (k : Nat) : ∀ (l : List Nat) (a : Nat), a < 2 ^ k → (∀ b ∈ l, f b < 2 ^ k) → l.foldl (fun acc b => acc ||| f b) a < 2 ^ k
  | [], a, h, _ => h
  | b :: l, a, h, hf => fold_or_lt f k l _ (Nat.or_lt_two_pow h (hf b (by simp))) (fun c hc => hf c (by simp [hc]))
theorem fold_or_nI (f : Nat → Nat) : ∀ (l : List Nat) (a : Nat), l.foldl (fun acc b => w3B acc (nI (f b))) (nI a) = nI (l.foldl (fun acc b => acc ||| f b) a)
  | [], a => rfl
  | b :: l, a => by rw [List.foldl_cons, List.foldl_cons, ← fold_or_nI f l]; congr 1; exact wI_or a (f b)
theorem MG_lt (st two : Nat) (T W : Nat → Nat → Bool) : ∀ k u l, MG st two T W k u l < 2 ^ (k + 1)
  | 0, u, l => by unfold MG; split <;> decide
  | k + 1, u, l => by
    unfold MG
    apply fold_or_lt _ _ _ _ (Nat.two_pow_pos _)
    intro b _
    have := MG_lt st two T W k (u ||| 2 ^ b) b
    have h2 : 2 ^ (k + 1 + 1) = 2 * 2 ^ (k + 1) := by rw [Nat.pow_succ, Nat.mul_comm]
    have h3 := Nat.two_pow_pos (k + 1)
    split
    · split <;> omega
    · omega
theorem shl1 {a : Nat} (h : a < 256) : nI a <<< ((1 : Int32) &&& 31) = nI (2 * a) := by
  have : ∀ a : Fin 256, nI a.val <<< ((1 : Int32) &&& 31) = nI (2 * a.val) := by decide +kernel
  exact this ⟨a, h⟩
theorem FF_MG (st two : Nat) (T W : Nat → Nat → Bool) : ∀ k u l, k ≤ 7 → FF st 0 (fun u l b v => if T l b then (if pc (u &&& two) = 1 ∧ two.testBit b = false then v <<< ((1 : Int32) &&& 31) else v) else 0) w3B (fun u l => if W u l then 1 else 0) k u l = nI (MG st two T W k u l)
  | 0, u, l, _ => by
    unfold FF MG
    cases W u l <;> rfl
  | k + 1, u, l, hk => by
    have e := fold_or_nI (fun b => if T l b then (if pc (u &&& two) = 1 ∧ two.testBit b = false then 2 * MG st two T W k (u ||| 2 ^ b) b else MG st two T W k (u ||| 2 ^ b) b) else 0) (bits (andn st u)) 0
    unfold FF MG
    refine Eq.trans ?_ e
    show List.foldl _ (0 : Int32) _ = List.foldl _ (0 : Int32) _
    congr 1
    funext acc b
    rw [FF_MG st two T W k (u ||| 2 ^ b) b (by omega)]
    congr 1
    have hlt := MG_lt st two T W k (u ||| 2 ^ b) b
    have h8 : 2 ^ (k + 1) ≤ 2 ^ 8 := Nat.pow_le_pow_right (by decide) (by omega)
    cases T l b
    · rfl
    · rw [if_pos rfl, if_pos rfl, shl1 (by omega)]
      split <;> rfl
theorem pc_and_or {u two b : Nat} (hu : u < 256) (hb : b < 8) (h : u.testBit b = false) : pc ((u ||| 2 ^ b) &&& two) = pc (u &&& two) + (two.testBit b).toNat := by
  have hlt : u &&& two < 256 := Nat.lt_of_le_of_lt Nat.and_le_left hu
  cases c : two.testBit b with
  | true =>
    have e : (u ||| 2 ^ b) &&& two = (u &&& two) ||| 2 ^ b := by
      apply Nat.eq_of_testBit_eq
      intro i
      simp only [Nat.testBit_and, Nat.testBit_or, Nat.testBit_two_pow]
      by_cases e : b = i
      · subst e; simp [c]
      · simp [e]
    rw [e, (pc_or hlt hb (by rw [Nat.testBit_and, h]; rfl)).1]; rfl
  | false =>
    have e : (u ||| 2 ^ b) &&& two = u &&& two := by
      apply Nat.eq_of_testBit_eq
      intro i
      simp only [Nat.testBit_and, Nat.testBit_or, Nat.testBit_two_pow]
      by_cases e : b = i
      · subst e; simp [c]
      · simp [e]
    rw [e]; rfl
theorem MG_bit (st two : Nat) (T W : Nat → Nat → Bool) : ∀ k u l g, u < 256 → ((MG st two T W k u l).testBit g = true ↔ ∃ r ∈ QQ st T W k u l, gp2 two (pc (u &&& two)) r = g)
  | 0, u, l, g, hu => by
    unfold MG QQ
    cases W u l
    · simp
    · simp only [if_true, List.mem_singleton, exists_eq_left, gp2]
      rw [← Nat.pow_zero 2, Nat.testBit_two_pow, decide_eq_true_eq]
  | k + 1, u, l, g, hu => by
    unfold MG QQ
    rw [fold_or_bit, Nat.zero_testBit, Bool.false_or, List.any_eq_true]
    simp only [List.mem_flatMap]
    constructor
    · rintro ⟨b, hb, hg⟩
      have hb8 := bits_mem.mp hb
      have hub : u.testBit b = false := by
        have := hb8.2
        rw [andn_bit] at this
        cases h : u.testBit b
        · rfl
        · rw [h] at this; simp at this
      have hor := pc_or hu hb8.1 hub
      cases hT : T l b with
      | false => rw [hT] at hg; simp at hg
      | true =>
        rw [hT, if_pos rfl] at hg
        by_cases c : pc (u &&& two) = 1 ∧ two.testBit b = false
        · rw [if_pos c] at hg
          cases g with
          | zero => rw [Nat.testBit_zero] at hg; simp at hg
          | succ g =>
            rw [Nat.testBit_succ, Nat.mul_div_cancel_left _ (by decide)] at hg
            obtain ⟨r, hr, e⟩ := (MG_bit st two T W k (u ||| 2 ^ b) b g hor.2.2).mp hg
            refine ⟨b :: r, ⟨b, hb, by rw [hT, if_pos rfl]; exact List.mem_map.mpr ⟨r, hr, rfl⟩⟩, ?_⟩
            rw [gp2, if_pos c, ← pc_and_or hu hb8.1 hub, e]; omega
        · rw [if_neg c] at hg
          obtain ⟨r, hr, e⟩ := (MG_bit st two T W k (u ||| 2 ^ b) b g hor.2.2).mp hg
          refine ⟨b :: r, ⟨b, hb, by rw [hT, if_pos rfl]; exact List.mem_map.mpr ⟨r, hr, rfl⟩⟩, ?_⟩
          rw [gp2, if_neg c, ← pc_and_or hu hb8.1 hub, e]; omega
    · rintro ⟨r, ⟨b, hb, hr⟩, e⟩
      have hb8 := bits_mem.mp hb
      have hub : u.testBit b = false := by
        have := hb8.2
        rw [andn_bit] at this
        cases h : u.testBit b
        · rfl
        · rw [h] at this; simp at this
      have hor := pc_or hu hb8.1 hub
      refine ⟨b, hb, ?_⟩
      cases hT : T l b with
      | false => rw [hT] at hr; simp at hr
      | true =>
        rw [hT, if_pos rfl] at hr
        obtain ⟨q, hq, rfl⟩ := List.mem_map.mp hr
        rw [if_pos rfl]
        rw [gp2, ← pc_and_or hu hb8.1 hub] at e
        by_cases c : pc (u &&& two) = 1 ∧ two.testBit b = false
        · rw [if_pos c] at e ⊢
          rw [← e, Nat.add_comm, Nat.testBit_succ, Nat.mul_div_cancel_left _ (by decide)]
          exact (MG_bit st two T W k (u ||| 2 ^ b) b _ hor.2.2).mpr ⟨q, hq, rfl⟩
        · rw [if_neg c] at e ⊢
          exact (MG_bit st two T W k (u ||| 2 ^ b) b _ hor.2.2).mpr ⟨q, hq, by omega⟩
/-- all gaps that there are -/
def GA (st two : Nat) (T : Nat → Nat → Bool) (W : Nat → Nat → Nat → Bool) (k : Nat) : Nat := (bits st).foldl (fun acc b => acc ||| MG st two T (W b) k (2 ^ b) b) 0
theorem GA_bit (st two : Nat) (T : Nat → Nat → Bool) (W : Nat → Nat → Nat → Bool) (k g : Nat) : (GA st two T W k).testBit g = true ↔ ∃ r ∈ AQ st 255 T W k, gp2 two 0 r = g := by
  unfold GA AQ
  rw [fold_or_bit, Nat.zero_testBit, Bool.false_or, List.any_eq_true]
  have e255 : bits (st &&& 255) = bits st := by
    unfold bits
    apply List.filter_congr
    intro c hc
    have : ∀ c : Fin 8, (255 : Nat).testBit c.val = true := by decide
    rw [Nat.testBit_and, this ⟨c, List.mem_range.mp hc⟩, Bool.and_true]
  rw [e255]
  simp only [List.mem_flatMap, List.mem_map]
  have h1 : ∀ b, b < 8 → pc (2 ^ b &&& two) = 0 + (two.testBit b).toNat := fun b hb => by
    have := pc_and_or (u := 0) (two := two) (by decide) hb (by simp)
    simpa [show pc 0 = 0 by decide] using this
  constructor
  · rintro ⟨b, hb, hg⟩
    have hb8 := (bits_mem.mp hb).1
    have h2 : 2 ^ b < 2 ^ 8 := Nat.pow_lt_pow_right (by decide) hb8
    obtain ⟨r, hr, e⟩ := (MG_bit st two T (W b) k (2 ^ b) b g h2).mp hg
    refine ⟨b :: r, ⟨b, hb, r, hr, rfl⟩, ?_⟩
    rw [gp2, ← h1 b hb8, e, if_neg (by omega)]; omega
  · rintro ⟨_, ⟨b, hb, r, hr, rfl⟩, e⟩
    have hb8 := (bits_mem.mp hb).1
    have h2 : 2 ^ b < 2 ^ 8 := Nat.pow_lt_pow_right (by decide) hb8
    rw [gp2, ← h1 b hb8, if_neg (by omega)] at e
    exact ⟨b, hb, (MG_bit st two T (W b) k (2 ^ b) b g h2).mpr ⟨r, hr, by omega⟩⟩
theorem GA_lt (st two : Nat) (T : Nat → Nat → Bool) (W : Nat → Nat → Nat → Bool) {k : Nat} (hk : k ≤ 7) : GA st two T W k < 256 := by
  have h8 : 2 ^ (k + 1) ≤ 2 ^ 8 := Nat.pow_le_pow_right (by decide) (by omega)
  have := fold_or_lt (fun b => MG st two T (W b) k (2 ^ b) b) (k + 1) (bits st) 0 (Nat.two_pow_pos _) (fun b _ => MG_lt st two T (W b) k (2 ^ b) b)
  unfold GA; omega
/-- none of the two: only its length counts -/
theorem gp2_app (two : Nat) : ∀ (p : List Nat) (c : Nat) (r : List Nat), (∀ b ∈ p, two.testBit b = false) → gp2 two c (p ++ r) = (if c = 1 then p.length else 0) + gp2 two c r
  | [], c, r, _ => by simp
  | b :: p, c, r, h => by
    have hb := h b (by simp)
    rw [List.cons_append, gp2, hb, Bool.toNat_false, Nat.add_zero, gp2_app two p c r (fun d hd => h d (by simp [hd]))]
    by_cases c1 : c = 1
    · simp [c1]; omega
    · simp [c1]
theorem gp2_mid {two a b : Nat} {p q r : List Nat} (ha : two.testBit a = true) (hb : two.testBit b = true) (h : ∀ c, two.testBit c = true → c = a ∨ c = b) (hn : (p ++ a :: (q ++ b :: r)).Nodup) : gp2 two 0 (p ++ a :: (q ++ b :: r)) = q.length := by
  have hno : ∀ c, c ∈ p ∨ c ∈ q ∨ c ∈ r → two.testBit c = false := by
    intro c hc
    cases h2 : two.testBit c with
    | false => rfl
    | true =>
      exfalso
      simp only [List.nodup_append, List.nodup_cons, List.mem_append, List.mem_cons] at hn
      obtain ⟨n1, ⟨n2, n3, ⟨n4, n5⟩, n6⟩, n7⟩ := hn
      rcases h c h2 with e | e
      · subst e
        rcases hc with h3 | h3 | h3
        · exact n7 c h3 c (Or.inl rfl) rfl
        · exact n2 (Or.inl h3)
        · exact n2 (Or.inr (Or.inr h3))
      · subst e
        rcases hc with h3 | h3 | h3
        · exact n7 c h3 c (Or.inr (Or.inr (Or.inl rfl))) rfl
        · exact n6 c h3 c (Or.inl rfl) rfl
        · exact n4 h3
  rw [gp2_app two p 0 _ (fun c hc => hno c (Or.inl hc)), if_neg (by decide), gp2, ha, if_neg (by decide)]
  rw [gp2_app two q _ _ (fun c hc => hno c (Or.inr (Or.inl hc))), if_pos (by decide), gp2, hb, if_neg (by decide)]
  have := gp2_app two r (0 + true.toNat + true.toNat) [] (fun c hc => hno c (Or.inr (Or.inr hc)))
  rw [List.append_nil] at this
  rw [this, if_neg (by decide)]
  simp [gp2]
