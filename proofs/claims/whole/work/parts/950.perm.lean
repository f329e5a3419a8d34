/-! ===== arrangements, in the order of the dictionary ===== -/
def bits (s : Nat) : List Nat := (List.range 8).filter s.testBit
def arrL : Nat → List Nat → List (List Nat)
  | 0, _ => [[]]
  | k + 1, s => s.flatMap (fun b => (arrL k (s.filter (fun c => c != b))).map (fun r => b :: r))
/-- the next row -/
def Nx (r r1 : List Nat) : Prop := ∃ (p : List Nat) (a : Nat) (t1 : List Nat) (c : Nat) (t2 : List Nat), r = p ++ a :: (t1 ++ c :: t2) ∧ (t1 ++ c :: t2).Pairwise (fun i j => j < i) ∧ a < c ∧ (∀ z ∈ t2, z < a) ∧ r1 = p ++ c :: (t1 ++ a :: t2).reverse
theorem Nx_cons {r r1 : List Nat} (b : Nat) (h : Nx r r1) : Nx (b :: r) (b :: r1) := by
  obtain ⟨p, a, t1, c, t2, h1, h2, h3, h4, h5⟩ := h
  exact ⟨b :: p, a, t1, c, t2, by rw [h1]; rfl, h2, h3, h4, by rw [h5]; rfl⟩
/-- each one is followed by its next -/
def sq : List (List Nat) → Prop
  | [] => True
  | [_] => True
  | r :: r1 :: L => Nx r r1 ∧ sq (r1 :: L)
theorem sq_map (b : Nat) : ∀ {L : List (List Nat)}, sq L → sq (L.map (fun r => b :: r))
  | [], _ => trivial
  | [_], _ => trivial
  | r :: r1 :: L, h => ⟨Nx_cons b h.1, sq_map b (L := r1 :: L) h.2⟩
theorem sq_app : ∀ {A B : List (List Nat)}, sq A → sq B → (∀ a b, A.getLast? = some a → B.head? = some b → Nx a b) → sq (A ++ B)
  | [], B, _, hB, _ => hB
  | [r], [], _, _, _ => trivial
  | [r], b :: B, _, hB, h => ⟨h r b rfl rfl, hB⟩
  | r :: r1 :: L, B, hA, hB, h => ⟨hA.1, sq_app (A := r1 :: L) hA.2 hB (fun a b ha hb => h a b (by rw [List.getLast?_cons_cons]; exact ha) hb)⟩
theorem sq_at : ∀ {L : List (List Nat)}, sq L → ∀ i (h : i + 1 < L.length), Nx (L[i]'(Nat.lt_of_succ_lt h)) L[i + 1]
  | [], _, i, h => absurd h (by simp)
  | [_], _, i, h => absurd h (by simp)
  | r :: r1 :: L, hs, 0, h => hs.1
  | r :: r1 :: L, hs, i + 1, h => sq_at (L := r1 :: L) hs.2 i (by simpa using h)
theorem filter_ne1 {S1 S2 : List Nat} {b : Nat} (h : (S1 ++ b :: S2).Pairwise (fun i j => i < j)) : (S1 ++ b :: S2).filter (fun c => c != b) = S1 ++ S2 := by
  rw [List.filter_append, List.filter_cons]
  rw [List.pairwise_append] at h
  have e1 : S1.filter (fun c => c != b) = S1 := List.filter_eq_self.mpr (fun c hc => by
    have := h.2.2 c hc b (by simp)
    simp; omega)
  have e2 : S2.filter (fun c => c != b) = S2 := List.filter_eq_self.mpr (fun c hc => by
    have := (List.pairwise_cons.mp h.2.1).1 c hc
    simp; omega)
  rw [e1, e2]
  simp
theorem flat_head {α β : Type} {b : α} {S : List α} {g : α → List β} {v : β} (h : (g b).head? = some v) : ((b :: S).flatMap g).head? = some v := by
  rw [List.flatMap_cons, List.head?_append, h]; rfl
/-- all rows of an ascending list: from itself, each the next of the one before, to its reverse -/
theorem arr_sq : ∀ (k : Nat) (S : List Nat), S.length = k → S.Pairwise (fun i j => i < j) → sq (arrL k S) ∧ (arrL k S).head? = some S ∧ (arrL k S).getLast? = some S.reverse := by
  intro k
  induction k with
  | zero =>
    intro S hl _
    have : S = [] := List.eq_nil_of_length_eq_zero hl
    subst this
    exact ⟨trivial, rfl, rfl⟩
  | succ k ih =>
    intro S hl hS
    have key : ∀ (S2 S1 : List Nat), S = S1 ++ S2 → S2 ≠ [] → sq (S2.flatMap (fun b => (arrL k (S.filter (fun c => c != b))).map (fun r => b :: r))) ∧ (∀ b T, S2 = b :: T → (S2.flatMap (fun b => (arrL k (S.filter (fun c => c != b))).map (fun r => b :: r))).head? = some (b :: (S1 ++ T))) ∧ (S2.flatMap (fun b => (arrL k (S.filter (fun c => c != b))).map (fun r => b :: r))).getLast? = some S.reverse := by
      intro S2
      induction S2 with
      | nil => intro S1 _ h; exact absurd rfl h
      | cons b T ih2 =>
        intro S1 e _
        have hf : S.filter (fun c => c != b) = S1 ++ T := by rw [e]; exact filter_ne1 (by rw [← e]; exact hS)
        have hp : (S1 ++ T).Pairwise (fun i j => i < j) := by rw [← hf]; exact hS.filter _
        have hlen : (S1 ++ T).length = k := by
          rw [e, List.length_append, List.length_cons] at hl
          rw [List.length_append]; omega
        obtain ⟨i1, i2, i3⟩ := ih (S1 ++ T) hlen hp
        have hh : ((arrL k (S.filter (fun c => c != b))).map (fun r => b :: r)).head? = some (b :: (S1 ++ T)) := by rw [hf, List.head?_map, i2]; rfl
        have hg : ((arrL k (S.filter (fun c => c != b))).map (fun r => b :: r)).getLast? = some (b :: (S1 ++ T).reverse) := by rw [hf, List.getLast?_map, i3]; rfl
        have hs : sq ((arrL k (S.filter (fun c => c != b))).map (fun r => b :: r)) := by rw [hf]; exact sq_map b i1
        cases T with
        | nil =>
          rw [List.flatMap_cons, List.flatMap_nil, List.append_nil]
          refine ⟨hs, ?_, ?_⟩
          · rintro b' T' h
            cases h
            exact hh
          · rw [hg, e]; simp
        | cons c T =>
          obtain ⟨j1, j2, j3⟩ := ih2 (S1 ++ [b]) (by rw [e]; simp) (by simp)
          rw [List.flatMap_cons]
          refine ⟨sq_app hs j1 ?_, ?_, ?_⟩
          · intro u v hu hv
            rw [hg] at hu
            rw [j2 c T rfl] at hv
            cases hu; cases hv
            have hpw : (S1 ++ b :: c :: T).Pairwise (fun i j => i < j) := by rw [← e]; exact hS
            rw [List.pairwise_append] at hpw
            have hbc : b < c := (List.pairwise_cons.mp hpw.2.1).1 c (by simp)
            refine ⟨[], b, T.reverse, c, S1.reverse, by simp, ?_, hbc, fun z hz => hpw.2.2 z (List.mem_reverse.mp hz) b (by simp), by simp⟩
            have : T.reverse ++ c :: S1.reverse = (S1 ++ c :: T).reverse := by simp
            rw [this, List.pairwise_reverse]
            exact hp
          · rintro b' T' h
            cases h
            rw [List.head?_append, hh]; rfl
          · rw [List.getLast?_append, j3]; rfl
    have hne : S ≠ [] := by intro h; rw [h] at hl; simp at hl
    obtain ⟨k1, k2, k3⟩ := key S [] rfl hne
    refine ⟨k1, ?_, k3⟩
    cases S with
    | nil => exact absurd rfl hne
    | cons b T => exact k2 b T rfl
theorem bits_asc (s : Nat) : (bits s).Pairwise (fun i j => i < j) := List.pairwise_lt_range.filter _
theorem bits_mem {s b : Nat} : b ∈ bits s ↔ b < 8 ∧ s.testBit b = true := by
  unfold bits; rw [List.mem_filter, List.mem_range]
/-- all rows of a set -/
def PL (s : Nat) : List (List Nat) := arrL (bits s).length (bits s)
theorem PL_head (s : Nat) : (PL s).head? = some (bits s) := (arr_sq _ _ rfl (bits_asc s)).2.1
theorem PL_last (s : Nat) : (PL s).getLast? = some (bits s).reverse := (arr_sq _ _ rfl (bits_asc s)).2.2
theorem PL_sq (s : Nat) : sq (PL s) := (arr_sq _ _ rfl (bits_asc s)).1
theorem PL_pos (s : Nat) : 0 < (PL s).length := by
  cases h : PL s with
  | nil => have := PL_head s; rw [h] at this; simp at this
  | cons a b => simp
theorem PL_0 (s : Nat) : (PL s)[0]'(PL_pos s) = bits s := by
  have := PL_head s
  rw [List.head?_eq_getElem?, List.getElem?_eq_getElem (PL_pos s)] at this
  exact Option.some.inj this
theorem PL_end (s : Nat) {i : Nat} (h : i < (PL s).length) (he : i + 1 = (PL s).length) : (PL s)[i] = (bits s).reverse := by
  have := PL_last s
  rw [List.getLast?_eq_getElem?, List.getElem?_eq_getElem (by omega)] at this
  have e := Option.some.inj this
  rw [← e]
  congr 1
  omega
/-- what is in an arrangement -/
theorem arr_mem : ∀ {k : Nat} {S r : List Nat}, r ∈ arrL k S ↔ r.length = k ∧ r.Nodup ∧ ∀ b ∈ r, b ∈ S
  | 0, S, r => by
    simp only [arrL, List.mem_singleton]
    constructor
    · rintro rfl; simp
    · intro h; exact List.eq_nil_of_length_eq_zero h.1
  | k + 1, S, r => by
    simp only [arrL, List.mem_flatMap, List.mem_map]
    constructor
    · rintro ⟨b, hb, q, hq, rfl⟩
      obtain ⟨h1, h2, h3⟩ := arr_mem.mp hq
      refine ⟨by simp [h1], List.nodup_cons.mpr ⟨fun hbq => ?_, h2⟩, fun c hc => ?_⟩
      · have := List.mem_filter.mp (h3 b hbq)
        simp at this
      · rcases List.mem_cons.mp hc with e | e
        · rw [e]; exact hb
        · exact (List.mem_filter.mp (h3 c e)).1
    · rintro ⟨h1, h2, h3⟩
      cases r with
      | nil => simp at h1
      | cons b q =>
        have hn := List.nodup_cons.mp h2
        refine ⟨b, h3 b (by simp), q, arr_mem.mpr ⟨by simpa using h1, hn.2, fun c hc => List.mem_filter.mpr ⟨h3 c (by simp [hc]), ?_⟩⟩, rfl⟩
        have : c ≠ b := fun e => hn.1 (by rw [← e]; exact hc)
        simpa using this
theorem flat_len {α β : Type} {g : α → List β} {c : Nat} : ∀ {l : List α}, (∀ a ∈ l, (g a).length ≤ c) → (l.flatMap g).length ≤ l.length * c
  | [], _ => by simp
  | a :: l, h => by
    have h1 := flat_len (g := g) (c := c) (l := l) (fun b hb => h b (by simp [hb]))
    have h2 := h a (by simp)
    rw [List.flatMap_cons, List.length_append, List.length_cons, Nat.succ_mul]; omega
theorem arr_len : ∀ {k : Nat} {S : List Nat}, S.length ≤ 8 → (arrL k S).length ≤ 8 ^ k
  | 0, S, _ => by simp [arrL]
  | k + 1, S, h => by
    have := flat_len (g := fun b => (arrL k (S.filter (fun c => c != b))).map (fun r => b :: r)) (c := 8 ^ k) (l := S) (fun a _ => by
      rw [List.length_map]
      exact arr_len (Nat.le_trans (List.length_filter_le _ _) h))
    have h2 : S.length * 8 ^ k ≤ 8 * 8 ^ k := Nat.mul_le_mul_right _ h
    have h3 : 8 ^ (k + 1) = 8 * 8 ^ k := by rw [Nat.pow_succ, Nat.mul_comm]
    unfold arrL
    omega
theorem fact_len : ∀ {k : Nat} {S : List Nat}, S.length = k → S.Pairwise (fun i j => i < j) → (arrL k S).length = Nat.rec 1 (fun n v => (n + 1) * v) k
  | 0, S, _, _ => rfl
  | k + 1, S, h, hp => by
    have h1 : ∀ b ∈ S, ((arrL k (S.filter (fun c => c != b))).map (fun r => b :: r)).length = Nat.rec 1 (fun n v => (n + 1) * v) k := by
      intro b hb
      obtain ⟨S1, S2, e⟩ := List.append_of_mem hb
      rw [List.length_map]
      apply fact_len _ (hp.filter _)
      rw [e, filter_ne1 (by rw [← e]; exact hp)]
      rw [e, List.length_append, List.length_cons] at h
      rw [List.length_append]; omega
    have h2 : ∀ (l : List Nat) (c : Nat), (∀ b ∈ l, ((arrL k (S.filter (fun c => c != b))).map (fun r => b :: r)).length = c) → (l.flatMap (fun b => (arrL k (S.filter (fun c => c != b))).map (fun r => b :: r))).length = l.length * c := by
      intro l c
      induction l with
      | nil => intro _; simp
      | cons a l ih =>
        intro hh
        rw [List.flatMap_cons, List.length_append, hh a (by simp), ih (fun b hb => hh b (by simp [hb])), List.length_cons, Nat.succ_mul]; omega
    have h3 := h2 S _ h1
    unfold arrL
    rw [h3, h]
theorem bits_len (s : Nat) : (bits s).length ≤ 8 := by
  have := List.length_filter_le s.testBit (List.range 8)
  simpa [bits] using this
theorem PL_len (s : Nat) : (PL s).length ≤ 40320 := by
  unfold PL
  rw [fact_len rfl (bits_asc s)]
  have h := bits_len s
  have : ∀ k : Fin 9, (Nat.rec 1 (fun n v => (n + 1) * v) k.val : Nat) ≤ 40320 := by decide
  exact this ⟨(bits s).length, by omega⟩
