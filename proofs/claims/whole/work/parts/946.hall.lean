/-! ===== reading the tape; hall ===== -/
def skF (t : List Nat) : Nat → Nat → Nat
  | 0, p => p
  | k + 1, p => if p < t.length ∧ gt t p = 32 then skF t k (p + 1) else p
def skp (t : List Nat) (p : Nat) : Nat := skF t (t.length - p) p
theorem skF_ge (t : List Nat) : ∀ k p, p ≤ skF t k p
  | 0, p => Nat.le_refl _
  | k + 1, p => by
    unfold skF; split
    · exact Nat.le_trans (Nat.le_succ p) (skF_ge t k (p + 1))
    · exact Nat.le_refl _
theorem skp_ge (t : List Nat) (p : Nat) : p ≤ skp t p := skF_ge t _ p
theorem skF_le (t : List Nat) : ∀ k p, skF t k p ≤ max p t.length
  | 0, p => Nat.le_max_left _ _
  | k + 1, p => by
    unfold skF; split
    · rename_i h
      have := skF_le t k (p + 1)
      omega
    · exact Nat.le_max_left _ _
theorem skp_le {t : List Nat} {p : Nat} (h : p ≤ t.length) : skp t p ≤ t.length := by
  have := skF_le t (t.length - p) p
  unfold skp; omega
/-- behind the blanks there is none -/
theorem skF_end (t : List Nat) : ∀ k p, t.length ≤ p + k → ¬ (skF t k p < t.length ∧ gt t (skF t k p) = 32)
  | 0, p, h => by unfold skF; omega
  | k + 1, p, h => by
    unfold skF; split
    · exact skF_end t k (p + 1) (by omega)
    · assumption
theorem skp_end (t : List Nat) (p : Nat) : ¬ (skp t p < t.length ∧ gt t (skp t p) = 32) := skF_end t _ p (by omega)
theorem skp_fix {t : List Nat} {q : Nat} (h : ¬ (q < t.length ∧ gt t q = 32)) : skp t q = q := by
  unfold skp
  cases t.length - q with
  | zero => rfl
  | succ k => unfold skF; rw [if_neg h]
theorem skp_skp (t : List Nat) (p : Nat) : skp t (skp t p) = skp t p := skp_fix (skp_end t p)
/-- the class at a place of its tape -/
def CN (x : bq_S) (t : List Nat) (p : Nat) : Prop := CT x t ∧ x.1 22 3 = nI p
def frN (x x1 : bq_S) : Prop := (∀ c, c ≠ 22 → x1.1 c = x.1 c) ∧ (∀ k, k ≠ 3 → x1.1 22 k = x.1 22 k) ∧ x1.2 = x.2
theorem frN_rf (x : bq_S) : frN x x := ⟨fun _ _ => rfl, fun _ _ => rfl, rfl⟩
theorem frN_tr {x y z : bq_S} (h1 : frN x y) (h2 : frN y z) : frN x z := ⟨fun c hc => (h2.1 c hc).trans (h1.1 c hc), fun k hk => (h2.2.1 k hk).trans (h1.2.1 k hk), h2.2.2.trans h1.2.2⟩
theorem frN_to (x : bq_S) (p : Int32) : frN x (bq_sI x 22 3 p) := ⟨fun c hc => sI_n _ _ _ hc, fun k hk => by rw [sI_s, pk_un hk], rfl⟩
theorem CN_to {x : bq_S} {t : List Nat} (p : Nat) (h : CT x t) : CN (bq_sI x 22 3 (nI p)) t p := ⟨⟨by rw [sI_s, pk_un (by decide)]; exact h.1, fun i hi => by rw [sI_n _ _ _ (by decide)]; exact h.2 i hi⟩, by rw [sI_s, pk_us]⟩
theorem CT_fr {x x1 : bq_S} {t : List Nat} (h : frN x x1) (hc : CT x t) : CT x1 t := ⟨by rw [h.2.1 2 (by decide)]; exact hc.1, fun i hi => by rw [h.1 23 (by decide)]; exact hc.2 i hi⟩
def tpOK (t : List Nat) : Prop := t.length ≤ 60 ∧ ∀ c ∈ t, 32 ≤ c ∧ c ≤ 126
theorem s_look {x : bq_S} {t : List Nat} {p n : Nat} (ht : tpOK t) (hp : p ≤ t.length) (h : CN x t p) (hn : 70 ≤ n) : ∃ x1, fX7_look n x = some (if skp t p < t.length then nI (gt t (skp t p)) else -1, x1) ∧ CN x1 t (skp t p) ∧ frN x x1 := by
  have h60 := ht.1
  have key : ∀ k f p x, p ≤ t.length → t.length ≤ p + k → k < f → CN x t p → ∃ x1, wh f (fX7_look_b0 n) x = some x1 ∧ CN x1 t (skF t k p) ∧ frN x x1 := by
    intro k
    induction k with
    | zero =>
      intro f p x h0 h1 h2 h3
      obtain ⟨f, rfl⟩ : ∃ g, f = g + 1 := ⟨f - 1, by omega⟩
      refine ⟨x, wh_e ?_, h3, frN_rf x⟩
      unfold fX7_look_b0
      have hle : t.length ≤ p := by omega
      simp only [un1, h3.1.1, h3.2, wIle (show t.length < 2 ^ 31 by omega) (show p < 2 ^ 31 by omega), hle, if_true]
    | succ k ih =>
      intro f p x h0 h1 h2 h3
      obtain ⟨f, rfl⟩ : ∃ g, f = g + 1 := ⟨f - 1, by omega⟩
      by_cases c : p < t.length ∧ gt t p = 32
      · have n1 : ¬ t.length ≤ p := by omega
        have e1 : x.1 23 p = nI (gt t p) := h3.1.2 p c.1
        have hb : fX7_look_b0 n x = some (.inl (bq_sI x 22 3 (nI (p + 1)))) := by
          unfold fX7_look_b0
          have e2 : nI 32 = (32 : Int32) := rfl
          simp only [un1, h3.1.1, h3.2, wIle (show t.length < 2 ^ 31 by omega) (show p < 2 ^ 31 by omega), n1, if_false, okN (show p < 60 by omega) (by decide), if_true, cl0 (show p < 2 ^ 31 by omega), e1, c.2, e2, bd, nI_1]
        obtain ⟨x1, j1, j2, j3⟩ := ih f (p + 1) (bq_sI x 22 3 (nI (p + 1))) (by omega) (by omega) (by omega) (CN_to _ h3.1)
        refine ⟨x1, by rw [wh_c hb]; exact j1, ?_, frN_tr (frN_to _ _) j3⟩
        unfold skF; rw [if_pos c]; exact j2
      · refine ⟨x, wh_e ?_, by unfold skF; rw [if_neg c]; exact h3, frN_rf x⟩
        unfold fX7_look_b0
        simp only [un1, h3.1.1, h3.2, wIle (show t.length < 2 ^ 31 by omega) (show p < 2 ^ 31 by omega)]
        by_cases hle : t.length ≤ p
        · simp only [hle, if_true]
        · have hlt : p < t.length := by omega
          have e1 : x.1 23 p = nI (gt t p) := h3.1.2 p hlt
          have hr := ht.2 _ (gt_mem hlt)
          have e2 : (nI (gt t p) = (32 : Int32)) = (gt t p = 32) := wIeq (b := 32) (by omega) (by decide)
          have n2 : ¬ gt t p = 32 := fun q => c ⟨hlt, q⟩
          simp only [hle, if_false, okN (show p < 60 by omega) (by decide), if_true, cl0 (show p < 2 ^ 31 by omega), e1, e2, n2]
  obtain ⟨x1, j1, j2, j3⟩ := key (t.length - p) n p x hp (by omega) (by omega) h
  refine ⟨x1, ?_, j2, j3⟩
  have hq := skp_le hp
  unfold fX7_look fX7_look_j38
  rw [j1]
  have j22 : x1.1 22 3 = nI (skp t p) := j2.2
  simp only [Option.bind_some, un1, j2.1.1, j22, wIle (show t.length < 2 ^ 31 by omega) (show skp t p < 2 ^ 31 by omega)]
  by_cases c : skp t p < t.length
  · have n1 : ¬ t.length ≤ skp t p := by omega
    have e1 : x1.1 23 (skp t p) = nI (gt t (skp t p)) := j2.1.2 _ c
    simp only [n1, if_false, okN (show skp t p < 60 by omega) (by decide), if_true, cl0 (show skp t p < 2 ^ 31 by omega), e1, c]
  · have n1 : t.length ≤ skp t p := by omega
    simp only [n1, if_true, c, if_false]
/-- the reference at a place of its tape -/
def MN (y : bq_S) (t : List Nat) (p : Nat) : Prop := MT y t ∧ y.1 0 10 = nI p
def frA (y y1 : bq_S) : Prop := (∀ c, c ≠ 0 → y1.1 c = y.1 c) ∧ (∀ k, k ≠ 10 → y1.1 0 k = y.1 0 k) ∧ y1.2 = y.2
theorem frA_rf (x : bq_S) : frA x x := ⟨fun _ _ => rfl, fun _ _ => rfl, rfl⟩
theorem frA_tr {x y z : bq_S} (h1 : frA x y) (h2 : frA y z) : frA x z := ⟨fun c hc => (h2.1 c hc).trans (h1.1 c hc), fun k hk => (h2.2.1 k hk).trans (h1.2.1 k hk), h2.2.2.trans h1.2.2⟩
theorem frA_to (x : bq_S) (p : Int32) : frA x (bq_sI x 0 10 p) := ⟨fun c hc => sI_n _ _ _ hc, fun k hk => by rw [sI_s, pk_un hk], rfl⟩
theorem MN_to {y : bq_S} {t : List Nat} (p : Nat) (h : MT y t) : MN (bq_sI y 0 10 (nI p)) t p := ⟨⟨by rw [sI_s, pk_un (by decide)]; exact h.1, fun i hi => by rw [sI_n _ _ _ (by decide)]; exact h.2 i hi⟩, by rw [sI_s, pk_us]⟩
theorem m_here {y : bq_S} {t : List Nat} {p n : Nat} (ht : tpOK t) (hp : p ≤ t.length) (h : MN y t p) (hn : 70 ≤ n) : ∃ y1, fX10_here n y = some (if skp t p < t.length then nI (gt t (skp t p)) else 0, y1) ∧ MN y1 t (skp t p) ∧ frA y y1 := by
  have h60 := ht.1
  have key : ∀ k f p y, p ≤ t.length → t.length ≤ p + k → k < f → MN y t p → ∃ y1, wh f (fX10_here_b0 n) y = some y1 ∧ MN y1 t (skF t k p) ∧ frA y y1 := by
    intro k
    induction k with
    | zero =>
      intro f p x h0 h1 h2 h3
      obtain ⟨f, rfl⟩ : ∃ g, f = g + 1 := ⟨f - 1, by omega⟩
      refine ⟨x, wh_e ?_, h3, frA_rf x⟩
      unfold fX10_here_b0
      have hle : t.length ≤ p := by omega
      simp only [un1, h3.1.1, h3.2, wIle (show t.length < 2 ^ 31 by omega) (show p < 2 ^ 31 by omega), hle, if_true]
    | succ k ih =>
      intro f p x h0 h1 h2 h3
      obtain ⟨f, rfl⟩ : ∃ g, f = g + 1 := ⟨f - 1, by omega⟩
      by_cases c : p < t.length ∧ gt t p = 32
      · have n1 : ¬ t.length ≤ p := by omega
        have e1 : x.1 6 p = nI (gt t p) := h3.1.2 p c.1
        have hb : fX10_here_b0 n x = some (.inl (bq_sI x 0 10 (nI (p + 1)))) := by
          unfold fX10_here_b0
          have e2 : nI 32 = (32 : Int32) := rfl
          simp only [un1, h3.1.1, h3.2, wIle (show t.length < 2 ^ 31 by omega) (show p < 2 ^ 31 by omega), n1, if_false, okN (show p < 60 by omega) (by decide), if_true, cl0 (show p < 2 ^ 31 by omega), e1, c.2, e2, bd, nI_1]
        obtain ⟨x1, j1, j2, j3⟩ := ih f (p + 1) (bq_sI x 0 10 (nI (p + 1))) (by omega) (by omega) (by omega) (MN_to _ h3.1)
        refine ⟨x1, by rw [wh_c hb]; exact j1, ?_, frA_tr (frA_to _ _) j3⟩
        unfold skF; rw [if_pos c]; exact j2
      · refine ⟨x, wh_e ?_, by unfold skF; rw [if_neg c]; exact h3, frA_rf x⟩
        unfold fX10_here_b0
        simp only [un1, h3.1.1, h3.2, wIle (show t.length < 2 ^ 31 by omega) (show p < 2 ^ 31 by omega)]
        by_cases hle : t.length ≤ p
        · simp only [hle, if_true]
        · have hlt : p < t.length := by omega
          have e1 : x.1 6 p = nI (gt t p) := h3.1.2 p hlt
          have hr := ht.2 _ (gt_mem hlt)
          have e2 : (nI (gt t p) = (32 : Int32)) = (gt t p = 32) := wIeq (b := 32) (by omega) (by decide)
          have n2 : ¬ gt t p = 32 := fun q => c ⟨hlt, q⟩
          simp only [hle, if_false, okN (show p < 60 by omega) (by decide), if_true, cl0 (show p < 2 ^ 31 by omega), e1, e2, n2]
  obtain ⟨x1, j1, j2, j3⟩ := key (t.length - p) n p y hp (by omega) (by omega) h
  refine ⟨x1, ?_, j2, j3⟩
  have hq := skp_le hp
  unfold fX10_here fX10_here_j38
  rw [j1]
  have j22 : x1.1 0 10 = nI (skp t p) := j2.2
  simp only [Option.bind_some, un1, j2.1.1, j22, wIle (show t.length < 2 ^ 31 by omega) (show skp t p < 2 ^ 31 by omega)]
  by_cases c : skp t p < t.length
  · have n1 : ¬ t.length ≤ skp t p := by omega
    have e1 : x1.1 6 (skp t p) = nI (gt t (skp t p)) := j2.1.2 _ c
    simp only [n1, if_false, okN (show skp t p < 60 by omega) (by decide), if_true, cl0 (show skp t p < 2 ^ 31 by omega), e1, c]
  · have n1 : t.length ≤ skp t p := by omega
    simp only [n1, if_true, c, if_false]
/-- reading a hall: fuel, place, what is read -/
def hgo (m : Nat) (t : List Nat) (q : Nat) (r : List Nat) : Prop := q < t.length ∧ 48 ≤ gt t q ∧ gt t q < 48 + m ∧ (gt t q - 48) ∉ r
def hF (m : Nat) (t : List Nat) : Nat → Nat → List Nat → List Nat × Nat
  | 0, p, r => (r, skp t p)
  | k + 1, p, r => if skp t p < t.length ∧ 48 ≤ gt t (skp t p) ∧ gt t (skp t p) < 48 + m ∧ (gt t (skp t p) - 48) ∉ r then hF m t k (skp t p + 1) (r ++ [gt t (skp t p) - 48]) else (r, skp t p)
