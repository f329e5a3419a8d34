/-! ===== free ===== -/
/-- what is left of a row without the places of a set: the first k places -/
def lft (r : List Nat) (s : Nat) : Nat → List Nat
  | 0 => []
  | k + 1 => if s.testBit k then lft r s k else lft r s k ++ [gt r k]
theorem lft_len (r : List Nat) (s : Nat) : ∀ k, (lft r s k).length ≤ k
  | 0 => by simp [lft]
  | k + 1 => by
    have := lft_len r s k
    simp only [lft]; split
    · omega
    · simp; omega
theorem lft_mem {r : List Nat} {s b : Nat} : ∀ {k : Nat}, b ∈ lft r s k → ∃ j, j < k ∧ b = gt r j
  | 0, h => by simp [lft] at h
  | k + 1, h => by
    simp only [lft] at h
    split at h
    · obtain ⟨j, h1, h2⟩ := lft_mem h; exact ⟨j, by omega, h2⟩
    · rcases List.mem_append.mp h with h | h
      · obtain ⟨j, h1, h2⟩ := lft_mem h; exact ⟨j, by omega, h2⟩
      · exact ⟨k, by omega, by simpa using h⟩
theorem lft_nodup {r : List Nat} (hn : r.Nodup) (s : Nat) : ∀ {k : Nat}, k ≤ r.length → (lft r s k).Nodup
  | 0, _ => by simp [lft]
  | k + 1, hk => by
    have h1 := lft_nodup hn s (k := k) (by omega)
    simp only [lft]; split
    · exact h1
    · rw [List.nodup_append]
      refine ⟨h1, by simp, ?_⟩
      intro a ha b hb
      have hb : b = gt r k := by simpa using hb
      subst hb
      obtain ⟨j, h2, h3⟩ := lft_mem ha
      rw [h3]
      exact gt_ne hn (by omega) (by omega) (by omega)
theorem gt_app1 {a : List Nat} {c : Nat} : gt (a ++ [c]) a.length = c := by unfold gt; rw [getD_app, if_neg (Nat.lt_irrefl _), Nat.sub_self]; rfl
theorem gt_app2 {a b : List Nat} {i : Nat} (h : i < a.length) : gt (a ++ b) i = gt a i := by unfold gt; rw [getD_app, if_pos h]
theorem CRow_app {x : bq_S} {q c : Nat} {r : List Nat} (h : CRow x q r) : CRow (bq_sI x q r.length (nI c)) q (r ++ [c]) := by
  intro i hi
  rw [sI_s]
  rw [List.length_append] at hi
  by_cases e : i = r.length
  · subst e; rw [pk_us, gt_app1]
  · have : i < r.length := by simp at hi; omega
    rw [pk_un e, gt_app2 this]; exact h i this
theorem MRow_app {y : bq_S} {c : Nat} {r : List Nat} (h : MRow y r) : MRow (bq_sI (bq_sI y 10 r.length (nI c)) 0 17 (nI (r.length + 1))) (r ++ [c]) := by
  refine ⟨?_, fun i hi => ?_⟩
  · rw [sI_s, pk_us, List.length_append]; rfl
  · rw [sI_n _ _ _ (by decide), sI_s]
    rw [List.length_append] at hi
    by_cases e : i = r.length
    · subst e; rw [pk_us, gt_app1]
    · have : i < r.length := by simp at hi; omega
      rw [pk_un e, gt_app2 this]; exact h.2 i this
theorem hall_lt8 {L : AL} (ho : OKL L) : ∀ b ∈ lhl L, b < 8 := fun b hb => by have := ho.2.2.2.2.2.2.2.2.2 b hb; have := ho.1; omega
theorem lft_ok {L : AL} (ho : OKL L) (s : Nat) : rowOK (lm L) (lft (lhl L) s (lhl L).length) :=
  ⟨lft_nodup ho.2.2.2.2.2.2.2.2.1 s (Nat.le_refl _), fun b hb => by
    obtain ⟨j, h1, h2⟩ := lft_mem hb
    rw [h2]; exact ho.2.2.2.2.2.2.2.2.2 _ (gt_mem h1)⟩
/-- the class's states differ in its line alone -/
def lineC (x x1 : bq_S) : Prop := (∀ c, c ≠ 42 → x1.1 c = x.1 c) ∧ x1.2 = x.2
theorem lineC_same {x x1 : bq_S} (h : lineC x x1) : sameC x x1 := ⟨fun c hc => h.1 c (by omega), by rw [h.1 22 (by omega)], h.1 23 (by omega), fun s hs => h.1 _ (by omega), h.2⟩
theorem s_without {x : bq_S} {L : AL} (hc : CL x 1 L) (hN : NR x 1 L) (ho : OKL L) {n s : Nat} (hs : s < 256) (hn : 20 ≤ n) : ∃ x1, fX9_isLawfulWithout n (nI s) x = some (b2i (lawB (tch L) (decide (lri L = 1)) (lft (lhl L) s (lhl L).length)), x1) ∧ lineC x x1 := by
  have h8 := hall8 ho
  obtain ⟨z, hz, x1, rfl, h1, h2⟩ := wh_for (b := fX9_isLawfulWithout_b4 n (nI s)) (fun k v => ∃ x1, v = (nI (lft (lhl L) s k).length, nI k, x1) ∧ lineC x x1 ∧ CRow x1 42 (lft (lhl L) s k)) (fun z => ∃ x1, z = (nI (lft (lhl L) s (lhl L).length).length, nI (lhl L).length, x1) ∧ lineC x x1 ∧ CRow x1 42 (lft (lhl L) s (lhl L).length)) (lhl L).length (by
    rintro k _ hk ⟨x1, rfl, h1, h2⟩
    have e0 : x1.1 1 2 = nI (lhl L).length := by rw [h1.1 1 (by decide)]; exact hc.2.2.1
    have e1 : x1.1 6 k = nI (gt (lhl L) k) := by rw [h1.1 6 (by decide)]; exact hc.2.2.2.2.2.2.2.2 k hk
    have n1 : ¬ (lhl L).length ≤ k := by omega
    have hlen := lft_len (lhl L) s k
    have hb : fX9_isLawfulWithout_b4 n (nI s) (nI (lft (lhl L) s k).length, nI k, x1) = if s.testBit k then some (.inl (nI (lft (lhl L) s k).length, nI (k + 1), x1)) else some (.inl (nI ((lft (lhl L) s k).length + 1), nI (k + 1), bq_sI x1 42 (lft (lhl L) s k).length (nI (gt (lhl L) k)))) := by
      unfold fX9_isLawfulWithout_b4
      simp only [un3, e0, wIle (show (lhl L).length < 2 ^ 31 by omega) (show k < 2 ^ 31 by omega), n1, if_false, s_has s k x1 (by omega) (by omega), Option.bind_some, un2, b2i_0, okN (show k < 8 by omega) (by decide), okN (show (lft (lhl L) s k).length < 8 by omega) (by decide), if_true, bd, nI_1, cl0 (show k < 2 ^ 31 by omega), cl0 (show (lft (lhl L) s k).length < 2 ^ 31 by omega), e1]
      cases s.testBit k <;> simp
    cases hsb : s.testBit k with
    | true =>
      rw [hsb] at hb
      refine Or.inl ⟨_, by simpa using hb, x1, ?_, h1, ?_⟩ <;> simp only [lft, hsb, if_true]
      exact h2
    | false =>
      rw [hsb] at hb
      refine Or.inl ⟨_, by simpa using hb, bq_sI x1 42 (lft (lhl L) s k).length (nI (gt (lhl L) k)), ?_, ⟨fun c hc => by rw [sI_n _ _ _ hc]; exact h1.1 c hc, h1.2⟩, ?_⟩ <;> simp only [lft, hsb, Bool.false_eq_true, if_false, List.length_append]
      · rfl
      · exact CRow_app h2) (by
    rintro _ ⟨x1, rfl, h1, h2⟩
    have e0 : x1.1 1 2 = nI (lhl L).length := by rw [h1.1 1 (by decide)]; exact hc.2.2.1
    refine ⟨_, ?_, x1, rfl, h1, h2⟩
    unfold fX9_isLawfulWithout_b4
    simp only [un3, e0, Int32.le_refl, if_true]) n 0 ((0 : Int32), (0 : Int32), x) (by omega) ⟨x, rfl, ⟨fun _ _ => rfl, rfl⟩, fun i hi => by simp [lft] at hi⟩ (by omega)
  have hlen := lft_len (lhl L) s (lhl L).length
  refine ⟨x1, ?_, h1⟩
  unfold fX9_isLawfulWithout
  rw [hz]
  simp only [Option.bind_some, un3]
  rw [s_isLawful (CL_of (fun c a b => h1.1 c (by omega)) hc) (fun i hi => by rw [h1.1 _ (by omega)]; exact hN i hi) ho hn (by omega) (fun b hb => by have := (lft_ok ho s).2 b hb; have := ho.1; omega) h2]
  simp only [Option.bind_some, un2, b2i_g]
/-- how many -/
def frF (L : AL) (k : Nat) (s : Nat) : Nat := if pc s = k ∧ lawB (tch L) (decide (lri L = 1)) (lft (lhl L) s (lhl L).length) = true then 1 else 0
theorem s_free_loop {x : bq_S} {L : AL} (hc : CL x 1 L) (hN : NR x 1 L) (ho : OKL L) {n k : Nat} (hk : k ≤ 8) (hn : 300 ≤ n) : ∃ x1, wh n (fX9_free_b22 n (nI k)) ((0 : Int32), (0 : Int32), x) = some (nI (sumN (frF L k) (2 ^ (lhl L).length)), nI (2 ^ (lhl L).length), x1) ∧ lineC x x1 := by
  have h8 := hall8 ho
  have hp : 2 ^ (lhl L).length ≤ 256 := Nat.pow_le_pow_right (by decide) h8
  obtain ⟨z, hz, x1, rfl, h1⟩ := wh_for (b := fX9_free_b22 n (nI k)) (fun s v => ∃ x1, v = (nI (sumN (frF L k) s), nI s, x1) ∧ lineC x x1) (fun z => ∃ x1, z = (nI (sumN (frF L k) (2 ^ (lhl L).length)), nI (2 ^ (lhl L).length), x1) ∧ lineC x x1) (2 ^ (lhl L).length) (by
    rintro s _ hs ⟨x1, rfl, h1⟩
    have hcl := CL_of (x1 := x1) (fun c a b => h1.1 c (by omega)) hc
    have hnr : NR x1 1 L := fun i hi => by rw [h1.1 _ (by omega)]; exact hN i hi
    have e0 : x1.1 1 2 = nI (lhl L).length := hcl.2.2.1
    have n1 : ¬ 2 ^ (lhl L).length ≤ s := by omega
    obtain ⟨x2, j1, j2⟩ := s_without hcl hnr ho (n := n) (s := s) (by omega) (by omega)
    have ek : (nI (pc s) = nI k) = (pc s = k) := wIeq (by have := pc_le s; omega) (by omega)
    unfold fX9_free_b22
    simp only [un3, e0, s_bit _ _ (show (lhl L).length < 31 by omega), Option.bind_some, un2, wIle (show 2 ^ (lhl L).length < 2 ^ 31 by omega) (show s < 2 ^ 31 by omega), n1, if_false, s_bitCount (show s < 256 by omega), ek, j1, b2i_0, bd, nI_1]
    by_cases e : pc s = k
    · cases hl : lawB (tch L) (decide (lri L = 1)) (lft (lhl L) s (lhl L).length) with
      | false =>
        refine Or.inl ⟨_, (by simp only [e, if_true]; rfl), x2, ?_, fun c hc => (j2.1 c hc).trans (h1.1 c hc), j2.2.trans h1.2⟩
        have : frF L k s = 0 := by simp [frF, hl]
        simp only [sumN, this, Nat.add_zero]
      | true =>
        refine Or.inl ⟨_, (by simp only [e, if_true, Bool.true_eq_false, if_false]; rfl), x2, ?_, fun c hc => (j2.1 c hc).trans (h1.1 c hc), j2.2.trans h1.2⟩
        have : frF L k s = 1 := by simp [frF, hl, e]
        simp only [sumN, this]
    · refine Or.inl ⟨_, (by simp only [e, if_false]; rfl), x1, ?_, h1⟩
      have : frF L k s = 0 := by simp [frF, e]
      simp only [sumN, this, Nat.add_zero]) (by
    rintro _ ⟨x1, rfl, h1⟩
    have e0 : x1.1 1 2 = nI (lhl L).length := by rw [h1.1 1 (by decide)]; exact hc.2.2.1
    refine ⟨_, ?_, x1, rfl, h1⟩
    unfold fX9_free_b22
    simp only [un3, e0, s_bit _ _ (show (lhl L).length < 31 by omega), Option.bind_some, un2, Int32.le_refl, if_true]) n 0 ((0 : Int32), (0 : Int32), x) (Nat.zero_le _) ⟨x, rfl, fun _ _ => rfl, rfl⟩ (by omega)
  exact ⟨x1, hz, h1⟩
/-- the reference's states differ in its row alone -/
def rowM (y y1 : bq_S) : Prop := (∀ c, c ≠ 0 → c ≠ 10 → y1.1 c = y.1 c) ∧ (∀ k, k ≠ 17 → y1.1 0 k = y.1 0 k) ∧ y1.2 = y.2
theorem rowM_same {y y1 : bq_S} (h : rowM y y1) : sameM y y1 := ⟨fun k hk => h.2.1 k (by omega), fun c a b => h.1 c (by omega) (by omega), fun c a b => h.1 c (by omega) (by omega), by rw [h.2.2]⟩
theorem rowM_tr {x y z : bq_S} (h1 : rowM x y) (h2 : rowM y z) : rowM x z := ⟨fun c a b => (h2.1 c a b).trans (h1.1 c a b), fun k hk => (h2.2.1 k hk).trans (h1.2.1 k hk), h2.2.2.trans h1.2.2⟩
theorem rowM_ML {y y1 : bq_S} {L : AL} (h : rowM y y1) (hc : ML y L) : ML y1 L := by
  unfold ML
  rw [h.2.1 0 (by decide), h.2.1 4 (by decide), h.2.1 6 (by decide), h.1 1 (by decide) (by decide), h.1 2 (by decide) (by decide), h.1 3 (by decide) (by decide), h.1 4 (by decide) (by decide), h.1 5 (by decide) (by decide)]
  exact hc
theorem m_without {y : bq_S} {L : AL} (hc : ML y L) (ho : OKL L) {n s : Nat} (u1 u2 : Int32) (hs : s < 256) (hn : 20 ≤ n) : ∃ y1, wh n (fX10_free_b44 n u1 u2 (nI s)) ((0 : Int32), bq_sI y 0 17 0) = some (nI (lhl L).length, y1) ∧ rowM y y1 ∧ MRow y1 (lft (lhl L) s (lhl L).length) := by
  have h8 := hall8 ho
  obtain ⟨z, hz, y1, rfl, h1, h2⟩ := wh_for (b := fX10_free_b44 n u1 u2 (nI s)) (fun k v => ∃ y1, v = (nI k, y1) ∧ rowM y y1 ∧ MRow y1 (lft (lhl L) s k)) (fun z => ∃ y1, z = (nI (lhl L).length, y1) ∧ rowM y y1 ∧ MRow y1 (lft (lhl L) s (lhl L).length)) (lhl L).length (by
    rintro k _ hk ⟨y1, rfl, h1, h2⟩
    have e0 : y1.1 0 6 = nI (lhl L).length := by rw [h1.2.1 6 (by decide)]; exact hc.2.2.1
    have e1 : y1.1 5 k = nI (gt (lhl L) k) := by rw [h1.1 5 (by decide) (by decide)]; exact hc.2.2.2.2.2.2.2.2 k hk
    have n1 : ¬ (lhl L).length ≤ k := by omega
    have hlen := lft_len (lhl L) s k
    have e2 : (bq_sI y1 10 (lft (lhl L) s k).length (nI (gt (lhl L) k))).1 0 17 = nI (lft (lhl L) s k).length := by rw [sI_n _ _ _ (by decide)]; exact h2.1
    have hb : fX10_free_b44 n u1 u2 (nI s) (nI k, y1) = if s.testBit k then some (.inl (nI (k + 1), y1)) else some (.inl (nI (k + 1), bq_sI (bq_sI y1 10 (lft (lhl L) s k).length (nI (gt (lhl L) k))) 0 17 (nI ((lft (lhl L) s k).length + 1)))) := by
      unfold fX10_free_b44
      simp only [un2, e0, wIle (show (lhl L).length < 2 ^ 31 by omega) (show k < 2 ^ 31 by omega), n1, if_false, wI_bit (show s < 2 ^ 31 by omega) (show k < 31 by omega), b2i_0, okN (show k < 8 by omega) (by decide), h2.1, okN (show (lft (lhl L) s k).length < 8 by omega) (by decide), if_true, bd, nI_1, cl0 (show k < 2 ^ 31 by omega), cl0 (show (lft (lhl L) s k).length < 2 ^ 31 by omega), e1, e2]
      cases s.testBit k <;> simp
    cases hsb : s.testBit k with
    | true =>
      rw [hsb] at hb
      refine Or.inl ⟨_, by simpa using hb, y1, rfl, h1, ?_⟩
      simp only [lft, hsb, if_true]
      exact h2
    | false =>
      rw [hsb] at hb
      refine Or.inl ⟨_, by simpa using hb, bq_sI (bq_sI y1 10 (lft (lhl L) s k).length (nI (gt (lhl L) k))) 0 17 (nI ((lft (lhl L) s k).length + 1)), rfl, ⟨fun c a b => by rw [sI_n _ _ _ a, sI_n _ _ _ b]; exact h1.1 c a b, fun k hk => by rw [sI_s, pk_un hk, sI_n _ _ _ (by decide)]; exact h1.2.1 k hk, h1.2.2⟩, ?_⟩
      simp only [lft, hsb, Bool.false_eq_true, if_false]
      exact MRow_app h2) (by
    rintro _ ⟨y1, rfl, h1, h2⟩
    have e0 : y1.1 0 6 = nI (lhl L).length := by rw [h1.2.1 6 (by decide)]; exact hc.2.2.1
    refine ⟨_, ?_, y1, rfl, h1, h2⟩
    unfold fX10_free_b44
    simp only [un2, e0, Int32.le_refl, if_true]) n 0 ((0 : Int32), bq_sI y 0 17 0) (by omega) ⟨_, rfl, ⟨fun c a b => sI_n _ _ _ a, fun k hk => by rw [sI_s, pk_un hk], rfl⟩, ⟨by rw [sI_s, pk_us]; rfl, fun i hi => by simp [lft] at hi⟩⟩ (by omega)
  exact ⟨y1, hz, h1, h2⟩
theorem m_free_loop {y : bq_S} {L : AL} (hc : ML y L) (ho : OKL L) {n k : Nat} (hk : k ≤ 8) (hn : 300 ≤ n) : ∃ y1, wh n (fX10_free_b26 n (nI k)) ((0 : Int32), (0 : Int32), y) = some (nI (sumN (frF L k) (2 ^ (lhl L).length)), nI (2 ^ (lhl L).length), y1) ∧ rowM y y1 := by
  have h8 := hall8 ho
  have hp : 2 ^ (lhl L).length ≤ 256 := Nat.pow_le_pow_right (by decide) h8
  obtain ⟨z, hz, y1, rfl, h1⟩ := wh_for (b := fX10_free_b26 n (nI k)) (fun s v => ∃ y1, v = (nI (sumN (frF L k) s), nI s, y1) ∧ rowM y y1) (fun z => ∃ y1, z = (nI (sumN (frF L k) (2 ^ (lhl L).length)), nI (2 ^ (lhl L).length), y1) ∧ rowM y y1) (2 ^ (lhl L).length) (by
    rintro s _ hs ⟨y1, rfl, h1⟩
    have hml := rowM_ML h1 hc
    have e0 : y1.1 0 6 = nI (lhl L).length := hml.2.2.1
    have n1 : ¬ 2 ^ (lhl L).length ≤ s := by omega
    obtain ⟨y2, j1, j2, j3⟩ := m_without hml ho (n := n) (s := s) (nI k) (nI (sumN (frF L k) s)) (by omega) (by omega)
    have ek : (nI (pc s) = nI k) = (pc s = k) := wIeq (by have := pc_le s; omega) (by omega)
    have hw := m_wrongAt (rowM_ML j2 hml) ho (n := n) (by omega) (lft_ok ho s) j3
    have hlen := lft_len (lhl L) s (lhl L).length
    have ez : ∀ v : Nat, nI v + (0 : Int32) = nI v := fun v => Int32.add_zero _
    unfold fX10_free_b26
    simp only [un3, e0, wI_sh (show (lhl L).length < 31 by omega), wIle (show 2 ^ (lhl L).length < 2 ^ 31 by omega) (show s < 2 ^ 31 by omega), n1, if_false, bd, j1, Option.bind_some, un2, m_size (show s < 256 by omega) (show 20 ≤ n by omega), ek, hw, jud_ge (show (lft (lhl L) s (lhl L).length).length ≤ 8 by omega), nI_1, ez]
    by_cases e : pc s = k
    · cases hl : lawB (tch L) (decide (lri L = 1)) (lft (lhl L) s (lhl L).length) with
      | false =>
        refine Or.inl ⟨_, (by simp only [e, if_true]; rfl), y2, ?_, rowM_tr h1 j2⟩
        have : frF L k s = 0 := by simp [frF, hl]
        simp only [sumN, this, Nat.add_zero]
      | true =>
        refine Or.inl ⟨_, (by simp only [e, if_true, Bool.true_eq_false, if_false]; rfl), y2, ?_, rowM_tr h1 j2⟩
        have : frF L k s = 1 := by simp [frF, hl, e]
        simp only [sumN, this]
    · refine Or.inl ⟨_, (by simp only [e, if_false]; rfl), y2, ?_, rowM_tr h1 j2⟩
      have : frF L k s = 0 := by simp [frF, e]
      simp only [sumN, this, Nat.add_zero]) (by
    rintro _ ⟨y1, rfl, h1⟩
    have e0 : y1.1 0 6 = nI (lhl L).length := by rw [h1.2.1 6 (by decide)]; exact hc.2.2.1
    refine ⟨_, ?_, y1, rfl, h1⟩
    unfold fX10_free_b26
    simp only [un3, e0, wI_sh (show (lhl L).length < 31 by omega), Int32.le_refl, if_true]) n 0 ((0 : Int32), (0 : Int32), y) (Nat.zero_le _) ⟨y, rfl, fun _ _ _ => rfl, fun _ _ => rfl, rfl⟩ (by omega)
  exact ⟨y1, hz, h1⟩
theorem st_free {n : Nat} (hn : 300 ≤ n) : bs_free Rl n := by
  rintro x y ⟨A, ho, hx, hy⟩ p1
  have h8 := hall8 ho.1
  unfold fX9_free fX10_free
  have g1 : (p1 < (1 : Int32)) = (p1.toInt < 1) := propext Int32.lt_iff_toInt_lt
  have g2 : (p1 ≤ nI (lhl A.1).length) = (p1.toInt ≤ (lhl A.1).length) := by
    rw [← nI_toInt (show (lhl A.1).length < 2 ^ 31 by omega)]; exact propext Int32.le_iff_toInt_le
  simp only [g1, hx.1.2.2.1, hy.1.2.2.1, g2, m_in, Option.bind_some, un2, b2i_0, Int32.toInt_toInt64]
  by_cases h : 1 ≤ p1.toInt ∧ p1.toInt ≤ (lhl A.1).length
  · obtain ⟨k, hk, rfl⟩ := vp_in_of (x := p1) (n := 9) (vp_in_iff.mpr (by omega)) (by decide)
    obtain ⟨x1, a1, a2⟩ := s_free_loop hx.1 hx.2.1 ho.1 (n := n) (k := k) (by omega) hn
    obtain ⟨y1, b1, b2⟩ := m_free_loop hy.1 ho.1 (n := n) (k := k) (by omega) hn
    refine ⟨nI (sumN (frF A.1 k) (2 ^ (lhl A.1).length)), x1, y1, ?_, ?_, A, ho, CR_same (lineC_same a2) hx, MR_same (rowM_same b2) hy⟩
    · have n1 : ¬ (nI k).toInt < 1 := by omega
      simp only [n1, if_false, h.2, if_true, a1, Option.bind_some, un3]
    · have n3 : decide ((1 : Int64).toInt ≤ (nI k).toInt ∧ (nI k).toInt ≤ (8 : Int64).toInt) = true := by
        apply decide_eq_true; simp; omega
      simp only [n3, Bool.true_eq_false, if_false, h.2, if_true, b1, Option.bind_some, un3]
  · refine ⟨-1, x, y, ?_, ?_, A, ho, hx, hy⟩
    · by_cases a : p1.toInt < 1
      · simp [a]
      · have : ¬ p1.toInt ≤ (lhl A.1).length := by omega
        simp [a, this]
    · cases e : decide ((1 : Int64).toInt ≤ p1.toInt ∧ p1.toInt ≤ (8 : Int64).toInt) with
      | false => simp only [if_true]
      | true =>
        have e := of_decide_eq_true e
        simp at e
        have : ¬ p1.toInt ≤ (lhl A.1).length := by omega
        simp only [Bool.true_eq_false, if_false, this]
