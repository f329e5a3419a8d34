/-! ===== steps rows, row ===== -/
theorem pc_bits {s : Nat} (h : s < 256) : pc s = (bits s).length := by
  have : ∀ s : Fin 256, pc s.val = (bits s.val).length := by decide +kernel
  exact this ⟨s, h⟩
def RowAt (s i : Nat) (g : Int32) (y : bq_S) : Prop := (∃ h : i < (PL s).length, g = 1 ∧ MRow y (PL s)[i]) ∨ (i = (PL s).length ∧ g = 0)
theorem m_nextR {y : bq_S} {s i n : Nat} (h : i < (PL s).length) (hr : MRow y (PL s)[i]) (hn : 20 ≤ n) : ∃ g y1, fX10_next n y = some (g, y1) ∧ RowAt s (i + 1) g y1 ∧ rowM y y1 := by
  obtain ⟨y1, k1, k2, k3⟩ := m_nextL h hr hn
  refine ⟨_, y1, k1, ?_, k3⟩
  by_cases c : i + 1 < (PL s).length
  · exact Or.inl ⟨c, by simp [c, b2i], k2 c⟩
  · exact Or.inr ⟨by omega, by simp [c, b2i]⟩
theorem m_firstR {y : bq_S} {s n : Nat} (hs : s < 256) (hn : 20 ≤ n) : ∃ y1, fX10_first n (nI s) y = some y1 ∧ RowAt s 0 1 y1 ∧ rowM y y1 := by
  obtain ⟨y1, k1, k2, k3⟩ := m_first (y := y) hs hn
  exact ⟨y1, k1, Or.inl ⟨PL_pos s, rfl, by rw [PL_0]; exact k2⟩, k3⟩
theorem PL_ok {L : AL} {s i : Nat} (hs : s < 2 ^ lm L) (h : i < (PL s).length) : rowOK (lm L) (PL s)[i] := by
  have := PL_row h
  refine ⟨this.2.1, fun b hb => ?_⟩
  have h2 := (bits_mem.mp (this.2.2 b hb)).2
  apply Classical.byContradiction
  intro hlt
  rw [Nat.testBit_lt_two_pow (Nat.lt_of_lt_of_le hs (Nat.pow_le_pow_right (by decide) (Nat.le_of_not_lt hlt)))] at h2
  exact absurd h2 (by decide)
theorem take_s {α : Type} {l : List α} {i : Nat} (h : i < l.length) : l.take (i + 1) = l.take i ++ [l[i]] := by
  rw [List.take_add_one, List.getElem?_eq_getElem h]; rfl
theorem s_askRows {x : bq_S} {L : AL} (hc : CL x 1 L) (hN : NR x 1 L) (ho : OKL L) {s : Nat} (hs : s < 2 ^ lm L) : ∃ x1, fX0_askRowsOf (nI s) x = some x1 ∧ CW x1 L s (pc s) (decide (lri L = 1 ∧ 3 ≤ pc s)) 255 255 (-1) ∧ (∀ c, c ≠ 26 → x1.1 c = x.1 c) ∧ x1.2 = x.2 := by
  have h256 : s < 256 := p8_256 ho.1 hs
  have hp := pc_le s
  refine ⟨bq_sI (bq_sI (bq_sI (bq_sI (bq_sI (bq_sI x 26 2 (nI s)) 26 3 (nI (pc s))) 26 5 (b2i (decide (lri L = 1 ∧ 3 ≤ pc s)))) 26 6 (255 : Int32)) 26 7 (255 : Int32)) 26 8 (-1 : Int32), ?_, ?_, fun c hc => ?_, rfl⟩
  · unfold fX0_askRowsOf fX8X0_ask
    simp only [s_bitCount h256, Option.bind_some, un2, s_closes hc ho (pc s) (by omega), bd, b2i_01, if_true]
  · refine ⟨CL_of (fun c a b => ?_) hc, NR_of ?_ hN, ?_, ?_, ?_, ?_, ?_, ?_⟩
    · rw [sI_n _ _ _ (by omega), sI_n _ _ _ (by omega), sI_n _ _ _ (by omega), sI_n _ _ _ (by omega), sI_n _ _ _ (by omega), sI_n _ _ _ (by omega)]
    · rw [sI_n _ _ _ (by omega), sI_n _ _ _ (by omega), sI_n _ _ _ (by omega), sI_n _ _ _ (by omega), sI_n _ _ _ (by omega), sI_n _ _ _ (by omega)]
    · rw [sI_s, pk_un (by decide), sI_s, pk_un (by decide), sI_s, pk_un (by decide), sI_s, pk_un (by decide), sI_s, pk_un (by decide), sI_s, pk_us]
    · rw [sI_s, pk_un (by decide), sI_s, pk_un (by decide), sI_s, pk_un (by decide), sI_s, pk_un (by decide), sI_s, pk_us]
    · rw [sI_s, pk_un (by decide), sI_s, pk_un (by decide), sI_s, pk_un (by decide), sI_s, pk_us]
    · rw [sI_s, pk_un (by decide), sI_s, pk_un (by decide), sI_s, pk_us]; rfl
    · rw [sI_s, pk_un (by decide), sI_s, pk_us]; rfl
    · rw [sI_s, pk_us]
  · rw [sI_n _ _ _ hc, sI_n _ _ _ hc, sI_n _ _ _ hc, sI_n _ _ _ hc, sI_n _ _ _ hc, sI_n _ _ _ hc]
theorem b255 {b : Nat} (h : b < 8) : (255 : Nat).testBit b = true := by
  have : ∀ b : Fin 8, (255 : Nat).testBit b.val = true := by decide
  exact this ⟨b, h⟩
theorem lst_mem : ∀ (b : Nat) (q : List Nat), lst b q ∈ b :: q
  | b, [] => by simp [lst]
  | b, c :: q => by
    have := lst_mem c q
    rw [lst]
    exact List.mem_cons_of_mem _ this
theorem pc_ne {s : Nat} (h : s < 256) (h0 : s ≠ 0) : 1 ≤ pc s := by
  have : ∀ s : Fin 256, s.val ≠ 0 → 1 ≤ pc s.val := by decide +kernel
  exact this ⟨s, h⟩ h0
theorem AQ_law {L : AL} {s : Nat} (h256 : s < 256) (h0 : s ≠ 0) : AQ s 255 (tch L) (WW L (decide (lri L = 1 ∧ 3 ≤ pc s)) 255 (-1)) (pc s - 1) = (PL s).filter (lawB (tch L) (decide (lri L = 1))) := by
  have h1 := pc_ne h256 h0
  have hb := pc_bits h256
  rw [AQ_arr, show pc s - 1 + 1 = (bits s).length by omega]
  show (PL s).filter _ = _
  apply List.filter_congr
  intro r hr
  obtain ⟨r1, r2, r3⟩ := arr_mem.mp hr
  have h8 := bits_len s
  cases r with
  | nil => simp at r1; omega
  | cons b q =>
    simp only [List.length_cons] at r1
    rw [law_chn (by omega), r1, ← hb]
    have hb8 : b < 8 := (bits_mem.mp (r3 b (by simp))).1
    have hl8 : lst b q < 8 := (bits_mem.mp (r3 _ (lst_mem b q))).1
    simp only [okR, WW, b255 hb8, b255 hl8, Bool.true_and, decide_true, Bool.true_or, Bool.and_true]
    congr 1
    rw [Bool.decide_and]
    cases decide (lri L = 1) <;> cases decide (3 ≤ pc s) <;> cases tch L (lst b q) b <;> rfl
/-- how many rows of a set hold: the class -/
theorem s_rowsOf {x : bq_S} {L : AL} (hc : CL x 1 L) (hN : NR x 1 L) (ho : OKL L) {s n : Nat} (hs : s < 2 ^ lm L) (hn : 300 ≤ n) : ∃ x1 x2, fX0_askRowsOf (nI s) x = some x1 ∧ fX0_total n x1 = some (nI ((PL s).filter (lawB (tch L) (decide (lri L = 1)))).length, x2) ∧ (∀ c, c ≠ 25 → c ≠ 26 → x2.1 c = x.1 c) ∧ x2.2 = x.2 := by
  have h256 : s < 256 := p8_256 ho.1 hs
  obtain ⟨x1, k1, k2, k3, k4⟩ := s_askRows hc hN ho hs
  by_cases c : s = 0
  · subst c
    refine ⟨x1, x1, k1, ?_, fun c a b => k3 c b, k4⟩
    have e : (PL 0).filter (lawB (tch L) (decide (lri L = 1))) = [[]] := by
      have : PL 0 = [[]] := by decide
      rw [this, List.filter_cons, law_nil]; rfl
    have e3 : x1.1 26 3 = 0 := k2.2.2.2.1
    rw [e]
    unfold fX0_total
    rw [if_pos e3]
    rfl
  · obtain ⟨x2, j1, j2⟩ := c0_total (n := n) k2 ho hs (by decide) (by decide) (pc_le s) (pc_ne h256 c) hn
    rw [AQ_law h256 c] at j1
    exact ⟨x1, x2, k1, j1, fun c a b => by rw [j2.1 c a b, k3 c b], by rw [j2.2.2, k4]⟩
theorem m_rowsOf {y : bq_S} {L : AL} (hc : ML y L) (ho : OKL L) {s n : Nat} (hs : s < 2 ^ lm L) (hn : 41000 ≤ n) {y0 : bq_S} (h0 : RowAt s 0 1 y0) (hr : rowM y y0) : ∃ g y1, wh n (fX10_rows_b19 n) ((0 : Int32), (1 : Int32), y0) = some (nI ((PL s).filter (lawB (tch L) (decide (lri L = 1)))).length, g, y1) ∧ rowM y y1 := by
  have hlen := PL_len s
  obtain ⟨z, hz, h1, h2⟩ := wh_for (b := fX10_rows_b19 n) (fun i z => z.1 = nI (((PL s).take i).filter (lawB (tch L) (decide (lri L = 1)))).length ∧ RowAt s i z.2.1 z.2.2 ∧ rowM y z.2.2) (fun z => z.1 = nI ((PL s).filter (lawB (tch L) (decide (lri L = 1)))).length ∧ rowM y z.2.2) (PL s).length (by
    rintro i ⟨a, g, z⟩ hi ⟨h0, h1, h2⟩
    dsimp only at h0 h1 h2
    rcases h1 with ⟨_, rfl, h1⟩ | ⟨h1, _⟩
    · obtain ⟨g, z1, k1, k2, k3⟩ := m_nextR (n := n) hi h1 (by omega)
      have hw := m_wrongAt (rowM_ML h2 hc) ho (show 20 ≤ n by omega) (PL_ok hs hi) h1
      have hge := jud_ge (T := tch L) (ring := decide (lri L = 1)) (PL_row8 hi).1
      refine Or.inl ⟨(nI (((PL s).take (i + 1)).filter (lawB (tch L) (decide (lri L = 1)))).length, g, z1), ?_, rfl, k2, rowM_tr h2 k3⟩
      unfold fX10_rows_b19 fX10_rows_j36
      have e1 : ¬ (1 : Int32) = 0 := by decide
      have ez : (0 : Int32) = nI 0 := rfl
      simp only [un3, e1, if_false, hw, Option.bind_some, un2, hge, k1, bd, h0]
      rw [take_s hi, List.filter_append, List.length_append, ← nI_add, List.filter_cons, List.filter_nil]
      cases lawB (tch L) (decide (lri L = 1)) (PL s)[i]
      · rw [if_pos rfl, if_neg (by decide)]; rfl
      · rw [if_neg (by decide), if_pos rfl]; rfl
    · omega) (by
    rintro ⟨a, g, z⟩ ⟨h0, h1, h2⟩
    dsimp only at h0 h1 h2
    rcases h1 with ⟨h1, _⟩ | ⟨_, rfl⟩
    · exact absurd h1 (Nat.lt_irrefl _)
    · subst h0
      rw [List.take_length]
      refine ⟨(nI ((PL s).filter (lawB (tch L) (decide (lri L = 1)))).length, 0, z), ?_, rfl, h2⟩
      unfold fX10_rows_b19
      simp only [un3, if_true]) n 0 ((0 : Int32), (1 : Int32), y0) (by omega) ⟨rfl, h0, hr⟩ (by omega)
  obtain ⟨a, g, z⟩ := z
  dsimp only at h1 h2
  subst h1
  exact ⟨g, z, hz, h2⟩
theorem st_rows {n : Nat} (hn : 41000 ≤ n) : bs_rows Rl n := by
  rintro x y ⟨A, ho, hx, hy⟩ p1
  unfold fX9_rows fX10_rows
  simp only [s_isSet hx.1 ho.1 p1, m_isSet hy.1 ho.1 p1, Option.bind_some, un2, b2i_0]
  cases hS : isS (lm A.1) p1 with
  | false => exact ⟨-1, x, y, by simp, by simp, A, ho, hx, hy⟩
  | true =>
    obtain ⟨s, hs, rfl⟩ := isS_of ho.1.1 hS
    obtain ⟨x1, x2, k1, k2, k3, k4⟩ := s_rowsOf hx.1 hx.2.1 ho.1 hs (show 300 ≤ n by omega)
    obtain ⟨y1, j1, j2, j3⟩ := m_firstR (y := y) (p8_256 ho.1.1 hs) (show 20 ≤ n by omega)
    obtain ⟨g, y2, l1, l2⟩ := m_rowsOf hy.1 ho.1 hs hn j2 j3
    refine ⟨nI ((PL s).filter (lawB (tch A.1) (decide (lri A.1 = 1)))).length, x2, y2, ?_, ?_, A, ho, CR_same ⟨fun c hc => k3 c (by omega) (by omega), by rw [k3 22 (by decide) (by decide)], k3 23 (by decide) (by decide), fun s hs => k3 _ (by omega) (by omega), k4⟩ hx, MR_same (rowM_same l2) hy⟩
    · simp only [Bool.true_eq_false, if_false, k1, Option.bind_some, k2]
    · simp only [Bool.true_eq_false, if_false, j1, Option.bind_some, l1, un3]
