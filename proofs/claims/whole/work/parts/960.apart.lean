/-! ===== step apart: the reference, and both ===== -/
theorem PL_all {s i c : Nat} (h : i < (PL s).length) (hc : c ∈ bits s) : c ∈ (PL s)[i] := by
  obtain ⟨r1, r2, r3⟩ := PL_row h
  apply Classical.byContradiction
  intro hn
  have h1 : (c :: (PL s)[i]).Nodup := List.nodup_cons.mpr ⟨hn, r2⟩
  have h2 : (c :: (PL s)[i]) ⊆ bits s := fun d hd => by
    rcases List.mem_cons.mp hd with e | e
    · rw [e]; exact hc
    · exact r3 d e
  have := h1.length_le_of_subset h2
  rw [List.length_cons] at this
  omega
theorem split2 {r : List Nat} {i j : Nat} (hij : i < j) (hj : j < r.length) : ∃ p q t, r = p ++ gt r i :: (q ++ gt r j :: t) ∧ q.length = j - i - 1 := by
  have h1 : j - i - 1 < (r.drop (i + 1)).length := by rw [List.length_drop]; omega
  have e1 := split_at (l := r) (i := i) (by omega)
  have e2 := split_at h1
  have e3 : (r.drop (i + 1))[j - i - 1] = gt r j := by
    rw [List.getElem_drop, gt_get hj]
    congr 1
    omega
  rw [e3] at e2
  rw [← gt_get (show i < r.length by omega)] at e1
  refine ⟨r.take i, (r.drop (i + 1)).take (j - i - 1), (r.drop (i + 1)).drop (j - i - 1 + 1), ?_, ?_⟩
  · rw [← e2]; exact e1
  · rw [List.length_take]; omega
theorem two_or {a b c : Nat} : (2 ^ a ||| 2 ^ b).testBit c = true ↔ c = a ∨ c = b := by
  rw [Nat.testBit_or, Nat.testBit_two_pow, Nat.testBit_two_pow, Bool.or_eq_true, decide_eq_true_eq, decide_eq_true_eq]
  constructor
  · rintro (h | h)
    · exact Or.inl h.symm
    · exact Or.inr h.symm
  · rintro (h | h)
    · exact Or.inl h.symm
    · exact Or.inr h.symm
theorem gap_of {r : List Nat} (hn : r.Nodup) {a b : Nat} (hab : a ≠ b) (ha : a ∈ r) (hb : b ∈ r) : ∃ pa pb, pa < r.length ∧ pb < r.length ∧ gt r pa = a ∧ gt r pb = b ∧ pa ≠ pb ∧ gp2 (2 ^ a ||| 2 ^ b) 0 r + 1 = if pb ≤ pa then pa - pb else pb - pa := by
  obtain ⟨pa, h1, e1⟩ := List.getElem_of_mem ha
  obtain ⟨pb, h2, e2⟩ := List.getElem_of_mem hb
  have g1 : gt r pa = a := (gt_get h1).trans e1
  have g2 : gt r pb = b := (gt_get h2).trans e2
  have hne : pa ≠ pb := fun e => hab (by rw [← g1, ← g2, e])
  refine ⟨pa, pb, h1, h2, g1, g2, hne, ?_⟩
  rcases Nat.lt_or_gt_of_ne hne with h | h
  · obtain ⟨p, q, t, e, hq⟩ := split2 h h2
    rw [g1, g2] at e
    have := gp2_mid (two := 2 ^ a ||| 2 ^ b) (two_or.mpr (Or.inl rfl)) (two_or.mpr (Or.inr rfl)) (fun c hc => two_or.mp hc) (p := p) (q := q) (r := t) (by rw [← e]; exact hn)
    rw [← e] at this
    rw [this, hq, if_neg (by omega)]; omega
  · obtain ⟨p, q, t, e, hq⟩ := split2 h h1
    rw [g1, g2] at e
    have := gp2_mid (two := 2 ^ a ||| 2 ^ b) (a := b) (b := a) (two_or.mpr (Or.inr rfl)) (two_or.mpr (Or.inl rfl)) (fun c hc => (two_or.mp hc).symm) (p := p) (q := q) (r := t) (by rw [← e]; exact hn)
    rw [← e] at this
    rw [this, hq, if_pos (by omega)]; omega
theorem m_apart_row {y : bq_S} {r : List Nat} {n pa pb a b : Nat} (v : Int32) (hR : MRow y r) (h8 : r.length ≤ 8) (hr8 : ∀ c ∈ r, c < 8) (ha : pa < r.length) (hb : pb < r.length) (ea : gt r pa = a) (eb : gt r pb = b) (hn : r.Nodup) (hne : pa ≠ pb) (hnn : 20 ≤ n) : wh n (fX10_apart_b61 n (nI a) (nI b) v) ((0 : Int32), (0 : Int32), (0 : Int32), y) = some (nI pa, nI pb, nI r.length, y) := by
  have a8 : a < 8 := by rw [← ea]; exact hr8 _ (gt_mem ha)
  have b8 : b < 8 := by rw [← eb]; exact hr8 _ (gt_mem hb)
  obtain ⟨z, hz, rfl⟩ := wh_for (b := fX10_apart_b61 n (nI a) (nI b) v) (fun i z => z = (nI (if pa < i then pa else 0), nI (if pb < i then pb else 0), nI i, y)) (fun z => z = (nI pa, nI pb, nI r.length, y)) r.length (by
    rintro i _ hi rfl
    have n1 : ¬ r.length ≤ i := by omega
    have g8 : gt r i < 8 := hr8 _ (gt_mem hi)
    have e1 : (gt r i = a) = (i = pa) := propext ⟨fun h => Classical.byContradiction (fun h2 => gt_ne hn hi ha h2 (h.trans ea.symm)), fun h => by rw [h]; exact ea⟩
    have e2 : (gt r i = b) = (i = pb) := propext ⟨fun h => Classical.byContradiction (fun h2 => gt_ne hn hi hb h2 (h.trans eb.symm)), fun h => by rw [h]; exact eb⟩
    have f1 : (if pa < i + 1 then pa else 0) = if i = pa then i else (if pa < i then pa else 0) := by
      by_cases c : i = pa
      · rw [if_pos c, if_pos (by omega)]; exact c.symm
      · rw [if_neg c]
        by_cases d : pa < i
        · rw [if_pos d, if_pos (by omega)]
        · rw [if_neg d, if_neg (by omega)]
    have f2 : (if pb < i + 1 then pb else 0) = if i = pb then i else (if pb < i then pb else 0) := by
      by_cases c : i = pb
      · rw [if_pos c, if_pos (by omega)]; exact c.symm
      · rw [if_neg c]
        by_cases d : pb < i
        · rw [if_pos d, if_pos (by omega)]
        · rw [if_neg d, if_neg (by omega)]
    refine Or.inl ⟨_, ?_, rfl⟩
    unfold fX10_apart_b61 fX10_apart_j88
    simp only [un4, hR.1, wIle (show r.length < 2 ^ 31 by omega) (show i < 2 ^ 31 by omega), n1, if_false, okN (show i < 8 by omega) (by decide), if_true, cl0 (show i < 2 ^ 31 by omega), hR.2 i hi, wIeq (show gt r i < 2 ^ 31 by omega) (show a < 2 ^ 31 by omega), wIeq (show gt r i < 2 ^ 31 by omega) (show b < 2 ^ 31 by omega), e1, e2, bd, nI_1, f1, f2]
    by_cases c1 : i = pa
    · have c2 : ¬ i = pb := fun h => hne (c1.symm.trans h)
      simp only [if_pos c1, if_neg c2]
    · by_cases c2 : i = pb
      · simp only [if_neg c1, if_pos c2]
      · simp only [if_neg c1, if_neg c2]) (by
    rintro _ rfl
    refine ⟨_, ?_, rfl⟩
    unfold fX10_apart_b61
    simp only [un4, hR.1, Int32.le_refl, if_true, if_pos ha, if_pos hb]) n 0 ((0 : Int32), (0 : Int32), (0 : Int32), y) (by omega) rfl (by omega)
  exact hz
theorem enc_le {o : Option Nat} {v : Nat} (ho : ∀ k, o = some k → k < 100) (hv : v < 100) : (if nI v ≤ enc o then enc o else nI v) = enc (mxo o v) := by
  rw [← enc_lt ho hv]
  by_cases c : enc o < nI v
  · rw [if_pos c, if_neg (Int32.not_le.mpr c)]
  · rw [if_neg c, if_pos (Int32.not_lt.mp c)]
def vap (L : AL) (s a b : Nat) (r : List Nat) : Nat := vgN (decide (lri L = 1 ∧ 3 ≤ pc s)) (pc s) (gp2 (2 ^ a ||| 2 ^ b) 0 r)
theorem m_apart_loop {y : bq_S} {L : AL} (hc : ML y L) (ho : OKL L) {s n a b : Nat} (hs : s < 2 ^ lm L) (hn : 41000 ≤ n) (hab : a ≠ b) (ha : s.testBit a = true) (hb : s.testBit b = true) (ha8 : a < 8) (hb8 : b < 8) {y0 : bq_S} (h0 : RowAt s 0 1 y0) (hr : rowM y y0) : ∃ o g y1, wh n (fX10_apart_b47 n (nI a) (nI b)) ((-4 : Int32), (1 : Int32), y0) = some (enc o, g, y1) ∧ IsMx (fun v => ∃ r ∈ (PL s).filter (lawB (tch L) (decide (lri L = 1))), v = vap L s a b r) o ∧ rowM y y1 := by
  have hlen := PL_len s
  have h256 := p8_256 ho.1 hs
  have hpb := pc_bits h256
  have hp8 := pc_le s
  generalize hF : lawB (tch L) (decide (lri L = 1)) = F
  obtain ⟨z, hz, ⟨o, o1, o2⟩, h2⟩ := wh_for (b := fX10_apart_b47 n (nI a) (nI b)) (fun i z => (∃ o, z.1 = enc o ∧ IsMx (fun v => ∃ r ∈ ((PL s).take i).filter F, v = vap L s a b r) o ∧ ∀ k, o = some k → k < 100) ∧ RowAt s i z.2.1 z.2.2 ∧ rowM y z.2.2) (fun z => (∃ o, z.1 = enc o ∧ IsMx (fun v => ∃ r ∈ (PL s).filter F, v = vap L s a b r) o) ∧ rowM y z.2.2) (PL s).length (by
    rintro i ⟨v, g, z⟩ hi ⟨⟨o, o1, o2, o3⟩, h1, h2⟩
    dsimp only at o1 h1 h2
    rcases h1 with ⟨_, rfl, h1⟩ | ⟨h1, _⟩
    · subst o1
      obtain ⟨g, z1, k1, k2, k3⟩ := m_nextR (n := n) hi h1 (by omega)
      have hw := m_wrongAt (rowM_ML h2 hc) ho (show 20 ≤ n by omega) (PL_ok hs hi) h1
      have hge := jud_ge (T := tch L) (ring := decide (lri L = 1)) (PL_row8 hi).1
      rw [hF] at hge
      obtain ⟨r1, r2, r3⟩ := PL_row hi
      obtain ⟨pa, pb, a1, b1, a2, b2, hne, hgap⟩ := gap_of r2 hab (PL_all hi (bits_mem.mpr ⟨ha8, ha⟩)) (PL_all hi (bits_mem.mpr ⟨hb8, hb⟩))
      have hrow := m_apart_row (n := n) (enc o) h1 (PL_row8 hi).1 (PL_row8 hi).2 a1 b1 a2 b2 r2 hne (by omega)
      have hsz : (PL s)[i].length = pc s := by rw [r1, hpb]
      rw [hsz] at a1 b1
      have h7 : z.1 4 (0 : Int32).toNatClampNeg = nI (lri L) := (rowM_ML h2 hc).2.2.2.2.2.2.1
      have e1 : (nI (lri L) = (1 : Int32)) = (lri L = 1) := wIeq (b := 1) (by have := ho.2.2.2.2.2.2.1; omega) (by decide)
      have e10 : ¬ (1 : Int32) = 0 := by decide
      obtain ⟨G, hG⟩ : ∃ G, G = gp2 (2 ^ a ||| 2 ^ b) 0 (PL s)[i] := ⟨_, rfl⟩
      rw [← hG] at hgap
      have hG2 : G + 2 ≤ pc s := by
        by_cases c : pb ≤ pa
        · rw [if_pos c] at hgap; omega
        · rw [if_neg c] at hgap; omega
      have hv : vap L s a b (PL s)[i] = if lri L = 1 ∧ ¬ (G + 1 ≤ pc s - (G + 1)) then pc s - (G + 1) - 1 else G := by
        unfold vap vgN
        rw [← hG]
        by_cases c1 : lri L = 1 ∧ 3 ≤ pc s
        · rw [if_pos (decide_eq_true c1)]
          by_cases c2 : pc s - 2 - G < G
          · rw [if_pos c2, if_pos ⟨c1.1, by omega⟩]; omega
          · rw [if_neg c2, if_neg (fun h => h.2 (by omega))]
        · rw [if_neg (fun h => c1 (of_decide_eq_true h)), if_neg (fun h => h.2 (by have := fun q => c1 ⟨h.1, q⟩; omega))]
      have hvl : vap L s a b (PL s)[i] ≤ G := by
        unfold vap; rw [← hG]; exact vgN_le _ _ _
      have hb1 : fX10_apart_b47 n (nI a) (nI b) (enc o, (1 : Int32), z) = fX10_apart_j136 n (nI a) (nI b) (enc o) (nI (G + 1)) z := by
        unfold fX10_apart_b47
        simp only [un3, e10, if_false, hrow, Option.bind_some, un4, wIle (show pb < 2 ^ 31 by omega) (show pa < 2 ^ 31 by omega)]
        by_cases c : pb ≤ pa
        · rw [if_pos c, pk_sub c, hgap, if_pos c]
        · rw [if_neg c, pk_sub (by omega), hgap, if_neg c]
      have hb2 : fX10_apart_j136 n (nI a) (nI b) (enc o) (nI (G + 1)) z = fX10_apart_j176 n (nI a) (nI b) (enc o) (nI (vap L s a b (PL s)[i])) z := by
        unfold fX10_apart_j136
        have es : nI (pc s) - nI (G + 1) = nI (pc s - (G + 1)) := pk_sub (by omega)
        simp only [h7, e1, h1.1, hsz, es, wIle (show G + 1 < 2 ^ 31 by omega) (show pc s - (G + 1) < 2 ^ 31 by omega)]
        by_cases c1 : lri L = 1
        · rw [if_pos c1]
          by_cases c2 : G + 1 ≤ pc s - (G + 1)
          · rw [if_pos c2, nI_m (show 0 < G + 1 by omega), hv, if_neg (fun h => h.2 c2), Nat.add_sub_cancel]
          · rw [if_neg c2, nI_m (show 0 < pc s - (G + 1) by omega), hv, if_pos ⟨c1, c2⟩]
        · rw [if_neg c1, nI_m (show 0 < G + 1 by omega), hv, if_neg (fun h => c1 h.1), Nat.add_sub_cancel]
      have ee := enc_le (v := vap L s a b (PL s)[i]) o3 (by omega)
      have hb3 : fX10_apart_j176 n (nI a) (nI b) (enc o) (nI (vap L s a b (PL s)[i])) z = if F (PL s)[i] = false then some (.inl (enc o, g, z1)) else if nI (vap L s a b (PL s)[i]) ≤ enc o then some (.inl (enc o, g, z1)) else some (.inl (nI (vap L s a b (PL s)[i]), g, z1)) := by
        unfold fX10_apart_j176 fX10_apart_j199
        simp only [hw, Option.bind_some, un2, hge, k1]
      have hbody := hb1.trans (hb2.trans hb3)
      cases hf : F (PL s)[i] with
      | false =>
        rw [hf, if_pos rfl] at hbody
        refine Or.inl ⟨_, hbody, ⟨o, rfl, IsMx_c o2 (fun v => ?_), o3⟩, k2, rowM_tr h2 k3⟩
        rw [take_s hi, List.filter_append]
        have : [(PL s)[i]].filter F = [] := by simp [hf]
        rw [this, List.append_nil]
      | true =>
        have hbody2 : fX10_apart_b47 n (nI a) (nI b) (enc o, (1 : Int32), z) = some (.inl (enc (mxo o (vap L s a b (PL s)[i])), g, z1)) := by
          rw [hbody, hf, if_neg (by decide), ← ee]
          by_cases c : nI (vap L s a b (PL s)[i]) ≤ enc o
          · rw [if_pos c, if_pos c]
          · rw [if_neg c, if_neg c]
        refine Or.inl ⟨_, hbody2, ⟨_, rfl, IsMx_c (IsMx_s (vap L s a b (PL s)[i]) o2) (fun v => ?_), ?_⟩, k2, rowM_tr h2 k3⟩
        · rw [take_s hi, List.filter_append]
          have : [(PL s)[i]].filter F = [(PL s)[i]] := by simp [hf]
          rw [this]
          constructor
          · rintro (⟨r, q1, q2⟩ | q2)
            · exact ⟨r, List.mem_append_left _ q1, q2⟩
            · exact ⟨(PL s)[i], List.mem_append_right _ (List.mem_singleton.mpr rfl), q2⟩
          · rintro ⟨r, q1, q2⟩
            rcases List.mem_append.mp q1 with q | q
            · exact Or.inl ⟨r, q, q2⟩
            · rw [List.mem_singleton.mp q] at q2
              exact Or.inr q2
        · intro k hk
          cases o with
          | none => cases hk; omega
          | some j =>
            have := o3 j rfl
            unfold mxo at hk
            have hk := Option.some.inj hk
            rw [← hk]; split <;> omega
    · omega) (by
    rintro ⟨v, g, z⟩ ⟨⟨o, o1, o2, o3⟩, h1, h2⟩
    dsimp only at o1 h1 h2
    rcases h1 with ⟨h1, _⟩ | ⟨_, rfl⟩
    · exact absurd h1 (Nat.lt_irrefl _)
    · rw [List.take_length] at o2
      refine ⟨(v, 0, z), ?_, ⟨o, o1, o2⟩, h2⟩
      unfold fX10_apart_b47
      simp only [un3, if_true]) n 0 ((-4 : Int32), (1 : Int32), y0) (by omega) ⟨⟨none, rfl, fun v hv => by obtain ⟨r, q, _⟩ := hv; simp at q, fun k hk => by cases hk⟩, h0, hr⟩ (by omega)
  obtain ⟨v, g, z⟩ := z
  dsimp only at o1 h2
  subst o1
  exact ⟨o, g, z, hz, o2, h2⟩
theorem st_apart {n : Nat} (hn : 41000 ≤ n) : bs_apart Rl n := by
  rintro x y ⟨A, ho, hx, hy⟩ p1 p2 p3
  unfold fX9_apart fX10_apart
  simp only [s_isSet hx.1 ho.1 p1, m_isSet hy.1 ho.1 p1, Option.bind_some, un2, b2i_0]
  cases hS : isS (lm A.1) p1 with
  | false => exact ⟨-1, x, y, by simp, by simp, A, ho, hx, hy⟩
  | true =>
    obtain ⟨s, hs, rfl⟩ := isS_of ho.1.1 hS
    have h256 := p8_256 ho.1.1 hs
    have h8 := ho.1.1
    simp only [Bool.true_eq_false, if_false, s_areTwo hx.1 ho.1, m_areTwo hy.1 ho.1, Option.bind_some, b2i_0]
    cases h2 : are2 (lm A.1) p2 p3 with
    | false => exact ⟨-1, x, y, by simp, by simp, A, ho, hx, hy⟩
    | true =>
      obtain ⟨a, b, ha, hb, hab, rfl, rfl⟩ := are2_of (mem8 ho.1) h2
      simp only [Bool.true_eq_false, if_false, s_has s a x (by omega) (by omega), s_has s b x (by omega) (by omega), wI_bit (show s < 2 ^ 31 by omega) (show a < 31 by omega), wI_bit (show s < 2 ^ 31 by omega) (show b < 31 by omega), Option.bind_some, b2i_0]
      cases hA : s.testBit a with
      | false => exact ⟨-1, x, y, by simp, by simp, A, ho, hx, hy⟩
      | true =>
        cases hB : s.testBit b with
        | false => exact ⟨-1, x, y, by simp, by simp, A, ho, hx, hy⟩
        | true =>
          have s0 : s ≠ 0 := fun e => by rw [e] at hA; simp at hA
          have t8 : 2 ^ a ||| 2 ^ b < 256 := Nat.or_lt_two_pow (n := 8) (Nat.pow_lt_pow_right (by decide) (by omega)) (Nat.pow_lt_pow_right (by decide) (by omega))
          obtain ⟨o, x1, k1, k2, k3, k4⟩ := s_greatest hx.1 hx.2.1 ho.1 hs t8 s0 (show 300 ≤ n by omega) (by
            rintro g ⟨r, hr, rfl⟩
            have hmem := (List.mem_filter.mp hr).1
            obtain ⟨i, hi, rfl⟩ := List.getElem_of_mem hmem
            obtain ⟨r1, r2, r3⟩ := PL_row hi
            obtain ⟨pa, pb, a1, b1, a2, b2, hne, hgap⟩ := gap_of r2 hab (PL_all hi (bits_mem.mpr ⟨by omega, hA⟩)) (PL_all hi (bits_mem.mpr ⟨by omega, hB⟩))
            have hsz : (PL s)[i].length = pc s := by rw [r1, pc_bits h256]
            rw [hsz] at a1 b1
            by_cases c : pb ≤ pa
            · rw [if_pos c] at hgap; omega
            · rw [if_neg c] at hgap; omega)
          obtain ⟨y1, l1, l2, l3⟩ := m_firstR (y := y) h256 (show 20 ≤ n by omega)
          obtain ⟨o2, g, y2, j1, j2, j3⟩ := m_apart_loop hy.1 ho.1 hs hn hab hA hB (by omega) (by omega) l2 l3
          have eo : o = o2 := IsMx_eq k2 j2
          subst eo
          refine ⟨enc o, x1, y2, ?_, ?_, A, ho, CR_same ⟨fun c hc => k3 c (by omega) (by omega), by rw [k3 22 (by decide) (by decide)], k3 23 (by decide) (by decide), fun s hs => k3 _ (by omega) (by omega), k4⟩ hx, MR_same (rowM_same j3) hy⟩
          · simp only [Bool.true_eq_false, if_false, s_bit a x (show a < 31 by omega), s_bit b x (show b < 31 by omega), Option.bind_some, wI_or, k1]
          · simp only [Bool.true_eq_false, if_false, l1, Option.bind_some, j1, un3]
