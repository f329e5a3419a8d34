/-! ===== step row ===== -/
theorem split_at {α : Type} {l : List α} {i : Nat} (h : i < l.length) : l = l.take i ++ l[i] :: l.drop (i + 1) := by
  rw [← List.drop_eq_getElem_cons h, List.take_append_drop]
theorem filt_at {α : Type} {l : List α} {p : α → Bool} {i : Nat} (h : i < l.length) (hp : p l[i] = true) : (l.filter p)[((l.take i).filter p).length]? = some l[i] := by
  have e : l.filter p = (l.take i).filter p ++ l[i] :: (l.drop (i + 1)).filter p := by
    conv => lhs; rw [split_at h]
    rw [List.filter_append, List.filter_cons, if_pos hp]
  rw [e, List.getElem?_append_right (Nat.le_refl _), Nat.sub_self]
  rfl
theorem m_rowAt {y : bq_S} {L : AL} (hc : ML y L) (ho : OKL L) {s n k c : Nat} (hs : s < 2 ^ lm L) (hn : 41000 ≤ n) {y0 : bq_S} (h0 : RowAt s 0 1 y0) (hr : rowM y y0) (hk : k < pc s) (hc31 : c < 2 ^ 31) : ∃ o, wh n (fX10_row_b41 n (nI k)) (nI c, (1 : Int32), y0) = some o ∧ ((∃ r y1, ((PL s).filter (lawB (tch L) (decide (lri L = 1))))[c]? = some r ∧ o = .inr (nI (gt r k), y1) ∧ rowM y y1) ∨ (((PL s).filter (lawB (tch L) (decide (lri L = 1))))[c]? = none ∧ ∃ a b y1, o = .inl (a, b, y1) ∧ rowM y y1)) := by
  have hlen := PL_len s
  have h256 := p8_256 ho.1 hs
  have hb := pc_bits h256
  have hp8 := pc_le s
  generalize hF : lawB (tch L) (decide (lri L = 1)) = F
  refine wh_for (b := fX10_row_b41 n (nI k)) (fun i z => (((PL s).take i).filter F).length ≤ c ∧ z.1 = nI (c - (((PL s).take i).filter F).length) ∧ RowAt s i z.2.1 z.2.2 ∧ rowM y z.2.2) (fun o => (∃ r y1, ((PL s).filter F)[c]? = some r ∧ o = .inr (nI (gt r k), y1) ∧ rowM y y1) ∨ (((PL s).filter F)[c]? = none ∧ ∃ a b y1, o = .inl (a, b, y1) ∧ rowM y y1)) (PL s).length (by
    rintro i ⟨a, g, z⟩ hi ⟨hle, h0, h1, h2⟩
    dsimp only at h0 h1 h2
    rcases h1 with ⟨_, rfl, h1⟩ | ⟨h1, _⟩
    · obtain ⟨g, z1, k1, k2, k3⟩ := m_nextR (n := n) hi h1 (by omega)
      have hw := m_wrongAt (rowM_ML h2 hc) ho (show 20 ≤ n by omega) (PL_ok hs hi) h1
      have hge := jud_ge (T := tch L) (ring := decide (lri L = 1)) (PL_row8 hi).1
      have hrl := (PL_row hi).1
      have e1 : ¬ (1 : Int32) = 0 := by decide
      have et : (((PL s).take (i + 1)).filter F).length = (((PL s).take i).filter F).length + if F (PL s)[i] then 1 else 0 := by
        rw [take_s hi, List.filter_append, List.length_append, List.filter_cons, List.filter_nil]
        cases F (PL s)[i] <;> rfl
      rw [hF] at hge
      subst h0
      have ez : (nI (c - (((PL s).take i).filter F).length) = (0 : Int32)) = (c - (((PL s).take i).filter F).length = 0) := nI_zero (by omega)
      have e10 : z.1 10 k = nI (gt (PL s)[i] k) := h1.2 k (by omega)
      have hbody : fX10_row_b41 n (nI k) (nI (c - (((PL s).take i).filter F).length), (1 : Int32), z) = if F (PL s)[i] = false then some (.inl (nI (c - (((PL s).take i).filter F).length), g, z1)) else if c - (((PL s).take i).filter F).length = 0 then some (.inr (.inr (nI (gt (PL s)[i] k), z))) else some (.inl (nI (c - (((PL s).take i).filter F).length) - 1, g, z1)) := by
        unfold fX10_row_b41 fX10_row_j68
        simp only [un3, e1, if_false, hw, Option.bind_some, un2, hge, k1, bd, ez, okN (show k < 8 by omega) (by decide), if_true, cl0 (show k < 2 ^ 31 by omega), e10, am1]
      cases hf : F (PL s)[i] with
      | false =>
        rw [hf, if_pos rfl] at hbody
        rw [hf, if_neg (by decide), Nat.add_zero] at et
        exact Or.inl ⟨_, hbody, by rw [et]; exact hle, by rw [et]; rfl, k2, rowM_tr h2 k3⟩
      | true =>
        rw [hf, if_neg (by decide)] at hbody
        rw [hf, if_pos rfl] at et
        by_cases c0 : c - (((PL s).take i).filter F).length = 0
        · rw [if_pos c0] at hbody
          refine Or.inr ⟨_, hbody, Or.inl ⟨(PL s)[i], z, ?_, rfl, h2⟩⟩
          have := filt_at hi hf
          rw [show (((PL s).take i).filter F).length = c by omega] at this
          exact this
        · rw [if_neg c0, nI_m (by omega)] at hbody
          exact Or.inl ⟨_, hbody, by rw [et]; omega, by rw [et]; dsimp only; congr 1, k2, rowM_tr h2 k3⟩
    · omega) (by
    rintro ⟨a, g, z⟩ ⟨hle, h0, h1, h2⟩
    dsimp only at h0 h1 h2
    rcases h1 with ⟨h1, _⟩ | ⟨_, rfl⟩
    · exact absurd h1 (Nat.lt_irrefl _)
    · rw [List.take_length] at hle
      refine ⟨.inl (a, 0, z), ?_, Or.inr ⟨List.getElem?_eq_none hle, a, 0, z, rfl, h2⟩⟩
      unfold fX10_row_b41
      simp only [un3, if_true]) n 0 (nI c, (1 : Int32), y0) (by omega) ⟨by simp, by simp, h0, hr⟩ (by omega)
theorem i_of {p : Int32} (h : ¬ p < 0) : ∃ c, c < 2 ^ 31 ∧ p = nI c := by
  have h1 : 0 ≤ p.toInt := by
    have := Int32.le_iff_toInt_le.mp (Int32.not_lt.mp h)
    simpa using this
  have h2 := Int32.toInt_lt p
  refine ⟨p.toInt.toNat, by omega, Int32.toInt_inj.mp ?_⟩
  rw [nI_toInt (by omega)]; omega
theorem st_row {n : Nat} (hn : 41000 ≤ n) : bs_row Rl n := by
  rintro x y ⟨A, ho, hx, hy⟩ p1 p2 p3
  unfold fX9_row fX10_row
  simp only [s_isSet hx.1 ho.1 p1, m_isSet hy.1 ho.1 p1, Option.bind_some, un2, b2i_0]
  cases hS : isS (lm A.1) p1 with
  | false => exact ⟨-1, x, y, by simp, by simp, A, ho, hx, hy⟩
  | true =>
    obtain ⟨s, hs, rfl⟩ := isS_of ho.1.1 hS
    have h256 := p8_256 ho.1.1 hs
    have hp8 := pc_le s
    simp only [Bool.true_eq_false, if_false, s_bitCount h256, m_size h256 (show 20 ≤ n by omega), Option.bind_some, m_in, b2i_0, Int32.toInt_toInt64, nI_m1 (show pc s < 2 ^ 30 by omega)]
    by_cases c2 : p2 < 0
    · exact ⟨-1, x, y, by simp [c2], by simp [c2], A, ho, hx, hy⟩
    · obtain ⟨c, hc31, rfl⟩ := i_of c2
      by_cases c3 : 0 ≤ p3.toInt ∧ p3.toInt < pc s
      · obtain ⟨k, hk, rfl⟩ := vp_in_of (x := p3) (n := pc s) (vp_in_iff.mpr c3) (by omega)
        have n3 : ¬ nI k < 0 := nI_pos (by omega)
        have d3 : decide ((0 : Int64).toInt ≤ (nI k).toInt ∧ (nI k).toInt ≤ (pc s : Int) - 1) = true := by
          apply decide_eq_true
          have : (0 : Int64).toInt = 0 := rfl
          rw [this]; omega
        have s0 : s ≠ 0 := fun e => by subst e; rw [show pc 0 = 0 by decide] at hk; omega
        obtain ⟨x1, k1, k2, k3, k4⟩ := s_askRows hx.1 hx.2.1 ho.1 hs
        obtain ⟨x2, j1, j2, j3⟩ := c0_find (n := n) k2 ho.1 hs (by decide) (by decide) hp8 (pc_ne h256 s0) (show 300 ≤ n by omega) hc31
        rw [AQ_law h256 s0] at j1 j3
        obtain ⟨y1, l1, l2, l3⟩ := m_firstR (y := y) h256 (show 20 ≤ n by omega)
        obtain ⟨o, o1, o2⟩ := m_rowAt hy.1 ho.1 hs hn l2 l3 hk hc31
        have hsame : sameC x x2 := ⟨fun c hc => by rw [j2.1 c (by omega) (by omega) (by omega), k3 c (by omega)], by rw [j2.1 22 (by omega) (by omega) (by omega), k3 22 (by omega)], by rw [j2.1 23 (by omega) (by omega) (by omega), k3 23 (by omega)], fun s hs => by rw [j2.1 _ (by omega) (by omega) (by omega), k3 _ (by omega)], by rw [j2.2.2, k4]⟩
        simp only [c2, n3, if_false, wIlt (show k < 2 ^ 31 by omega) (show pc s < 2 ^ 31 by omega), hk, if_true, d3, Bool.true_eq_false, k1, Option.bind_some, j1, b2i_0, l1, o1]
        rcases o2 with ⟨r, y2, hr, rfl, hy2⟩ | ⟨hr, a, b, y2, rfl, hy2⟩
        · have hrow := j3 r hr
          have hmem : r ∈ PL s := (List.mem_filter.mp (List.mem_of_getElem? hr)).1
          have hrl : r.length = pc s := by rw [pc_bits h256]; exact (arr_mem.mp hmem).1
          refine ⟨nI (gt r k), x2, y2, ?_, by simp, A, ho, CR_same hsame hx, MR_same (rowM_same hy2) hy⟩
          rw [hr]
          simp only [Option.isSome_some, Bool.true_eq_false, if_false, okN (show k < 8 by omega) (by decide), if_true, cl0 (show k < 2 ^ 31 by omega), hrow k (by omega)]
        · refine ⟨-4, x2, y2, ?_, by simp [un3], A, ho, CR_same hsame hx, MR_same (rowM_same hy2) hy⟩
          rw [hr]
          simp
      · have d3 : decide ((0 : Int64).toInt ≤ p3.toInt ∧ p3.toInt ≤ (pc s : Int) - 1) = false := by
          apply decide_eq_false
          have : (0 : Int64).toInt = 0 := rfl
          rw [this]; omega
        refine ⟨-1, x, y, ?_, by simp only [c2, if_false, d3, if_true], A, ho, hx, hy⟩
        have e1 : (p3 < (0 : Int32)) = (p3.toInt < 0) := propext Int32.lt_iff_toInt_lt
        have e2 : (p3 < nI (pc s)) = (p3.toInt < pc s) := by rw [propext Int32.lt_iff_toInt_lt, nI_toInt (by omega)]
        simp only [c2, if_false, e1, e2]
        by_cases c4 : p3.toInt < 0
        · simp [c4]
        · have : ¬ p3.toInt < pc s := by omega
          simp [c4, this]
