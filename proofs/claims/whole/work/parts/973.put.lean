/-! ===== steps put, lend ===== -/
def BB (L : AL) (P : List (List Nat)) (v : Int32) (z : bq_S) : Prop := (v = -4 ∧ ∀ r ∈ P, lawB (tch L) (decide (lri L = 1)) r = false) ∨ (∃ m r0, v = nI m ∧ m < 8 ∧ (∀ r ∈ P, lawB (tch L) (decide (lri L = 1)) r = true → m ≤ mv (lhl L) r) ∧ P.find? (okM L m) = some r0 ∧ CRow z 11 r0)
theorem m_becomes_loop {y : bq_S} {L : AL} (hc : ML y L) (ho : OKL L) {s n : Nat} (p1 : Int32) (hs : s < 2 ^ lm L) (hn : 41000 ≤ n) (hstay : ∀ r ∈ PL s, sumN (fun i => if nI (gt (lhl L) i) = p1 then 0 else 1) (lhl L).length = sdF (lhl L) r r.length) {y0 : bq_S} (h0 : RowAt s 0 1 y0) (hr : frB y y0) : ∃ v g y1, wh n (fX10_becomes_b17 n p1 (nI (pc s))) ((-4 : Int32), (1 : Int32), y0) = some (v, g, y1) ∧ BB L (PL s) v y1 ∧ frB y y1 := by
  have h256 : s < 256 := p8_256 ho.1 hs
  have hlen := PL_len s
  have hpb := pc_bits h256
  have hp8 := pc_le s
  obtain ⟨z, hz, h1, h2⟩ := wh_for (b := fX10_becomes_b17 n p1 (nI (pc s))) (fun i z => BB L ((PL s).take i) z.1 z.2.2 ∧ RowAt s i z.2.1 z.2.2 ∧ frB y z.2.2) (fun z => BB L (PL s) z.1 z.2.2 ∧ frB y z.2.2) (PL s).length (by
    rintro i ⟨v, g, z⟩ hi ⟨hB, h1, h2⟩
    dsimp only at hB h1 h2
    rcases h1 with ⟨_, rfl, h1⟩ | ⟨h1, _⟩
    · have hml := frB_ML h2 hc
      have hw := m_wrongAt hml ho (show 20 ≤ n by omega) (PL_ok hs hi) h1
      have hge := jud_ge (T := tch L) (ring := decide (lri L = 1)) (PL_row8 hi).1
      have e10 : ¬ (1 : Int32) = 0 := by decide
      have hrl : (PL s)[i].length = pc s := by rw [(PL_row hi).1, hpb]
      cases hlaw : lawB (tch L) (decide (lri L = 1)) (PL s)[i] with
      | false =>
        obtain ⟨g, z1, j1, j2, j3⟩ := m_nextR (n := n) hi h1 (by omega)
        have hbody : fX10_becomes_b17 n p1 (nI (pc s)) (v, (1 : Int32), z) = some (.inl (v, g, z1)) := by
          unfold fX10_becomes_b17
          unfold un3
          dsimp only
          rw [if_neg e10, hw, Option.bind_some, un2_c, if_pos (hge.mpr hlaw)]
          unfold fX10_becomes_j39 fX10_becomes_j91
          rw [if_pos (Int32.le_refl _), j1, Option.bind_some, un2_c]
        have e11 : z1.1 11 = z.1 11 := j3.1 11 (by decide) (by decide)
        refine Or.inl ⟨_, hbody, ?_, j2, frB_tr h2 (frB_row j3)⟩
        dsimp only
        rcases hB with ⟨b1, b2⟩ | ⟨m, r0, b1, b2, b3, b4, b5⟩
        · refine Or.inl ⟨b1, fun r hr => ?_⟩
          rw [take_s hi] at hr
          rcases List.mem_append.mp hr with h | h
          · exact b2 r h
          · rw [List.mem_singleton.mp h]; exact hlaw
        · refine Or.inr ⟨m, r0, b1, b2, fun r hr hl => ?_, by rw [take_s hi]; exact find_app2 b4, fun k hk => by rw [e11]; exact b5 k hk⟩
          rw [take_s hi] at hr
          rcases List.mem_append.mp hr with h | h
          · exact b3 r h hl
          · rw [List.mem_singleton.mp h, hlaw] at hl; exact absurd hl (by decide)
      | true =>
        obtain ⟨z1, k1, k2, k3⟩ := m_moved (n := n) p1 hml ho h1 (PL_row8 hi).1 (PL_row8 hi).2 (by omega) (hstay _ (List.getElem_mem hi))
        have h7 := mv_7 (H := lhl L) (PL_row8 hi).1
        have h1z : MRow z1 (PL s)[i] := ⟨by rw [k2 0 (by decide)]; exact h1.1, fun k hk => by rw [k2 10 (by decide)]; exact h1.2 k hk⟩
        have f1 : frB y z1 := frB_tr h2 ⟨fun c a b d e => k2 c e, fun k hk => by rw [k2 0 (by decide)], k3⟩
        obtain ⟨M, hM⟩ : ∃ M, M = mv (lhl L) (PL s)[i] := ⟨_, rfl⟩
        rw [← hM] at k1 h7
        have n99 : ¬ (99 : Int32) ≤ nI M := nI_ge (a := M) (b := 99) (by omega) (by decide)
        have hbody : fX10_becomes_b17 n p1 (nI (pc s)) (v, (1 : Int32), z) = if v < 0 then fX10_becomes_j58 n p1 (nI (pc s)) (nI M) z1 else if v ≤ nI M then fX10_becomes_j91 n p1 v (nI (pc s)) z1 else fX10_becomes_j58 n p1 (nI (pc s)) (nI M) z1 := by
          have n0 : ¬ (0 : Int32) ≤ jud (tch L) (decide (lri L = 1)) (PL s)[i] := fun h => by rw [hge.mp h] at hlaw; cases hlaw
          unfold fX10_becomes_b17
          unfold un3
          dsimp only
          rw [if_neg e10, hw, Option.bind_some, un2_c, if_neg n0, k1, Option.bind_some, un2_c]
          unfold fX10_becomes_j39
          rw [if_neg n99]
        -- the row is taken
        have take : (∀ r ∈ (PL s).take i, lawB (tch L) (decide (lri L = 1)) r = true → M < mv (lhl L) r) → ∃ g z3, fX10_becomes_j58 n p1 (nI (pc s)) (nI M) z1 = some (.inl (nI M, g, z3)) ∧ BB L ((PL s).take (i + 1)) (nI M) z3 ∧ RowAt s (i + 1) g z3 ∧ frB y z3 := by
          intro hless
          obtain ⟨z2, c1, c2, c3, c4⟩ := cp_loop (b := fX10_becomes_b64 n p1 (nI M) (nI (pc s))) (y := z1) (src := 10) (dst := 11) (len := pc s) (n := n) (by decide) (by omega) (by
            intro t w ht hw
            have n1 : ¬ nI (pc s) ≤ nI t := nI_ge ht (by omega)
            unfold fX10_becomes_b64
            rw [un2_c, if_neg n1, if_pos (okN (show t < 8 by omega) (by decide)), if_pos (okN (show t < 8 by omega) (by decide)), bd_c, bd_c, cl0 (show t < 2 ^ 31 by omega), nI_1]) (by
            intro w hw
            unfold fX10_becomes_b64
            rw [un2_c, if_pos (Int32.le_refl _)])
          have h2z : MRow z2 (PL s)[i] := ⟨by rw [c3 0 (by decide)]; exact h1z.1, fun k hk => by rw [c3 10 (by decide)]; exact h1z.2 k hk⟩
          obtain ⟨g, z3, j1, j2, j3⟩ := m_nextR (n := n) hi h2z (by omega)
          have e11 : z3.1 11 = z2.1 11 := j3.1 11 (by decide) (by decide)
          refine ⟨g, z3, ?_, Or.inr ⟨M, (PL s)[i], rfl, by omega, fun r hr hl => ?_, ?_, fun k hk => ?_⟩, j2, frB_tr f1 (frB_tr ⟨fun c a b d e => c3 c d, fun k hk => by rw [c3 0 (by decide)], c4⟩ (frB_row j3))⟩
          · unfold fX10_becomes_j58 fX10_becomes_j91
            rw [c1, Option.bind_some, un2_c, j1, Option.bind_some, un2_c]
          · rw [take_s hi] at hr
            rcases List.mem_append.mp hr with h | h
            · have := hless r h hl; omega
            · rw [List.mem_singleton.mp h, ← hM]; exact Nat.le_refl _
          · rw [take_s hi]
            refine find_app1 (fun r hr => ?_) ?_
            · unfold okM
              cases hl : lawB (tch L) (decide (lri L = 1)) r
              · rfl
              · have := hless r hr hl
                rw [decide_eq_false (show ¬ mv (lhl L) r ≤ M by omega)]; rfl
            · unfold okM
              rw [hlaw, ← hM, decide_eq_true (Nat.le_refl M)]; rfl
          · rw [e11, c2 k (by omega)]; exact h1z.2 k hk
        rcases hB with ⟨b1, b2⟩ | ⟨m, r0, b1, b2, b3, b4, b5⟩
        · subst b1
          rw [if_pos (show (-4 : Int32) < 0 by decide)] at hbody
          obtain ⟨g, z3, t1, t2, t3, t4⟩ := take (fun r hr hl => by rw [b2 r hr] at hl; exact absurd hl (by decide))
          exact Or.inl ⟨_, hbody.trans t1, t2, t3, t4⟩
        · subst b1
          rw [if_neg (nI_pos (show m < 2 ^ 31 by omega))] at hbody
          have em : (nI m ≤ nI M) = (m ≤ M) := wIle (by omega) (by omega)
          by_cases c : m ≤ M
          · rw [if_pos (em.mpr c)] at hbody
            obtain ⟨g, z3, j1, j2, j3⟩ := m_nextR (n := n) hi h1z (by omega)
            have hbody2 : fX10_becomes_b17 n p1 (nI (pc s)) (nI m, (1 : Int32), z) = some (.inl (nI m, g, z3)) := by
              rw [hbody]
              unfold fX10_becomes_j91
              rw [j1, Option.bind_some, un2_c]
            have e11 : z3.1 11 = z.1 11 := by rw [j3.1 11 (by decide) (by decide), k2 11 (by decide)]
            refine Or.inl ⟨_, hbody2, Or.inr ⟨m, r0, rfl, b2, fun r hr hl => ?_, by rw [take_s hi]; exact find_app2 b4, fun k hk => by dsimp only; rw [e11]; exact b5 k hk⟩, j2, frB_tr f1 (frB_row j3)⟩
            rw [take_s hi] at hr
            rcases List.mem_append.mp hr with h | h
            · exact b3 r h hl
            · rw [List.mem_singleton.mp h, ← hM]; exact c
          · rw [if_neg (fun h => c (em.mp h))] at hbody
            obtain ⟨g, z3, t1, t2, t3, t4⟩ := take (fun r hr hl => by have := b3 r hr hl; omega)
            exact Or.inl ⟨_, hbody.trans t1, t2, t3, t4⟩
    · omega) (by
    rintro ⟨v, g, z⟩ ⟨hB, h1, h2⟩
    dsimp only at hB h1 h2
    rcases h1 with ⟨h1, _⟩ | ⟨_, rfl⟩
    · exact absurd h1 (Nat.lt_irrefl _)
    · rw [List.take_length] at hB
      refine ⟨(v, 0, z), ?_, hB, h2⟩
      unfold fX10_becomes_b17
      unfold un3
      dsimp only
      rw [if_pos rfl]) n 0 ((-4 : Int32), (1 : Int32), y0) (by omega) ⟨Or.inl ⟨rfl, fun r hr => by simp at hr⟩, h0, hr⟩ (by omega)
  obtain ⟨v, g, z⟩ := z
  exact ⟨v, g, z, hz, h1, h2⟩
def Lhall (L : AL) (r : List Nat) : AL := (lm L, lpr L, lth L, lqu L, lha L, lri L, lt3 L, r)
theorem near_hall (L : AL) (r : List Nat) (i : Nat) : nearS (Lhall L r) i = nearS L i := rfl
theorem s_j31_none {n : Nat} {v : Int32} {x : bq_S} : fX9_changeHall_j31 n v (-4 : Int32) x = some ((-4 : Int32), x) := by
  unfold fX9_changeHall_j31
  rw [if_pos rfl]
/-- the hall is changed: both -/
theorem change_core {x y : bq_S} {A : AS} (ho : OKS A) (hx : CR x A) (hy : MR y A) {n s : Nat} (p1 : Int32) (hn : 41000 ≤ n) (hs : s < 2 ^ lm A.1) (hstay : sumN (fun i => if nI (gt (lhl A.1) i) = p1 then 0 else 1) (lhl A.1).length = pc (setOf (lhl A.1) &&& s)) : ∃ (r : Int32) (x2 y2 : bq_S), fX9_changeHall n (nI s) x = some (r, x2) ∧ fX10_becomes n (nI s) p1 y = some (r, y2) ∧ Rl x2 y2 := by
  have h256 := p8_256 ho.1.1 hs
  have hp8 := pc_le s
  have hpb := pc_bits h256
  obtain ⟨x1, x2, k1, k2, k3, k4⟩ := s_rowsOf hx.1 hx.2.1 ho.1 hs (show 300 ≤ n by omega)
  obtain ⟨y1, l1, l2, l3⟩ := m_firstR (y := y) h256 (show 20 ≤ n by omega)
  have hst : setOf (lhl A.1) &&& s < 256 := Nat.lt_of_le_of_lt Nat.and_le_right h256
  have hstay2 : ∀ r ∈ PL s, sumN (fun i => if nI (gt (lhl A.1) i) = p1 then 0 else 1) (lhl A.1).length = sdF (lhl A.1) r r.length := fun r hr => by
    obtain ⟨r1, r2, r3⟩ := arr_mem.mp hr
    have hset := PL_set h256 hr
    have hrs : ∀ c ∈ r, s.testBit c = true := fun c hc => (bits_mem.mp (r3 c hc)).2
    have := pc_sd (H := lhl A.1) (r := r) (st := setOf (lhl A.1) &&& s) r2 (fun c hc => (bits_mem.mp (r3 c hc)).1) hst (fun c hc => by rw [Nat.testBit_and, hrs c hc, setOf_bit, Bool.and_true]) r.length (Nat.le_refl _)
    have e : mset r 0 r.length = s := hset
    rw [e] at this
    have e2 : s &&& (setOf (lhl A.1) &&& s) = setOf (lhl A.1) &&& s := by
      apply Nat.eq_of_testBit_eq
      intro i
      simp only [Nat.testBit_and]
      cases s.testBit i <;> cases (setOf (lhl A.1)).testBit i <;> rfl
    rw [hstay, ← this, e2]
  obtain ⟨v, g, y2, j1, j2, j3⟩ := m_becomes_loop hy.1 ho.1 p1 hs hn hstay2 l2 (frB_row l3)
  have href : fX10_becomes n (nI s) p1 y = if v < 0 then some (v, y2) else bd (bq_sI y2 0 6 (nI (pc s))) (fun x50 => (wh n (fX10_becomes_b113 n v (nI (pc s))) ((0 : Int32), x50)).bind (fun e60 => un2 e60 (fun v61 x62 => some (v, x62)))) := by
    unfold fX10_becomes
    rw [m_size h256 (show 20 ≤ n by omega), Option.bind_some, un2_c, l1, Option.bind_some, j1, Option.bind_some]
    rfl
  obtain ⟨Z, hZ⟩ : ∃ Z, Z = (PL s).filter (lawB (tch A.1) (decide (lri A.1 = 1))) := ⟨_, rfl⟩
  rw [← hZ] at k2
  have hZl : Z.length ≤ 40320 := by rw [hZ]; exact Nat.le_trans (List.length_filter_le _ _) (PL_len s)
  have ez : (nI Z.length = (0 : Int32)) = (Z.length = 0) := nI_zero (by omega)
  have hcls : fX9_changeHall n (nI s) x = if nI Z.length = 0 then fX9_changeHall_j31 n (nI s) (-4 : Int32) x2 else (fX5_fewest n (nI s) x2).bind (fun o7 => un2 o7 (fun v9 x8 => fX9_changeHall_j31 n (nI s) v9 x8)) := by
    unfold fX9_changeHall
    rw [k1, Option.bind_some, k2, Option.bind_some, un2_c]
  by_cases c : Z.length = 0
  · have hnil : Z = [] := List.eq_nil_of_length_eq_zero c
    rw [hnil] at hZ
    have hno : ∀ r ∈ PL s, lawB (tch A.1) (decide (lri A.1 = 1)) r = false := fun r hr => by
      cases h : lawB (tch A.1) (decide (lri A.1 = 1)) r
      · rfl
      · have : r ∈ (PL s).filter (lawB (tch A.1) (decide (lri A.1 = 1))) := List.mem_filter.mpr ⟨hr, h⟩
        rw [← hZ] at this; simp at this
    have hv : v = -4 := by
      rcases j2 with ⟨h, _⟩ | ⟨m, r0, _, _, _, b4, _⟩
      · exact h
      · have hm := List.mem_of_find?_eq_some b4
        have h9 := List.find?_some b4
        unfold okM at h9
        rw [hno r0 hm] at h9
        simp at h9
    subst hv
    rw [hcls, if_pos (ez.mpr c), href, if_pos (show (-4 : Int32) < 0 by decide)]
    refine ⟨-4, x2, y2, s_j31_none, rfl, A, ho, CR_same ⟨fun c hc => k3 c (by omega) (by omega), by rw [k3 22 (by decide) (by decide)], k3 23 (by decide) (by decide), fun s hs => k3 _ (by omega) (by omega), k4⟩ hx, MR_same (frB_same j3) hy⟩
  · have hex : ∃ r ∈ PL s, lawB (tch A.1) (decide (lri A.1 = 1)) r = true := by
      cases hZ2 : Z with
      | nil => rw [hZ2] at c; simp at c
      | cons r T =>
        have : r ∈ (PL s).filter (lawB (tch A.1) (decide (lri A.1 = 1))) := by rw [← hZ, hZ2]; simp
        exact ⟨r, (List.mem_filter.mp this).1, (List.mem_filter.mp this).2⟩
    have hc2 : CL x2 1 A.1 := CL_of (fun c a b => k3 c (by omega) (by omega)) hx.1
    have hN2 : NR x2 1 A.1 := NR_of (k3 7 (by decide) (by decide)) hx.2.1
    obtain ⟨m, x3, r0, q1, q2, q3, q4, q5, q6, q7⟩ := s_moves hc2 hN2 ho.1 hs hex (show 20 ≤ n by omega)
    have hmem := List.mem_of_find?_eq_some q3
    obtain ⟨i, hi, hie⟩ := List.getElem_of_mem hmem
    have hrl : r0.length = pc s := by rw [(arr_mem.mp hmem).1, hpb]
    have hrok : rowOK (lm A.1) r0 := by rw [← hie]; exact PL_ok hs hi
    have hok0 := List.find?_some q3
    unfold okM at hok0
    rw [Bool.and_eq_true] at hok0
    have hm0 := of_decide_eq_true hok0.2
    rcases j2 with ⟨_, hno⟩ | ⟨m', r0', b1, b2, b3, b4, b5⟩
    · rw [hno r0 hmem] at hok0; exact absurd hok0.1 (by decide)
    · have h9 := List.find?_some b4
      unfold okM at h9
      rw [Bool.and_eq_true] at h9
      have hm1 := of_decide_eq_true h9.2
      have a1 := b3 r0 hmem hok0.1
      have a2 := q4 r0' (List.mem_of_find?_eq_some b4) h9.1
      have em : m' = m := by omega
      subst em
      rw [q3] at b4
      have er : r0 = r0' := Option.some.inj b4
      subst er
      subst b1
      obtain ⟨x4, c1, c2, c3, c4, c5, c6⟩ := s_takeHall (x := x3) (q0 := 1) (q1 := 30) (k := pc s) hp8 (by decide)
      obtain ⟨y3, d1, d2, d3, d4⟩ := cp_loop (b := fX10_becomes_b113 n (nI m') (nI (pc s))) (y := bq_sI y2 0 6 (nI (pc s))) (src := 11) (dst := 5) (len := pc s) (n := n) (by decide) (by omega) (by
        intro t w ht hw
        have n1 : ¬ nI (pc s) ≤ nI t := nI_ge ht (by omega)
        unfold fX10_becomes_b113
        rw [un2_c, if_neg n1, if_pos (okN (show t < 8 by omega) (by decide)), if_pos (okN (show t < 8 by omega) (by decide)), bd_c, bd_c, cl0 (show t < 2 ^ 31 by omega), nI_1]) (by
        intro w hw
        unfold fX10_becomes_b113
        rw [un2_c, if_pos (Int32.le_refl _)])
      refine ⟨nI m', x4, y3, ?_, ?_, ?_⟩
      · have n4 : ¬ nI m' = (-4 : Int32) := by
          have : ∀ t : Fin 8, ¬ nI t.val = (-4 : Int32) := by decide
          exact this ⟨m', b2⟩
        rw [hcls, if_neg (fun h => c (ez.mp h)), q1, Option.bind_some, un2_c]
        unfold fX9_changeHall_j31
        rw [if_neg n4, s_bitCount h256, Option.bind_some, un2_c, c1, Option.bind_some]
      · rw [href, if_neg (nI_pos (show m' < 2 ^ 31 by omega)), bd_c, d1, Option.bind_some, un2_c]
      · have fx : ∀ c, c ≠ 1 → c ≠ 6 → c ≠ 25 → c ≠ 26 → c ≠ 29 → c ≠ 30 → c ≠ 31 → x4.1 c = x.1 c := fun c h1 h2 h3 h4 h5 h6 h7 => by
          rw [c3 c h1 h2, q6 c h5 h6 h7]; exact k3 c h3 h4
        have fx1 : ∀ i, i ≠ 2 → x4.1 1 i = x.1 1 i := fun i hi => by
          rw [c4 i hi, q6 1 (by decide) (by decide) (by decide), k3 1 (by decide) (by decide)]
        have fy : ∀ c, c ≠ 0 → c ≠ 5 → c ≠ 10 → c ≠ 11 → c ≠ 12 → y3.1 c = y.1 c := fun c h1 h2 h3 h4 h5 => by
          rw [d3 c h2, sI_n _ _ _ h1]; exact j3.1 c h1 h3 h4 h5
        have fy0 : ∀ k, k ≠ 6 → k ≠ 17 → y3.1 0 k = y.1 0 k := fun k h1 h2 => by
          rw [d3 0 (by decide), sI_s, pk_un h1]; exact j3.2.1 k h2
        obtain ⟨ct1, ct2⟩ := hx.2.2.2.1
        obtain ⟨mt1, mt2⟩ := hy.2.2.1
        refine Rl_lt (L := Lhall A.1 r0) (t := A.2.2.1) ho hx hy ?_ ho.2.2.1 (fun c hc => fx c (by omega) (by omega) (by omega) (by omega) (by omega) (by omega) (by omega)) ?_ ?_ (fun i hi => ?_) ⟨?_, fun i hi => ?_⟩ (fy0 21 (by decide) (by decide)) (fun c hc => fy c (by omega) (by omega) (by omega) (by omega) (by omega)) ?_ ?_ ⟨?_, fun i hi => ?_⟩
        · obtain ⟨o1, o2, o3, o4, o5, o6, o7, o8, o9⟩ := ho.1
          exact ⟨o1, o2, o3, o4, o5, o6, o7, o8, hrok⟩
        · rw [c2, q7, k4]
        · obtain ⟨h1, h2, h3, h4, h5, h6, h7, h8, h9⟩ := hx.1
          refine ⟨?_, ?_, ?_, fun i hi => ?_, fun i hi => ?_, fun i hi => ?_, ?_, ?_, fun i hi => ?_⟩
          · rw [fx1 0 (by decide)]; exact h1
          · rw [fx1 1 (by decide)]; exact h2
          · rw [c5, ← hrl]; rfl
          · rw [fx _ (by decide) (by decide) (by decide) (by decide) (by decide) (by decide) (by decide)]; exact h4 i hi
          · rw [fx _ (by decide) (by decide) (by decide) (by decide) (by decide) (by decide) (by decide)]; exact h5 i hi
          · rw [fx _ (by decide) (by decide) (by decide) (by decide) (by decide) (by decide) (by decide)]; exact h6 i hi
          · rw [fx _ (by decide) (by decide) (by decide) (by decide) (by decide) (by decide) (by decide)]; exact h7
          · rw [fx _ (by decide) (by decide) (by decide) (by decide) (by decide) (by decide) (by decide)]; exact h8
          · have hi' : i < r0.length := hi
            rw [c6 i (by omega)]; exact q5 i hi'
        · rw [fx _ (by decide) (by decide) (by decide) (by decide) (by decide) (by decide) (by decide), near_hall]; exact hx.2.1 i hi
        · rw [fx 22 (by decide) (by decide) (by decide) (by decide) (by decide) (by decide) (by decide)]; exact ct1
        · rw [fx 23 (by decide) (by decide) (by decide) (by decide) (by decide) (by decide) (by decide)]; exact ct2 i hi
        · rw [d4]
          show y2.2 16 = _
          rw [j3.2.2]
        · obtain ⟨m1, m2, m3, m4, m5, m6, m7, m8, m9⟩ := hy.1
          refine ⟨?_, ?_, ?_, fun i hi => ?_, fun i hi => ?_, fun i hi => ?_, ?_, ?_, fun i hi => ?_⟩
          · rw [fy0 _ (by decide) (by decide)]; exact m1
          · rw [fy0 _ (by decide) (by decide)]; exact m2
          · rw [d3 0 (by decide), sI_s, pk_us, ← hrl]; rfl
          · rw [fy _ (by decide) (by decide) (by decide) (by decide) (by decide)]; exact m4 i hi
          · rw [fy _ (by decide) (by decide) (by decide) (by decide) (by decide)]; exact m5 i hi
          · rw [fy _ (by decide) (by decide) (by decide) (by decide) (by decide)]; exact m6 i hi
          · rw [fy _ (by decide) (by decide) (by decide) (by decide) (by decide)]; exact m7
          · rw [fy _ (by decide) (by decide) (by decide) (by decide) (by decide)]; exact m8
          · have hi' : i < r0.length := hi
            rw [d2 i (by omega), sI_n _ _ _ (by decide)]; exact b5 i hi'
        · rw [fy0 9 (by decide) (by decide)]; exact mt1
        · rw [fy 6 (by decide) (by decide) (by decide) (by decide) (by decide)]; exact mt2 i hi
theorem pc_setOf {r : List Nat} (hn : r.Nodup) (h8 : ∀ c ∈ r, c < 8) : pc (setOf r) = r.length := by
  rw [pc_bits (setOf_lt (m := 8) h8), (PL_of hn h8).2]
theorem sumN_1 : ∀ k, sumN (fun _ => 1) k = k
  | 0 => rfl
  | k + 1 => by show sumN (fun _ => 1) k + 1 = k + 1; rw [sumN_1 k]
theorem sumN_but : ∀ (k p : Nat), sumN (fun i => if i = p then 0 else 1) k = if p < k then k - 1 else k
  | 0, p => by simp [sumN]
  | k + 1, p => by
    show sumN (fun i => if i = p then 0 else 1) k + (if k = p then 0 else 1) = _
    rw [sumN_but k p]
    by_cases e : k = p
    · subst e
      rw [if_neg (by omega), if_pos rfl, if_pos (by omega)]; omega
    · rw [if_neg e]
      by_cases c : p < k
      · rw [if_pos c, if_pos (by omega)]; omega
      · rw [if_neg c, if_neg (by omega)]
theorem st_put {n : Nat} (hn : 41000 ≤ n) : bs_put Rl n := by
  rintro x y ⟨A, ho, hx, hy⟩ p1
  have hh := hall8 ho.1
  have hm := ho.1.1
  have hset := setOf_lt (m := lm A.1) ho.1.2.2.2.2.2.2.2.2.2
  have hs31 : setOf (lhl A.1) < 2 ^ 31 := p8_31 hm hset
  unfold fX9_put fX10_put
  rw [s_isBook hx.1 ho.1, isBl_32, m_isBook hy.1 ho.1, Option.bind_some, un2_c, Option.bind_some, un2_c]
  cases hB : isB (lm A.1) p1 with
  | false => exact ⟨-1, x, y, rfl, rfl, A, ho, hx, hy⟩
  | true =>
    obtain ⟨b, hb, rfl⟩ := isB_of (by omega) hB
    have nt : ¬ b2i true = 0 := by decide
    rw [if_neg nt, if_neg nt, s_hallSet hx.1 ho.1 (show 20 ≤ n by omega), m_standingSet hy.1 ho.1 (show 20 ≤ n by omega), Option.bind_some, un2_c, Option.bind_some, un2_c, s_has _ _ x hs31 (show b < 31 by omega), Option.bind_some, un2_c, wI_bit hs31 (show b < 31 by omega)]
    cases hbit : (setOf (lhl A.1)).testBit b with
    | true =>
      rw [if_neg nt, if_pos (show b2i true = 1 from rfl)]
      exact ⟨-2, x, y, rfl, rfl, A, ho, hx, hy⟩
    | false =>
      rw [if_pos (show b2i false = 0 from rfl), if_neg (show ¬ b2i false = 1 by decide), m_standingSet hy.1 ho.1 (show 20 ≤ n by omega), Option.bind_some, un2_c, s_bit b x (show b < 31 by omega), Option.bind_some, un2_c, wI_sh (show b < 31 by omega), wI_or]
      have hstay : sumN (fun i => if nI (gt (lhl A.1) i) = (-4 : Int32) then 0 else 1) (lhl A.1).length = pc (setOf (lhl A.1) &&& (setOf (lhl A.1) ||| 2 ^ b)) := by
        have e1 : setOf (lhl A.1) &&& (setOf (lhl A.1) ||| 2 ^ b) = setOf (lhl A.1) := by
          apply Nat.eq_of_testBit_eq
          intro i
          rw [Nat.testBit_and, Nat.testBit_or]
          cases (setOf (lhl A.1)).testBit i <;> simp
        rw [e1, pc_setOf ho.1.2.2.2.2.2.2.2.2.1 (hall_lt8 ho.1)]
        rw [sumN_congr (g := fun _ => 1) (fun i hi => ?_), sumN_1]
        have hg := hallR ho.1 hi
        have : ∀ t : Fin 8, ¬ nI t.val = (-4 : Int32) := by decide
        rw [if_neg (this ⟨gt (lhl A.1) i, by omega⟩)]
      obtain ⟨r, x2, y2, k1, k2, k3⟩ := change_core ho hx hy (n := n) (s := setOf (lhl A.1) ||| 2 ^ b) (-4 : Int32) hn (lt_or_two hset hb) hstay
      refine ⟨r, x2, y2, ?_, ?_, k3⟩
      · rw [k1]; rfl
      · rw [k2]; rfl
theorem st_lend {n : Nat} (hn : 41000 ≤ n) : bs_lend Rl n := by
  rintro x y ⟨A, ho, hx, hy⟩ p1
  have hh := hall8 ho.1
  have hm := ho.1.1
  have hset := setOf_lt (m := lm A.1) ho.1.2.2.2.2.2.2.2.2.2
  have hs31 : setOf (lhl A.1) < 2 ^ 31 := p8_31 hm hset
  unfold fX9_lend fX10_lend
  rw [s_isBook hx.1 ho.1, isBl_32, m_isBook hy.1 ho.1, Option.bind_some, un2_c, Option.bind_some, un2_c]
  cases hB : isB (lm A.1) p1 with
  | false => exact ⟨-1, x, y, rfl, rfl, A, ho, hx, hy⟩
  | true =>
    obtain ⟨b, hb, rfl⟩ := isB_of (by omega) hB
    have nt : ¬ b2i true = 0 := by decide
    rw [if_neg nt, if_neg nt, s_hallSet hx.1 ho.1 (show 20 ≤ n by omega), m_standingSet hy.1 ho.1 (show 20 ≤ n by omega), Option.bind_some, un2_c, Option.bind_some, un2_c, s_has _ _ x hs31 (show b < 31 by omega), Option.bind_some, un2_c, wI_bit hs31 (show b < 31 by omega)]
    cases hbit : (setOf (lhl A.1)).testBit b with
    | false =>
      rw [if_pos (show b2i false = 0 from rfl), if_pos (show b2i false = 0 from rfl)]
      exact ⟨-2, x, y, rfl, rfl, A, ho, hx, hy⟩
    | true =>
      rw [if_neg nt, if_neg nt, m_standingSet hy.1 ho.1 (show 20 ≤ n by omega), Option.bind_some, un2_c, s_bit b x (show b < 31 by omega), Option.bind_some, un2_c, wI_sh (show b < 31 by omega), wI_andn]
      have hbm : b ∈ lhl A.1 := by rw [setOf_bit] at hbit; exact of_decide_eq_true hbit
      have hps := ps_mem.mp hbm
      have hstay : sumN (fun i => if nI (gt (lhl A.1) i) = nI b then 0 else 1) (lhl A.1).length = pc (setOf (lhl A.1) &&& andn (setOf (lhl A.1)) (2 ^ b)) := by
        have e1 : setOf (lhl A.1) &&& andn (setOf (lhl A.1)) (2 ^ b) = andn (setOf (lhl A.1)) (2 ^ b) := by
          apply Nat.eq_of_testBit_eq
          intro i
          rw [Nat.testBit_and, andn_bit]
          cases (setOf (lhl A.1)).testBit i <;> simp
        have e2 : andn (setOf (lhl A.1)) (2 ^ b) ||| 2 ^ b = setOf (lhl A.1) := by
          apply Nat.eq_of_testBit_eq
          intro i
          rw [Nat.testBit_or, andn_bit, Nat.testBit_two_pow]
          by_cases e : b = i
          · subst e; rw [hbit]; simp
          · simp [e]
        have e3 := (pc_or (u := andn (setOf (lhl A.1)) (2 ^ b)) (b := b) (andn_l8 (p8_256 hm hset)) (by omega) (by rw [andn_bit, Nat.testBit_two_pow_self]; simp)).1
        rw [e2, pc_setOf ho.1.2.2.2.2.2.2.2.2.1 (hall_lt8 ho.1)] at e3
        rw [e1, sumN_congr (g := fun i => if i = ps (lhl A.1) b then 0 else 1) (fun i hi => ?_), sumN_but, if_pos hps]
        · omega
        · have hg := hallR ho.1 hi
          have ee : (nI (gt (lhl A.1) i) = nI b) = (gt (lhl A.1) i = b) := wIeq (by omega) (by omega)
          have hiff : (gt (lhl A.1) i = b) ↔ (i = ps (lhl A.1) b) := by
            constructor
            · intro h; rw [← h, ps_at ho.1.2.2.2.2.2.2.2.2.1 hi]
            · intro h; rw [h]; exact ps_gt hps
          simp only [ee, hiff]
      obtain ⟨r, x2, y2, k1, k2, k3⟩ := change_core ho hx hy (n := n) (s := andn (setOf (lhl A.1)) (2 ^ b)) (nI b) hn (andn_lt _ hset) hstay
      refine ⟨r, x2, y2, ?_, ?_, k3⟩
      · rw [k1]; rfl
      · rw [k2]; rfl
