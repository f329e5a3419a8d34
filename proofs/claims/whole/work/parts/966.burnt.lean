/-! ===== step burnt, both ===== -/
theorem burnt_core {x y : bq_S} {A : AS} (ho : OKS A) (hx : CR x A) (hy : MR y A) {n a b s th : Nat} (k5 : Int32) (hn : 41000 ≤ n) (hab : a ≤ b) (hb : b < (lhl A.1).length) (hs : s < 2 ^ lm A.1) (h1 : 1 ≤ th) (ht : th ≤ 99) (hk : k5 = -1 ∨ ∃ k, a ≤ k ∧ k ≤ b ∧ k5 = nI k) : ∃ (r : Int32) (x2 y2 : bq_S), fX9_burnt_j75 n (nI a) (nI b) (nI s) (nI th) k5 x = some (r, x2) ∧ fX10_burnt_j69 n (nI a) (nI b) (nI s) (nI th) k5 y = some (r, y2) ∧ Rl x2 y2 := by
  have h8 := hall8 ho.1
  have hm := ho.1.1
  have h256 : s < 256 := p8_256 ho.1.1 hs
  obtain ⟨x1, k1, k2, k3, k4⟩ := s_askBurnt hx.1 hx.2.1 ho.1 (n := n) (nI th) hab hb hs (by omega)
  have hst : andn s (othS A.1 a b) < 2 ^ lm A.1 := andn_lt _ hs
  have es : nI b - nI a = nI (b - a) := pk_sub hab
  have hoth := m_oth hy.1 ho.1 (n := n) (nI s) (nI th) k5 (nI (b - a + 1)) (by omega) hab hb
  obtain ⟨v1, f1, g, y1, l1, l2, l3⟩ := m_burnt_out hy.1 ho.1 (n := n) (th := th) k5 hn hab hb ht hs
  obtain ⟨b1, b2, b3⟩ := l2
  subst b1
  generalize hZ : AQ (andn s (othS A.1 a b)) (fiS A.1 a b) (tch A.1) (WW A.1 (clB A.1 a b) (laS A.1 a b) (nI th)) (b - a + 1 - 1) = Z
  have hZ2 : Z = (arrL (b - a + 1) (bits (andn s (othS A.1 a b)))).filter (okF A.1 a b th) := by
    rw [← hZ, AQ_arr, show b - a + 1 - 1 + 1 = b - a + 1 by omega]; rfl
  have hsort : Z.Pairwise (fun r q => lxb r q = true) := by rw [hZ2]; exact (arr_sorted _ _ (bits_asc _)).filter _
  have hmem : ∀ r, r ∈ PB A.1 a b th s s ↔ r ∈ Z := fun r => by rw [hZ2]; exact PB_all ho.1 hs r
  have hlen : (PB A.1 a b th s s).length = Z.length := ((List.perm_ext_iff_of_nodup (PB_nodup s h256).1 (sorted_nodup hsort)).mpr hmem).length_eq
  have hZl : Z.length < 2 ^ 31 := by
    rw [← hZ]
    have h := AQ_len (andn s (othS A.1 a b)) (fiS A.1 a b) (tch A.1) (WW A.1 (clB A.1 a b) (laS A.1 a b) (nI th)) (b - a + 1 - 1)
    have h2 : 8 ^ (b - a + 1 - 1 + 1) ≤ 8 ^ 8 := Nat.pow_le_pow_right (by decide) (by omega)
    have h3 : (8 : Nat) ^ 8 < 2 ^ 31 := by decide
    omega
  have ez : (nI Z.length = (0 : Int32)) = (Z.length = 0) := nI_zero hZl
  have href : fX10_burnt_j69 n (nI a) (nI b) (nI s) (nI th) k5 y = if Z.length = 0 then some (-4, y1) else if k5 = -1 then some (nI Z.length, y1) else if ok_i (k5 - nI a) 8 = true then some (y1.1 11 (k5 - nI a).toNatClampNeg, y1) else none := by
    unfold fX10_burnt_j69
    simp only [es, nI_1, bd]
    rw [hoth, Option.bind_some]
    simp only [un3]
    rw [l1, Option.bind_some]
    simp only [un4, hlen, ez]
  have hMR : MR y1 A := MR_same (frB_same l3) hy
  have hn1 : ∀ k, a ≤ k → k ≤ b → ¬ nI k = (-1 : Int32) := fun k _ _ h => by
    have h2 := congrArg Int32.toInt h
    rw [nI_toInt (by omega)] at h2
    have : ((-1 : Int32)).toInt = -1 := by decide
    omega
  rcases hk with rfl | ⟨k, ka, kb, rfl⟩
  · obtain ⟨x2, j1, j2⟩ := c0_total (n := n) k2 ho.1 hst (fiS_lt _ _ _) (laS_lt _ _ _) (by omega) (by omega) (by omega)
    rw [hZ] at j1
    have hCR : CR x2 A := CR_same ⟨fun c hc => by rw [j2.1 c (by omega) (by omega), k3 c (by omega)], by rw [j2.1 22 (by omega) (by omega), k3 22 (by omega)], by rw [j2.1 23 (by omega) (by omega), k3 23 (by omega)], fun s hs => by rw [j2.1 _ (by omega) (by omega), k3 _ (by omega)], by rw [j2.2.2, k4]⟩ hx
    have hcls : fX9_burnt_j75 n (nI a) (nI b) (nI s) (nI th) (-1) x = if Z.length = 0 then some (-4, x2) else some (nI Z.length, x2) := by
      unfold fX9_burnt_j75
      simp only [k1, Option.bind_some, if_true, j1, un2, ez]
    rw [hcls, href]
    by_cases c : Z.length = 0
    · rw [if_pos c, if_pos c]
      exact ⟨-4, x2, y1, rfl, rfl, A, ho, hCR, hMR⟩
    · rw [if_neg c, if_neg c, if_pos rfl]
      exact ⟨nI Z.length, x2, y1, rfl, rfl, A, ho, hCR, hMR⟩
  · obtain ⟨x2, j1, j2, j3⟩ := c0_find (n := n) k2 ho.1 hst (fiS_lt _ _ _) (laS_lt _ _ _) (by omega) (by omega) (by omega) (i := 0) (by decide)
    rw [hZ] at j1 j3
    have j1' : fX0_find n (0 : Int32) 42 8 x1 = some (b2i Z[0]?.isSome, x2) := j1
    have hCR : CR x2 A := CR_same ⟨fun c hc => by rw [j2.1 c (by omega) (by omega) (by omega), k3 c (by omega)], by rw [j2.1 22 (by omega) (by omega) (by omega), k3 22 (by omega)], by rw [j2.1 23 (by omega) (by omega) (by omega), k3 23 (by omega)], fun s hs => by rw [j2.1 _ (by omega) (by omega) (by omega), k3 _ (by omega)], by rw [j2.2.2, k4]⟩ hx
    have ek : nI k - nI a = nI (k - a) := pk_sub ka
    have nk := hn1 k ka kb
    have hcls : fX9_burnt_j75 n (nI a) (nI b) (nI s) (nI th) (nI k) x = if Z[0]?.isSome = false then some (-4, x2) else some (x2.1 42 (k - a), x2) := by
      unfold fX9_burnt_j75
      simp only [k1, Option.bind_some, nk, if_false, j1', un2, b2i_0, ek, okN (show k - a < 8 by omega) (by decide), if_true, cl0 (show k - a < 2 ^ 31 by omega)]
    rw [hcls, href]
    simp only [nk, if_false, ek, okN (show k - a < 8 by omega) (by decide), if_true, cl0 (show k - a < 2 ^ 31 by omega)]
    cases Z with
    | nil => exact ⟨-4, x2, y1, rfl, rfl, A, ho, hCR, hMR⟩
    | cons r0 T =>
      have hrow := j3 r0 rfl
      have hr0 : r0.length = b - a + 1 := (b2 r0 ((hmem r0).mpr (by simp))).1
      rcases b3 with ⟨e, _⟩ | ⟨_, r1, hl1, hq1⟩
      · rw [e] at hlen; simp at hlen
      · have e1 : r1 = r0 := IsLx_eq hl1 (IsLx_head hsort) hmem
        subst e1
        refine ⟨nI (gt r1 (k - a)), x2, y1, ?_, ?_, A, ho, hCR, hMR⟩
        · rw [if_neg (by simp), hrow (k - a) (by omega)]
        · rw [if_neg (by simp), hq1 (k - a) (by omega)]
theorem st_burnt {n : Nat} (hn : 41000 ≤ n) : bs_burnt Rl n := by
  rintro x y ⟨A, ho, hx, hy⟩ p1 p2 p3 p4 p5
  have h8 := hall8 ho.1
  have h6 : y.1 0 6 = nI (lhl A.1).length := hy.1.2.2.1
  have z0 : (0 : Int64).toInt = 0 := rfl
  have z1 : (1 : Int64).toInt = 1 := by decide
  have z99 : (99 : Int64).toInt = 99 := by decide
  have e21 : (p2 < p1) = (p2.toInt < p1.toInt) := propext Int32.lt_iff_toInt_lt
  have e41 : (p4 < (1 : Int32)) = (p4.toInt < 1) := propext Int32.lt_iff_toInt_lt
  have e49 : ((99 : Int32) < p4) = (99 < p4.toInt) := propext Int32.lt_iff_toInt_lt
  have e51 : (p5 < p1) = (p5.toInt < p1.toInt) := propext Int32.lt_iff_toInt_lt
  have e52 : (p5 ≤ p2) = (p5.toInt ≤ p2.toInt) := propext Int32.le_iff_toInt_le
  have m1 := nI_m1 (m := (lhl A.1).length) (by omega)
  unfold fX9_burnt fX10_burnt
  simp only [s_isPlace hx.1 ho.1, isBl_32, Option.bind_some, un2, b2i_0, s_isSet hx.1 ho.1 p3, m_isSet hy.1 ho.1 p3, m_in, Int32.toInt_toInt64, h6, m1, z0, z1, z99, e21, e41, e49, e51, e52]
  unfold isB
  by_cases g1 : 0 ≤ p1.toInt ∧ p1.toInt ≤ p2.toInt ∧ p2.toInt < (lhl A.1).length
  · obtain ⟨g11, g12, g13⟩ := g1
    simp only [show (0 ≤ p1.toInt ∧ p1.toInt < ((lhl A.1).length : Int)) by omega, show (0 ≤ p2.toInt ∧ p2.toInt < ((lhl A.1).length : Int)) by omega, show ¬ p2.toInt < p1.toInt by omega, show (0 ≤ p1.toInt ∧ p1.toInt ≤ p2.toInt) by omega, show (0 ≤ p2.toInt ∧ p2.toInt ≤ ((lhl A.1).length : Int) - 1) by omega, and_self, decide_true, Bool.true_eq_false, if_false]
    cases hS : isS (lm A.1) p3 with
    | false => exact ⟨-1, x, y, by simp, by simp, A, ho, hx, hy⟩
    | true =>
      obtain ⟨s, hs, rfl⟩ := isS_of ho.1.1 hS
      by_cases g4 : 1 ≤ p4.toInt ∧ p4.toInt ≤ 99
      · simp only [Bool.true_eq_false, if_false, show ¬ p4.toInt < 1 by omega, show ¬ 99 < p4.toInt by omega, g4, and_self, decide_true]
        obtain ⟨b, hb, rfl⟩ := vp_in_of (x := p2) (n := (lhl A.1).length) (vp_in_iff.mpr (by omega)) (by omega)
        obtain ⟨a, ha, rfl⟩ := vp_in_of (x := p1) (n := (lhl A.1).length) (vp_in_iff.mpr (by omega)) (by omega)
        obtain ⟨t, ht, rfl⟩ := vp_in_of (x := p4) (n := 100) (vp_in_iff.mpr (by omega)) (by omega)
        rw [nI_toInt (by omega)] at g4 g11 g12 g13
        rw [nI_toInt (by omega)] at g12
        by_cases g5 : p5 = -1
        · rw [if_pos g5, if_pos g5]
          exact burnt_core ho hx hy p5 hn (by omega) hb hs (by omega) (by omega) (Or.inl g5)
        · rw [if_neg g5, if_neg g5]
          by_cases g6 : (nI a).toInt ≤ p5.toInt ∧ p5.toInt ≤ (nI b).toInt
          · rw [if_neg (by omega), if_pos g6.2, decide_eq_true g6, if_neg (by decide)]
            rw [nI_toInt (by omega), nI_toInt (by omega)] at g6
            obtain ⟨k, hk, rfl⟩ := vp_in_of (x := p5) (n := b + 1) (vp_in_iff.mpr (by omega)) (by omega)
            rw [nI_toInt (by omega)] at g6
            exact burnt_core ho hx hy (nI k) hn (by omega) hb hs (by omega) (by omega) (Or.inr ⟨k, by omega, by omega, rfl⟩)
          · rw [decide_eq_false g6, if_pos rfl]
            refine ⟨-1, x, y, ?_, rfl, A, ho, hx, hy⟩
            by_cases g7 : p5.toInt < (nI a).toInt
            · rw [if_pos g7]
            · rw [if_neg g7, if_neg (by omega)]
      · refine ⟨-1, x, y, ?_, by simp only [Bool.true_eq_false, if_false, decide_eq_false g4, if_true], A, ho, hx, hy⟩
        by_cases g7 : p4.toInt < 1
        · simp [g7]
        · have : 99 < p4.toInt := by omega
          simp [g7, this]
  · refine ⟨-1, x, y, ?_, ?_, A, ho, hx, hy⟩
    · by_cases c1 : 0 ≤ p1.toInt ∧ p1.toInt < ((lhl A.1).length : Int)
      · by_cases c2 : 0 ≤ p2.toInt ∧ p2.toInt < ((lhl A.1).length : Int)
        · have c3 : p2.toInt < p1.toInt := by omega
          simp [c1, c2, c3]
        · rw [decide_eq_false c2]
          simp [c1]
      · rw [decide_eq_false c1]
        simp
    · by_cases c1 : 0 ≤ p1.toInt ∧ p1.toInt ≤ p2.toInt
      · have c2 : ¬ (0 ≤ p2.toInt ∧ p2.toInt ≤ ((lhl A.1).length : Int) - 1) := by omega
        rw [decide_eq_false c2]
        simp [c1]
      · rw [decide_eq_false c1]
        simp
