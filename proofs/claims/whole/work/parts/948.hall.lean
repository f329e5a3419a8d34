/-! ===== hall: the step ===== -/
theorem Rl_lt {x y x1 y1 : bq_S} {A : AS} {L : AL} {t : List Nat} (ho : OKS A) (hx : CR x A) (hy : MR y A) (hoL : OKL L) (hok : t.length ≤ 60 ∧ ∀ c ∈ t, 32 ≤ c ∧ c ≤ 126) (cx : ∀ c, c = 0 ∨ (8 ≤ c ∧ c ≤ 14) ∨ (34 ≤ c ∧ c < 42) → x1.1 c = x.1 c) (cx2 : x1.2 = x.2) (cL : CL x1 1 L) (cN : NR x1 1 L) (cT : CT x1 t) (cy0 : y1.1 0 21 = y.1 0 21) (cy : ∀ c, 13 ≤ c → y1.1 c = y.1 c) (cy2 : y1.2 16 = y.2 16) (mL : ML y1 L) (mT : MT y1 t) : Rl x1 y1 := by
  obtain ⟨a1, a2, a3, a4, a5⟩ := hx
  obtain ⟨b1, b2, b3, b4⟩ := hy
  refine ⟨(L, A.2.1, t, A.2.2.2), ⟨hoL, ho.2.1, hok, ho.2.2.2⟩, ⟨cL, cN, ?_, cT, fun s hs => by rw [cx _ (by omega), cx2]; exact a5 s hs⟩, ⟨mL, ?_, mT, fun s hs => by rw [cy 14 (by omega), cy 15 (by omega), cy2]; exact b4 s hs⟩⟩
  · show CI x1 A.2.1
    revert a3
    generalize A.2.1 = o
    intro c3
    cases o with
    | none => show x1.1 0 11 = 0; rw [cx 0 (by omega)]; exact c3
    | some L => exact ⟨by rw [cx 0 (by omega)]; exact c3.1, CL_of (fun c h1 h3 => cx c (by omega)) c3.2⟩
  · show MIo y1 A.2.1
    revert b2
    generalize A.2.1 = o
    intro c3
    cases o with
    | none => show y1.1 0 21 = 0; rw [cy0]; exact c3
    | some L =>
      refine ⟨by rw [cy0]; exact c3.1, ?_⟩
      unfold MI; rw [cy 13 (by omega)]; exact c3.2
theorem s_readHall {m n : Nat} {t : List Nat} {x : bq_S} (ht : tpOK t) (hm : m ≤ 8) (hn : 70 ≤ n) (hc : CT x t) : ∃ x1, fX7_readHall n (nI m) 42 8 x = some (if (hF m t 8 0 []).2 < t.length then -20 - nI (hF m t 8 0 []).2 else nI (hF m t 8 0 []).1.length, x1) ∧ CT x1 t ∧ CRow x1 42 (hF m t 8 0 []).1 ∧ frH x x1 := by
  have h60 := ht.1
  obtain ⟨u, v, x1, p1, k1, k2, k3, k4, k5, k6⟩ := s_readHall_loop ht hm hn 8 n 0 [] (bq_sI x 22 3 (nI 0)) rfl (by omega) (by omega) ⟨List.nodup_nil, fun b hb => absurd hb (by simp)⟩ (CN_to 0 hc) (fun i hi => absurd hi (by simp))
  obtain ⟨x2, j1, j2, j3⟩ := s_look ht k3 k2 hn
  rw [k4] at j1 j2
  have j22 : x2.1 22 3 = nI (hF m t 8 0 []).2 := j2.2
  refine ⟨x2, ?_, j2.1, fun i hi => by rw [j3.1 42 (by decide)]; exact k5 i hi, ⟨fun c a b => ?_, fun k hk => ?_, ?_⟩⟩
  · unfold fX7_readHall
    have z0 : (0 : Int32) = nI 0 := rfl
    have k1' : wh n (fX7_readHall_b13 n (nI m) 42 8) ((0 : Int32), (0 : Int32), (0 : Int32), bq_sI x 22 3 (nI 0)) = some (u, nI (hF m t 8 0 []).1.length, v, x1) := k1
    rw [← z0] at k1'
    simp only [bd, k1', Option.bind_some, un4]
    unfold fX7_readHall_j85
    simp only [j1, Option.bind_some, un2, j22]
    by_cases c : (hF m t 8 0 []).2 < t.length
    · have hr := ht.2 _ (gt_mem c)
      have e1 : ¬ nI (gt t (hF m t 8 0 []).2) = (-1 : Int32) := fun q => by
        have := congrArg Int32.toInt q
        rw [nI_toInt (by omega)] at this
        have e2 : (-1 : Int32).toInt = -1 := rfl
        rw [e2] at this; omega
      simp only [c, if_true, e1, if_false]
    · simp only [c, if_false, if_true]
  · rw [j3.1 c a, k6.1 c a b, sI_n _ _ _ a]
  · rw [j3.2.1 k hk, k6.2.1 k hk, sI_s, pk_un hk]
  · rw [j3.2.2, k6.2.2]; rfl
def frV (y y1 : bq_S) : Prop := (∀ c, c ≠ 0 → c ≠ 7 → y1.1 c = y.1 c) ∧ (∀ k, k ≠ 10 → k ≠ 11 → y1.1 0 k = y.1 0 k) ∧ y1.2 = y.2
theorem m_hall_loop {m n : Nat} {t : List Nat} (ht : tpOK t) (hm : m ≤ 8) (hn : 70 ≤ n) : ∀ (k f p : Nat) (r : List Nat) (y : bq_S), r.length + k = 8 → k + 1 < f → p ≤ t.length → rowOK m r → MN y t p → y.1 0 11 = 0 → y.1 0 0 = nI m → CRow y 7 r → ∃ (u : Int32) (y1 : bq_S), wh f (fX10_hall_b14 n) (nI r.length, nI (setOf r), y) = some (nI (hF m t k p r).1.length, u, y1) ∧ MN y1 t (hF m t k p r).2 ∧ y1.1 0 11 = b2i (decide ((hF m t k p r).2 < t.length)) ∧ CRow y1 7 (hF m t k p r).1 ∧ frV y y1 := by
  have h60 := ht.1
  intro k
  induction k with
  | zero =>
    intro f p r y h1 h2 h3 h4 h5 h6 h7 h8
    obtain ⟨f, rfl⟩ : ∃ g, f = g + 1 := ⟨f - 1, by omega⟩
    obtain ⟨f, rfl⟩ : ∃ g, f = g + 1 := ⟨f - 1, by omega⟩
    have hF0 : hF m t 0 p r = (r, skp t p) := rfl
    rw [hF0]
    obtain ⟨y1, j1, j2, j3⟩ := m_here ht h3 h5 hn
    have hrow : CRow y1 7 r := fun i hi => by rw [j3.1 7 (by decide)]; exact h8 i hi
    have hw : y1.1 0 11 = 0 := by rw [j3.2.1 11 (by decide)]; exact h6
    by_cases c : skp t p < t.length
    · have hr := ht.2 _ (gt_mem c)
      have e0 : ¬ nI (gt t (skp t p)) = (0 : Int32) := by rw [nI_zero (by omega)]; omega
      have e8 : nI r.length = (8 : Int32) := by rw [show r.length = 8 by omega]; rfl
      have hb : fX10_hall_b14 n (nI r.length, nI (setOf r), y) = some (.inl (nI r.length, nI (setOf r), bq_sI y1 0 11 1)) := by
        unfold fX10_hall_b14
        simp only [un3, h6, if_true, j1, Option.bind_some, un2, c, e0, if_false, e8]
        unfold fX10_hall_j50
        simp only [hw, if_true]
        unfold fX10_hall_j70
        have e1 : ¬ (bq_sI y1 0 11 (1 : Int32)).1 0 11 = 0 := by rw [sI_s, pk_us]; decide
        simp only [or_true, if_true, bd, e1, if_false]
      refine ⟨nI (setOf r), bq_sI y1 0 11 1, ?_, ⟨⟨?_, fun i hi => ?_⟩, ?_⟩, ?_, fun i hi => ?_, ⟨fun c a b => ?_, fun k a b => ?_, ?_⟩⟩
      · rw [wh_c hb]
        apply wh_e
        unfold fX10_hall_b14
        have e1 : ¬ (bq_sI y1 0 11 (1 : Int32)).1 0 11 = 0 := by rw [sI_s, pk_us]; decide
        simp only [un3, e1, if_false]
      · rw [sI_s, pk_un (by decide)]; exact j2.1.1
      · rw [sI_n _ _ _ (by decide)]; exact j2.1.2 i hi
      · rw [sI_s, pk_un (by decide)]; exact j2.2
      · rw [sI_s, pk_us]; simp [c, b2i]
      · rw [sI_n _ _ _ (by decide)]; exact hrow i hi
      · rw [sI_n _ _ _ a]; exact j3.1 c a
      · rw [sI_s, pk_un b]; exact j3.2.1 k a
      · exact j3.2.2
    · refine ⟨nI (setOf r), y1, wh_e ?_, j2, by rw [hw]; simp [c, b2i], hrow, ⟨fun c a _ => j3.1 c a, fun k a _ => j3.2.1 k a, j3.2.2⟩⟩
      unfold fX10_hall_b14
      simp only [un3, h6, if_true, j1, Option.bind_some, un2, c, if_false]
  | succ k ih =>
    intro f p r y h1 h2 h3 h4 h5 h6 h7 h8
    obtain ⟨f, rfl⟩ : ∃ g, f = g + 1 := ⟨f - 1, by omega⟩
    obtain ⟨f, rfl⟩ : ∃ g, f = g + 1 := ⟨f - 1, by omega⟩
    obtain ⟨y1, j1, j2, j3⟩ := m_here ht h3 h5 hn
    have hq := skp_le h3
    have hrow : CRow y1 7 r := fun i hi => by rw [j3.1 7 (by decide)]; exact h8 i hi
    have hw : y1.1 0 11 = 0 := by rw [j3.2.1 11 (by decide)]; exact h6
    have hm1 : y1.1 0 0 = nI m := by rw [j3.2.1 0 (by decide)]; exact h7
    have hsl : setOf r < 2 ^ 31 := p8_31 hm (setOf_lt h4.2)
    rw [hF_s]
    by_cases c : skp t p < t.length
    · have hr := ht.2 _ (gt_mem c)
      have e0 : ¬ nI (gt t (skp t p)) = (0 : Int32) := by rw [nI_zero (by omega)]; omega
      have e8' : (nI r.length = (8 : Int32)) = (r.length = 8) := wIeq (b := 8) (by omega) (by decide)
      have e8 : ¬ nI r.length = (8 : Int32) := by rw [e8']; omega
      obtain ⟨y2, k1, k2, k3, k4⟩ := m_digit (lo := 0) (hi := m) ht hq j2 hw (by omega) (by omega) hsl hn
      rw [skp_skp] at k1 k2 k3
      rw [hcond_dg] at k2 k3
      simp only [c, if_true] at k1
      have hb0 : fX10_hall_b14 n (nI r.length, nI (setOf r), y) = fX10_hall_j50 n (nI r.length) (nI (setOf r)) (nI (gt t (skp t p)) - 48) y2 := by
        unfold fX10_hall_b14
        have k1' : fX10_digit n 0 (nI m - 1) (nI (setOf r)) y1 = some (nI (gt t (skp t p)) - 48, y2) := k1
        simp only [un3, h6, if_true, j1, Option.bind_some, un2, c, e0, if_false, e8, hm1, k1']
      have hrow2 : CRow y2 7 r := fun i hi => by rw [k4.1 7 (by decide)]; exact hrow i hi
      cases hc : hcond m t (skp t p) r with
      | false =>
        rw [if_neg (by decide)]
        rw [hc] at k2 k3
        rw [if_neg (by decide)] at k3
        have e1 : ¬ y2.1 0 11 = 0 := by rw [k2]; decide
        have hb : fX10_hall_b14 n (nI r.length, nI (setOf r), y) = some (.inl (nI r.length, nI (setOf r), bq_sI y2 0 11 1)) := by
          rw [hb0]
          unfold fX10_hall_j50
          simp only [e1, if_false]
          unfold fX10_hall_j70
          have e2 : ¬ (bq_sI y2 0 11 (1 : Int32)).1 0 11 = 0 := by rw [sI_s, pk_us]; decide
          simp only [or_true, if_true, bd, e2, if_false]
        refine ⟨nI (setOf r), bq_sI y2 0 11 1, ?_, ⟨⟨?_, fun i hi => ?_⟩, ?_⟩, ?_, fun i hi => ?_, ⟨fun c a b => ?_, fun k a b => ?_, ?_⟩⟩
        · rw [wh_c hb]
          apply wh_e
          unfold fX10_hall_b14
          have e1 : ¬ (bq_sI y2 0 11 (1 : Int32)).1 0 11 = 0 := by rw [sI_s, pk_us]; decide
          simp only [un3, e1, if_false]
        · rw [sI_s, pk_un (by decide)]; exact k3.1.1
        · rw [sI_n _ _ _ (by decide)]; exact k3.1.2 i hi
        · rw [sI_s, pk_un (by decide)]; exact k3.2
        · rw [sI_s, pk_us]; simp [c, b2i]
        · rw [sI_n _ _ _ (by decide)]; exact hrow2 i hi
        · rw [sI_n _ _ _ a, k4.1 c a]; exact j3.1 c a
        · rw [sI_s, pk_un b, k4.2.1 k a b]; exact j3.2.1 k a
        · show y2.2 = y.2
          rw [k4.2.2]; exact j3.2.2
      | true =>
        have hcc := of_decide_eq_true hc
        rw [if_pos rfl]
        rw [hc] at k2 k3
        rw [if_pos rfl] at k3
        have d3 : nI (gt t (skp t p)) - 48 = nI (gt t (skp t p) - 48) := by
          show nI (gt t (skp t p)) - nI 48 = _
          exact pk_sub (by omega)
        have e1 : y2.1 0 11 = 0 := k2
        have hb : fX10_hall_b14 n (nI r.length, nI (setOf r), y) = some (.inl (nI (r ++ [gt t (skp t p) - 48]).length, nI (setOf (r ++ [gt t (skp t p) - 48])), bq_sI (bq_sI y2 0 11 0) 7 r.length (nI (gt t (skp t p) - 48)))) := by
          rw [hb0, d3]
          unfold fX10_hall_j50
          simp only [e1, if_true, e8, if_false]
          unfold fX10_hall_j70
          have e2 : (bq_sI y2 0 11 (0 : Int32)).1 0 11 = 0 := by rw [sI_s, pk_us]
          simp only [true_or, if_true, bd, e2, okN (show r.length < 8 by omega) (by decide), cl0 (show r.length < 2 ^ 31 by omega), nI_1, wI_sh (show gt t (skp t p) - 48 < 31 by omega), wI_or, setOf_app, List.length_append, List.length_cons, List.length_nil, Nat.zero_add]
        have hfr : frV y (bq_sI (bq_sI y2 0 11 0) 7 r.length (nI (gt t (skp t p) - 48))) := ⟨fun c a b => by rw [sI_n _ _ _ b, sI_n _ _ _ a, k4.1 c a]; exact j3.1 c a, fun k a b => by rw [sI_n _ _ _ (by decide), sI_s, pk_un b, k4.2.1 k a b]; exact j3.2.1 k a, by show y2.2 = y.2; rw [k4.2.2]; exact j3.2.2⟩
        obtain ⟨u, y3, l1, l2, l3, l4, l5⟩ := ih (f + 1) (skp t p + 1) (r ++ [gt t (skp t p) - 48]) (bq_sI (bq_sI y2 0 11 0) 7 r.length (nI (gt t (skp t p) - 48))) (by simp; omega) (by omega) (by omega) (rowOK_app h4 (by omega) hcc.2.2.2)
          ⟨⟨by rw [sI_n _ _ _ (by decide), sI_s, pk_un (by decide)]; exact k3.1.1, fun i hi => by rw [sI_n _ _ _ (by decide), sI_n _ _ _ (by decide)]; exact k3.1.2 i hi⟩, by rw [sI_n _ _ _ (by decide), sI_s, pk_un (by decide)]; exact k3.2⟩ (by rw [sI_n _ _ _ (by decide), sI_s, pk_us]) (by rw [hfr.2.1 0 (by decide) (by decide)]; exact h7) (CRow_app (fun i hi => by rw [sI_n _ _ _ (by decide)]; exact hrow2 i hi))
        exact ⟨u, y3, by rw [wh_c hb]; exact l1, l2, l3, l4, ⟨fun c a b => (l5.1 c a b).trans (hfr.1 c a b), fun k a b => (l5.2.1 k a b).trans (hfr.2.1 k a b), l5.2.2.trans hfr.2.2⟩⟩
    · have hc : ¬ hcond m t (skp t p) r = true := fun q => c (of_decide_eq_true q).1
      rw [if_neg hc]
      refine ⟨nI (setOf r), y1, wh_e ?_, j2, by rw [hw]; simp [c, b2i], hrow, ⟨fun c a _ => j3.1 c a, fun k a _ => j3.2.1 k a, j3.2.2⟩⟩
      unfold fX10_hall_b14
      simp only [un3, h6, if_true, j1, Option.bind_some, un2, c, if_false]
theorem m_hall_copy {y : bq_S} {r : List Nat} {n : Nat} (h : CRow y 7 r) (h8 : r.length ≤ 8) (hn : 20 ≤ n) : ∃ y1, wh n (fX10_hall_b126 n (nI r.length)) ((0 : Int32), y) = some (nI r.length, y1) ∧ CRow y1 5 r ∧ (∀ c, c ≠ 5 → y1.1 c = y.1 c) ∧ y1.2 = y.2 := by
  obtain ⟨z, hz, h1, h2, h3, h4⟩ := wh_for (b := fX10_hall_b126 n (nI r.length)) (fun i z => z.1 = nI i ∧ (∀ j, j < i → z.2.1 5 j = nI (gt r j)) ∧ (∀ c, c ≠ 5 → z.2.1 c = y.1 c) ∧ z.2.2 = y.2) (fun z => z.1 = nI r.length ∧ CRow z.2 5 r ∧ (∀ c, c ≠ 5 → z.2.1 c = y.1 c) ∧ z.2.2 = y.2) r.length (by
    rintro i ⟨v, z⟩ hi ⟨h0, h1, h2, h3⟩
    dsimp only at h0 h1 h2 h3
    subst h0
    have e7 : z.1 7 i = nI (gt r i) := by rw [h2 7 (by decide)]; exact h i hi
    refine Or.inl ⟨(nI (i + 1), bq_sI z 5 i (nI (gt r i))), ?_, rfl, fun j hj => ?_, fun c hc => ?_, h3⟩
    · unfold fX10_hall_b126
      have n1 : ¬ r.length ≤ i := by omega
      simp only [un2, wIle (show r.length < 2 ^ 31 by omega) (show i < 2 ^ 31 by omega), n1, if_false, okN (show i < 8 by omega) (by decide), if_true, bd, nI_1, cl0 (show i < 2 ^ 31 by omega), e7]
    · dsimp only; rw [sI_s]
      by_cases e : j = i
      · subst e; exact pk_us
      · rw [pk_un e]; exact h1 j (by omega)
    · dsimp only; rw [sI_n _ _ _ hc]; exact h2 c hc) (by
    rintro ⟨v, z⟩ ⟨h0, h1, h2, h3⟩
    dsimp only at h0 h1 h2 h3
    subst h0
    refine ⟨(nI r.length, z), ?_, rfl, h1, h2, h3⟩
    unfold fX10_hall_b126
    simp only [un2, wIle (show r.length < 2 ^ 31 by omega) (show r.length < 2 ^ 31 by omega), Nat.le_refl, if_true]) n 0 ((0 : Int32), y) (by omega) ⟨rfl, fun j hj => by omega, fun _ _ => rfl, rfl⟩ (by omega)
  obtain ⟨v, z⟩ := z
  dsimp only at h1 h2 h3 h4
  subst h1
  exact ⟨z, hz, h2, h3, h4⟩
theorem st_hall {n : Nat} (hn : 70 ≤ n) : bs_hall Rl n := by
  rintro x y ⟨A, ho, hx, hy⟩
  have ht : tpOK A.2.2.1 := ho.2.2.1
  have h60 := ht.1
  have hm : lm A.1 ≤ 8 := ho.1.1
  obtain ⟨x1, a1, a2, a3, a4⟩ := s_readHall ht hm hn hx.2.2.2.1
  have hok := hF_ok (m := lm A.1) (t := A.2.2.1) (k := 8) (p := 0) (r := []) (by omega) ⟨List.nodup_nil, fun b hb => absurd hb (by simp)⟩
  have hl8 : (hF (lm A.1) A.2.2.1 8 0 []).1.length ≤ 8 := by simpa using hok.2.2
  have mt := hy.2.2.1
  obtain ⟨u, y1, b1, b2, b3, b4, b5⟩ := m_hall_loop ht hm hn 8 n 0 [] (bq_sI (bq_sI y 0 10 (nI 0)) 0 11 0) rfl (by omega) (by omega) ⟨List.nodup_nil, fun b hb => absurd hb (by simp)⟩ ⟨⟨by rw [sI_s, pk_un (by decide), sI_s, pk_un (by decide)]; exact mt.1, fun i hi => by rw [sI_n _ _ _ (by decide), sI_n _ _ _ (by decide)]; exact mt.2 i hi⟩, by rw [sI_s, pk_un (by decide), sI_s, pk_us]⟩ (by rw [sI_s, pk_us]) (by rw [sI_s, pk_un (by decide), sI_s, pk_un (by decide)]; exact hy.1.1) (fun i hi => absurd hi (by simp))
  have b1' : wh n (fX10_hall_b14 n) ((0 : Int32), (0 : Int32), (bq_sI (bq_sI y 0 10 0) 0 11 0)) = some (nI (hF (lm A.1) A.2.2.1 8 0 []).1.length, u, y1) := b1
  have b5' : frV y y1 := ⟨fun c a b => by rw [b5.1 c a b, sI_n _ _ _ a, sI_n _ _ _ a], fun k a b => by rw [b5.2.1 k a b, sI_s, pk_un b, sI_s, pk_un a], by rw [b5.2.2]; rfl⟩
  have hx0 : x.1 1 0 = nI (lm A.1) := hx.1.1
  generalize hF (lm A.1) A.2.2.1 8 0 [] = g at *
  unfold fX9_hall fX10_hall
  simp only [hx0, a1, b1', Option.bind_some, un2, un3, bd]
  unfold fX7_clear fX10_hall_j99
  have b22 : y1.1 0 10 = nI g.2 := b2.2
  have e11 : (bq_sI y1 0 9 (0 : Int32)).1 0 11 = b2i (decide (g.2 < A.2.2.1.length)) := by rw [sI_s, pk_un (by decide)]; exact b3
  have e10 : (bq_sI y1 0 9 (0 : Int32)).1 0 10 = nI g.2 := by rw [sI_s, pk_un (by decide)]; exact b22
  simp only [bd, Option.bind_some, e11, e10, b2i_0]
  by_cases c : g.2 < A.2.2.1.length
  · have e20 : ((-20 : Int32) - nI g.2) < 0 := by
      rw [Int32.lt_iff_toInt_lt]
      have h1 : (-20 : Int32) - nI g.2 = -(nI (20 + g.2)) := by
        rw [← nI_add, Int32.neg_add]
        rfl
      rw [h1, Int32.toInt_neg, nI_toInt (by omega)]
      have : (0 : Int32).toInt = 0 := rfl
      rw [this, Int.bmod_eq_of_le] <;> omega
    refine ⟨-20 - nI g.2, bq_sI x1 22 2 0, bq_sI y1 0 9 0, by simp [c, e20], by simp [c], ?_⟩
    refine Rl_lt (L := A.1) (t := []) ho hx hy ho.1 ⟨by simp, fun c hc => absurd hc (by simp)⟩ (fun c hc => ?_) ?_ (CL_of (fun c h1 h2 => ?_) hx.1) (fun i hi => ?_) ⟨?_, fun i hi => absurd hi (by simp)⟩ ?_ (fun c hc => ?_) ?_ ?_ ⟨?_, fun i hi => absurd hi (by simp)⟩
    · rw [sI_n _ _ _ (by omega)]; exact a4.1 c (by omega) (by omega)
    · exact a4.2.2
    · rw [sI_n _ _ _ (by omega)]; exact a4.1 c (by omega) (by omega)
    · rw [sI_n _ _ _ (by omega), a4.1 _ (by omega) (by omega)]; exact hx.2.1 i hi
    · rw [sI_s, pk_us]; rfl
    · rw [sI_s, pk_un (by decide)]; exact b5'.2.1 21 (by decide) (by decide)
    · rw [sI_n _ _ _ (by omega)]; exact b5'.1 c (by omega) (by omega)
    · show y1.2 16 = _
      rw [b5'.2.2]
    · obtain ⟨m1, m2, m3, m4, m5, m6, m7, m8, m9⟩ := hy.1
      refine ⟨?_, ?_, ?_, fun i hi => ?_, fun i hi => ?_, fun i hi => ?_, ?_, ?_, fun i hi => ?_⟩
      · rw [sI_s, pk_un (by decide), b5'.2.1 _ (by decide) (by decide)]; exact m1
      · rw [sI_s, pk_un (by decide), b5'.2.1 _ (by decide) (by decide)]; exact m2
      · rw [sI_s, pk_un (by decide), b5'.2.1 _ (by decide) (by decide)]; exact m3
      · rw [sI_n _ _ _ (by decide), b5'.1 _ (by decide) (by decide)]; exact m4 i hi
      · rw [sI_n _ _ _ (by decide), b5'.1 _ (by decide) (by decide)]; exact m5 i hi
      · rw [sI_n _ _ _ (by decide), b5'.1 _ (by decide) (by decide)]; exact m6 i hi
      · rw [sI_n _ _ _ (by decide), b5'.1 _ (by decide) (by decide)]; exact m7
      · rw [sI_n _ _ _ (by decide), b5'.1 _ (by decide) (by decide)]; exact m8
      · rw [sI_n _ _ _ (by decide), b5'.1 _ (by decide) (by decide)]; exact m9 i hi
    · rw [sI_s, pk_us]; rfl
  · have e20 : ¬ nI g.1.length < 0 := nI_pos (by omega)
    obtain ⟨x2, c1, c2, c3, c4, c5, c6⟩ := s_takeHall (x := bq_sI x1 22 2 0) (q0 := 1) (q1 := 42) (k := g.1.length) hl8 (by decide)
    obtain ⟨y2, d1, d2, d3, d4⟩ := m_hall_copy (y := bq_sI (bq_sI y1 0 9 0) 0 6 (nI g.1.length)) (n := n) (fun i hi => by rw [sI_n _ _ _ (by decide), sI_n _ _ _ (by decide)]; exact b4 i hi) hl8 (by omega)
    refine ⟨nI g.1.length, x2, y2, ?_, ?_, ?_⟩
    · simp only [c, if_false, e20, c1, Option.bind_some]
    · simp only [c, decide_false, if_true, d1, Option.bind_some, un2]
    have fx : ∀ c, c ≠ 1 → c ≠ 6 → c ≠ 22 → c ≠ 42 → x2.1 c = x.1 c := fun c h1 h2 h3 h4 => by
      rw [c3 c h1 h2, sI_n _ _ _ h3]; exact a4.1 c h3 h4
    have fx1 : ∀ i, i ≠ 2 → x2.1 1 i = x.1 1 i := fun i hi => by
      rw [c4 i hi, sI_n _ _ _ (by decide), a4.1 1 (by decide) (by decide)]
    have fy : ∀ c, c ≠ 0 → c ≠ 5 → c ≠ 7 → y2.1 c = y.1 c := fun c h1 h2 h3 => by
      rw [d3 c h2, sI_n _ _ _ h1, sI_n _ _ _ h1]; exact b5'.1 c h1 h3
    have fy0 : ∀ k, k ≠ 6 → k ≠ 9 → k ≠ 10 → k ≠ 11 → y2.1 0 k = y.1 0 k := fun k h1 h2 h3 h4 => by
      rw [d3 0 (by decide), sI_s, pk_un h1, sI_s, pk_un h2]; exact b5'.2.1 k h3 h4
    refine Rl_lt (L := (lm A.1, lpr A.1, lth A.1, lqu A.1, lha A.1, lri A.1, lt3 A.1, g.1)) (t := []) ho hx hy ?_ ⟨by simp, fun c hc => absurd hc (by simp)⟩ (fun c hc => fx c (by omega) (by omega) (by omega) (by omega)) ?_ ?_ (fun i hi => ?_) ⟨?_, fun i hi => absurd hi (by simp)⟩ (fy0 21 (by decide) (by decide) (by decide) (by decide)) (fun c hc => fy c (by omega) (by omega) (by omega)) ?_ ?_ ⟨?_, fun i hi => absurd hi (by simp)⟩
    · obtain ⟨o1, o2, o3, o4, o5, o6, o7, o8, o9⟩ := ho.1
      exact ⟨o1, o2, o3, o4, o5, o6, o7, o8, hok.1⟩
    · rw [c2]; exact a4.2.2
    · obtain ⟨h1, h2, h3, h4, h5, h6, h7, h8, h9⟩ := hx.1
      refine ⟨?_, ?_, c5, fun i hi => ?_, fun i hi => ?_, fun i hi => ?_, ?_, ?_, fun i hi => ?_⟩
      · rw [fx1 0 (by decide)]; exact h1
      · rw [fx1 1 (by decide)]; exact h2
      · rw [fx _ (by decide) (by decide) (by decide) (by decide)]; exact h4 i hi
      · rw [fx _ (by decide) (by decide) (by decide) (by decide)]; exact h5 i hi
      · rw [fx _ (by decide) (by decide) (by decide) (by decide)]; exact h6 i hi
      · rw [fx _ (by decide) (by decide) (by decide) (by decide)]; exact h7
      · rw [fx _ (by decide) (by decide) (by decide) (by decide)]; exact h8
      · rw [c6 i hi, sI_n _ _ _ (by decide)]; exact a3 i hi
    · rw [fx _ (by decide) (by decide) (by decide) (by decide)]; exact hx.2.1 i hi
    · rw [c3 22 (by decide) (by decide), sI_s, pk_us]; rfl
    · rw [d4]
      show y1.2 16 = _
      rw [b5'.2.2]
    · obtain ⟨m1, m2, m3, m4, m5, m6, m7, m8, m9⟩ := hy.1
      refine ⟨?_, ?_, ?_, fun i hi => ?_, fun i hi => ?_, fun i hi => ?_, ?_, ?_, fun i hi => ?_⟩
      · rw [fy0 _ (by decide) (by decide) (by decide) (by decide)]; exact m1
      · rw [fy0 _ (by decide) (by decide) (by decide) (by decide)]; exact m2
      · rw [d3 0 (by decide), sI_s, pk_us]; rfl
      · rw [fy _ (by decide) (by decide) (by decide)]; exact m4 i hi
      · rw [fy _ (by decide) (by decide) (by decide)]; exact m5 i hi
      · rw [fy _ (by decide) (by decide) (by decide)]; exact m6 i hi
      · rw [fy _ (by decide) (by decide) (by decide)]; exact m7
      · rw [fy _ (by decide) (by decide) (by decide)]; exact m8
      · exact d2 i hi
    · rw [d3 0 (by decide), sI_s, pk_un (by decide), sI_s, pk_us]; rfl
