/-! ===== the reference's first and next ===== -/
theorem am1 (a : Int32) : a + (-1 : Int32) = a - 1 := by rw [Int32.sub_eq_add_neg]
theorem gt_mid (p : List Nat) (a : Nat) (q : List Nat) (v : Nat) : gt (p ++ a :: q) v = if v < p.length then gt p v else if v = p.length then a else gt q (v - p.length - 1) := by
  by_cases h : v < p.length
  · rw [if_pos h, gt_app2 h]
  · rw [if_neg h]
    have e : v = p.length + (v - p.length) := by omega
    by_cases h2 : v = p.length
    · rw [if_pos h2, h2]
      have := gt_app3 (a := p) (b := a :: q) (i := 0)
      rw [Nat.add_zero] at this
      rw [this]; rfl
    · rw [if_neg h2]
      conv => lhs; rw [e]
      rw [gt_app3]
      obtain ⟨u, hu⟩ : ∃ u, v - p.length = u + 1 := ⟨v - p.length - 1, by omega⟩
      rw [hu]; rfl
theorem gt_rev {l : List Nat} {v : Nat} (h : v < l.length) : gt l.reverse v = gt l (l.length - 1 - v) := by
  rw [gt_get (by simpa using h), gt_get (by omega), List.getElem_reverse]
theorem gt_pw {l : List Nat} (h : l.Pairwise (fun i j => j < i)) {u v : Nat} (h1 : u < v) (h2 : v < l.length) : gt l v < gt l u := by
  rw [gt_get h2, gt_get (by omega)]
  exact (List.pairwise_iff_getElem.mp h) u v (by omega) h2 h1
theorem m_first {y : bq_S} {s n : Nat} (hs : s < 256) (hn : 20 ≤ n) : ∃ y1, fX10_first n (nI s) y = some y1 ∧ MRow y1 (bits s) ∧ rowM y y1 := by
  have hl : ∀ i, i ≤ 8 → ((List.range i).filter s.testBit).length ≤ i := fun i _ => by
    have := List.length_filter_le s.testBit (List.range i)
    simpa using this
  obtain ⟨z, hz, h1, h2⟩ := wh_for (b := fX10_first_b7 n (nI s)) (fun i z => z.1 = nI i ∧ MRow z.2 ((List.range i).filter s.testBit) ∧ rowM y z.2) (fun z => MRow z.2 (bits s) ∧ rowM y z.2) 8 (by
    rintro i ⟨v, z⟩ hi ⟨h0, h1, h2⟩
    dsimp only at h0 h1 h2
    subst h0
    have n8 : ¬ 8 ≤ i := by omega
    have hle := hl i (by omega)
    have hb : ((nI s >>> (nI i &&& 31)) &&& (1 : Int32) = (1 : Int32)) = (s.testBit i = true) := by rw [wI_bit (by omega) (by omega), b2i_1]
    by_cases c : s.testBit i = true
    · refine Or.inl ⟨(nI (i + 1), bq_sI (bq_sI z 10 ((List.range i).filter s.testBit).length (nI i)) 0 17 (nI (((List.range i).filter s.testBit).length + 1))), ?_, rfl, ?_, ?_⟩
      · unfold fX10_first_b7
        have e17 : (bq_sI z 10 ((List.range i).filter s.testBit).length (nI i)).1 0 17 = nI ((List.range i).filter s.testBit).length := by rw [sI_n _ _ _ (by decide)]; exact h1.1
        simp only [un2, le8 (show i < 2 ^ 31 by omega), n8, if_false, hb, c, if_true, h1.1, okN (show ((List.range i).filter s.testBit).length < 8 by omega) (by decide), bd, cl0 (show ((List.range i).filter s.testBit).length < 2 ^ 31 by omega), e17, nI_1]
      · dsimp only
        rw [List.range_succ, List.filter_append]
        have : [i].filter s.testBit = [i] := by simp [c]
        rw [this]
        exact MRow_app h1
      · dsimp only
        refine rowM_tr h2 ⟨fun c a b => by rw [sI_n _ _ _ a, sI_n _ _ _ b], fun k hk => by rw [sI_s, pk_un hk, sI_n _ _ _ (by decide)], rfl⟩
    · refine Or.inl ⟨(nI (i + 1), z), ?_, rfl, ?_, h2⟩
      · unfold fX10_first_b7
        simp only [un2, le8 (show i < 2 ^ 31 by omega), n8, if_false, hb, c, bd, nI_1]
        rfl
      · dsimp only
        rw [List.range_succ, List.filter_append]
        have : [i].filter s.testBit = [] := by simp [c]
        rw [this, List.append_nil]
        exact h1) (by
    rintro ⟨v, z⟩ ⟨h0, h1, h2⟩
    dsimp only at h0 h1 h2
    subst h0
    refine ⟨(nI 8, z), ?_, h1, h2⟩
    unfold fX10_first_b7
    simp only [un2, le8 (show 8 < 2 ^ 31 by omega), Nat.le_refl, if_true]) n 0 ((0 : Int32), bq_sI y 0 17 0) (by omega) ⟨rfl, ⟨by dsimp only; rw [sI_s, pk_us]; rfl, fun i hi => absurd hi (by simp)⟩, ⟨fun c a b => sI_n _ _ _ a, fun k hk => by dsimp only; rw [sI_s, pk_un hk], rfl⟩⟩ (by omega)
  obtain ⟨v, z⟩ := z
  refine ⟨z, ?_, h1, h2⟩
  unfold fX10_first
  simp only [bd, hz, Option.bind_some, un2]
theorem nx_l1 {y : bq_S} {r : List Nat} {n : Nat} (h : CRow y 10 r) (h8 : r.length ≤ 8) (hb : ∀ b ∈ r, b < 8) : ∀ k f, k < r.length → k < f →
    (∀ i, i < k → (∀ v, i < v → v < k → gt r (v + 1) < gt r v) → gt r i < gt r (i + 1) → wh f (fX10_next_b7 n) (nI k - 1, y) = some (nI i, y)) ∧ ((∀ v, v < k → gt r (v + 1) < gt r v) → wh f (fX10_next_b7 n) (nI k - 1, y) = some ((-1 : Int32), y)) := by
  intro k
  induction k with
  | zero =>
    intro f hk hf
    obtain ⟨f, rfl⟩ : ∃ g, f = g + 1 := ⟨f - 1, by omega⟩
    refine ⟨fun i hi => absurd hi (by omega), fun _ => wh_e ?_⟩
    have e : nI 0 - 1 = (-1 : Int32) := by decide
    rw [e]
    have e2 : ((-1 : Int32) < 0) := by decide
    unfold fX10_next_b7
    simp only [un2, e2, if_true]
  | succ k ih =>
    intro f hk hf
    obtain ⟨f, rfl⟩ : ∃ g, f = g + 1 := ⟨f - 1, by omega⟩
    have hk1 : gt r k < 8 := hb _ (gt_mem (by omega))
    have hk2 : gt r (k + 1) < 8 := hb _ (gt_mem hk)
    have e : nI (k + 1) - 1 = nI k := by rw [nI_m (by omega)]; rfl
    rw [e]
    have n0 : ¬ nI k < 0 := nI_pos (by omega)
    have hbody : fX10_next_b7 n (nI k, y) = if gt r k ≤ gt r (k + 1) then some (.inr (nI k, y)) else some (.inl (nI k - 1, y)) := by
      unfold fX10_next_b7
      simp only [un2, n0, if_false, nI_1, okN (show k < 8 by omega) (by decide), okN (show k + 1 < 8 by omega) (by decide), if_true, cl0 (show k < 2 ^ 31 by omega), cl0 (show k + 1 < 2 ^ 31 by omega), h k (by omega), h (k + 1) hk, wIle (show gt r k < 2 ^ 31 by omega) (show gt r (k + 1) < 2 ^ 31 by omega), bd, am1]
    refine ⟨fun i hi hd ha => ?_, fun hd => ?_⟩
    · by_cases c : i = k
      · subst c
        rw [if_pos (by omega)] at hbody
        exact wh_e hbody
      · have := hd k (by omega) (by omega)
        rw [if_neg (by omega)] at hbody
        rw [wh_c hbody]
        exact (ih f (by omega) (by omega)).1 i (by omega) (fun v a b => hd v a (by omega)) ha
    · have := hd k (by omega)
      rw [if_neg (by omega)] at hbody
      rw [wh_c hbody]
      exact (ih f (by omega) (by omega)).2 (fun v a => hd v (by omega))
theorem nx_l2 {y : bq_S} {r : List Nat} {n i j : Nat} (h : CRow y 10 r) (h8 : r.length ≤ 8) (hb : ∀ b ∈ r, b < 8) (hi : i < r.length) (hj : gt r i ≤ gt r j) : ∀ k f, j + k < r.length → k < f → (∀ v, j < v → v < r.length → gt r v < gt r i) → wh f (fX10_next_b47 n (nI i)) (nI (j + k), y) = some (nI j, y) := by
  have hi1 : gt r i < 8 := hb _ (gt_mem hi)
  have hbody : ∀ v, v < r.length → fX10_next_b47 n (nI i) (nI v, y) = if gt r i ≤ gt r v then some (.inr (nI v, y)) else some (.inl (nI v - 1, y)) := by
    intro v hv
    have hv1 : gt r v < 8 := hb _ (gt_mem hv)
    unfold fX10_next_b47
    simp only [un2, okN (show v < 8 by omega) (by decide), okN (show i < 8 by omega) (by decide), if_true, cl0 (show v < 2 ^ 31 by omega), cl0 (show i < 2 ^ 31 by omega), h v hv, h i hi, wIle (show gt r i < 2 ^ 31 by omega) (show gt r v < 2 ^ 31 by omega), bd, am1]
  intro k
  induction k with
  | zero =>
    intro f hk hf hv
    obtain ⟨f, rfl⟩ : ∃ g, f = g + 1 := ⟨f - 1, by omega⟩
    have := hbody (j + 0) hk
    rw [Nat.add_zero, if_pos hj] at this
    exact wh_e this
  | succ k ih =>
    intro f hk hf hv
    obtain ⟨f, rfl⟩ : ∃ g, f = g + 1 := ⟨f - 1, by omega⟩
    have h1 := hv (j + (k + 1)) (by omega) hk
    have := hbody (j + (k + 1)) hk
    rw [if_neg (by omega), nI_m (by omega)] at this
    rw [wh_c this]
    exact ih f (by omega) (by omega) hv
/-- turned round behind i -/
theorem nx_l3 {y : bq_S} {w : List Nat} {n i : Nat} (h : CRow y 10 w) (h8 : w.length ≤ 8) (hi : i < w.length) (hn : 20 ≤ n) : ∃ u v y1, wh n (fX10_next_b107 n) (nI (i + 1), nI w.length - 1, y) = some (u, v, y1) ∧ (∀ u, u < w.length → y1.1 10 u = nI (if i < u then gt w (i + w.length - u) else gt w u)) ∧ (∀ c, c ≠ 10 → y1.1 c = y.1 c) ∧ y1.2 = y.2 := by
  obtain ⟨z, hz, h1, h2, h3⟩ := wh_for (b := fX10_next_b107 n) (fun k z => z.1 = nI (i + 1 + k) ∧ z.2.1 = nI (w.length - 1 - k) ∧ (∀ u, u < w.length → z.2.2.1 10 u = nI (if (i < u ∧ u ≤ i + k) ∨ w.length - 1 - k < u then gt w (i + w.length - u) else gt w u)) ∧ (∀ c, c ≠ 10 → z.2.2.1 c = y.1 c) ∧ z.2.2.2 = y.2) (fun z => (∀ u, u < w.length → z.2.2.1 10 u = nI (if i < u then gt w (i + w.length - u) else gt w u)) ∧ (∀ c, c ≠ 10 → z.2.2.1 c = y.1 c) ∧ z.2.2.2 = y.2) ((w.length - 1 - i) / 2) (by
    rintro k ⟨a, b, z⟩ hk ⟨h0, h00, h1, h2, h3⟩
    dsimp only at h0 h00 h1 h2 h3
    subst h0 h00
    have n1 : ¬ w.length - 1 - k ≤ i + 1 + k := by omega
    have e1 : z.1 10 (i + 1 + k) = nI (gt w (i + 1 + k)) := by rw [h1 _ (by omega), if_neg (by omega)]
    have e2 : z.1 10 (w.length - 1 - k) = nI (gt w (w.length - 1 - k)) := by rw [h1 _ (by omega), if_neg (by omega)]
    refine Or.inl ⟨(nI (i + 1 + k + 1), nI (w.length - 1 - (k + 1)), bq_sI (bq_sI z 10 (i + 1 + k) (nI (gt w (w.length - 1 - k)))) 10 (w.length - 1 - k) (nI (gt w (i + 1 + k)))), ?_, rfl, rfl, fun u hu => ?_, fun c hc => ?_, h3⟩
    · unfold fX10_next_b107
      have e3 : nI (w.length - 1 - k) - 1 = nI (w.length - 1 - (k + 1)) := by rw [nI_m (by omega)]; rfl
      simp only [un3, wIle (show w.length - 1 - k < 2 ^ 31 by omega) (show i + 1 + k < 2 ^ 31 by omega), n1, if_false, okN (show i + 1 + k < 8 by omega) (by decide), okN (show w.length - 1 - k < 8 by omega) (by decide), if_true, bd, cl0 (show i + 1 + k < 2 ^ 31 by omega), cl0 (show w.length - 1 - k < 2 ^ 31 by omega), e1, e2, nI_1, am1, e3]
    · dsimp only
      rw [sI_s]
      by_cases c1 : u = w.length - 1 - k
      · subst c1
        rw [pk_us, if_pos (by omega)]
        congr 2; omega
      · rw [pk_un c1, sI_s]
        by_cases c2 : u = i + 1 + k
        · subst c2
          rw [pk_us, if_pos (by omega)]
          congr 2; omega
        · rw [pk_un c2, h1 u hu]
          have : ((i < u ∧ u ≤ i + k) ∨ w.length - 1 - k < u) = ((i < u ∧ u ≤ i + (k + 1)) ∨ w.length - 1 - (k + 1) < u) := by apply propext; omega
          simp only [this]
    · dsimp only
      rw [sI_n _ _ _ hc, sI_n _ _ _ hc]; exact h2 c hc) (by
    rintro ⟨a, b, z⟩ ⟨h0, h00, h1, h2, h3⟩
    dsimp only at h0 h00 h1 h2 h3
    subst h0 h00
    refine ⟨(nI (i + 1 + (w.length - 1 - i) / 2), nI (w.length - 1 - (w.length - 1 - i) / 2), z), ?_, fun u hu => ?_, h2, h3⟩
    · unfold fX10_next_b107
      have n1 : w.length - 1 - (w.length - 1 - i) / 2 ≤ i + 1 + (w.length - 1 - i) / 2 := by omega
      simp only [un3, wIle (show w.length - 1 - (w.length - 1 - i) / 2 < 2 ^ 31 by omega) (show i + 1 + (w.length - 1 - i) / 2 < 2 ^ 31 by omega), n1, if_true]
    · dsimp only
      rw [h1 u hu]
      by_cases c1 : i < u
      · rw [if_pos c1]
        by_cases c2 : (i < u ∧ u ≤ i + (w.length - 1 - i) / 2) ∨ w.length - 1 - (w.length - 1 - i) / 2 < u
        · rw [if_pos c2]
        · rw [if_neg c2]
          congr 2; omega
      · rw [if_neg c1, if_neg (by omega)]) n 0 (nI (i + 1), nI w.length - 1, y) (by omega) ⟨rfl, by dsimp only; rw [nI_m (by omega)]; rfl, fun u hu => by rw [if_neg (by omega)]; exact h u hu, fun _ _ => rfl, rfl⟩ (by omega)
  obtain ⟨u, v, z⟩ := z
  exact ⟨u, v, z, hz, h1, h2, h3⟩
theorem m_next_up {y : bq_S} {r r1 : List Nat} {n : Nat} (h : MRow y r) (h8 : r.length ≤ 8) (hb : ∀ b ∈ r, b < 8) (hx : Nx r r1) (hn : 20 ≤ n) : ∃ y1, fX10_next n y = some ((1 : Int32), y1) ∧ MRow y1 r1 ∧ rowM y y1 := by
  obtain ⟨p, a, t1, c, t2, e, hd, hac, ht2, e1⟩ := hx
  have hm : r.length = p.length + 1 + (t1.length + 1 + t2.length) := by rw [e]; simp; omega
  have gi : gt r p.length = a := by rw [e, gt_mid, if_neg (by omega), if_pos rfl]
  have gs : ∀ u, gt r (p.length + 1 + u) = gt (t1 ++ c :: t2) u := fun u => by
    rw [e, gt_mid, if_neg (by omega), if_neg (by omega)]; congr 1; omega
  have gj : gt r (p.length + 1 + t1.length) = c := by rw [gs, gt_mid, if_neg (by omega), if_pos rfl]
  have hlt : (t1 ++ c :: t2).length = t1.length + 1 + t2.length := by simp; omega
  have f1 : ∀ v, p.length < v → v < r.length - 1 → gt r (v + 1) < gt r v := fun v hv hv2 => by
    have a1 := gs (v - p.length - 1)
    have a2 := gs (v - p.length)
    rw [show p.length + 1 + (v - p.length - 1) = v by omega] at a1
    rw [show p.length + 1 + (v - p.length) = v + 1 by omega] at a2
    rw [a1, a2]
    exact gt_pw hd (by omega) (by omega)
  have f2 : gt r p.length < gt r (p.length + 1) := by
    rw [gi]
    have a1 := gs 0
    rw [Nat.add_zero] at a1
    rw [a1]
    by_cases c0 : t1.length = 0
    · rw [gt_mid, if_neg (by omega), if_pos (by omega)]; exact hac
    · have := gt_pw hd (u := 0) (v := t1.length) (by omega) (by omega)
      have a2 : gt (t1 ++ c :: t2) t1.length = c := by rw [gt_mid, if_neg (by omega), if_pos rfl]
      omega
  have f3 : ∀ v, p.length + 1 + t1.length < v → v < r.length → gt r v < gt r p.length := fun v hv hv2 => by
    have a1 := gs (v - p.length - 1)
    rw [show p.length + 1 + (v - p.length - 1) = v by omega] at a1
    rw [a1, gt_mid, if_neg (by omega), if_neg (by omega), gi]
    exact ht2 _ (gt_mem (by omega))
  have l1 := (nx_l1 (n := n) h.2 h8 hb (r.length - 1) n (by omega) (by omega)).1 p.length (by omega) f1 f2
  have l2 := nx_l2 (n := n) (i := p.length) (j := p.length + 1 + t1.length) h.2 h8 hb (by omega) (by rw [gi, gj]; omega) t2.length n (by omega) (by omega) f3
  have ei : y.1 10 p.length = nI a := by rw [h.2 _ (by omega), gi]
  have ej : y.1 10 (p.length + 1 + t1.length) = nI c := by rw [h.2 _ (by omega), gj]
  have hwl : (p ++ c :: (t1 ++ a :: t2)).length = r.length := by rw [hm]; simp; omega
  have hw : CRow (bq_sI (bq_sI y 10 p.length (nI c)) 10 (p.length + 1 + t1.length) (nI a)) 10 (p ++ c :: (t1 ++ a :: t2)) := by
    intro u hu
    rw [hwl] at hu
    rw [sI_s]
    by_cases c1 : u = p.length + 1 + t1.length
    · subst c1
      rw [pk_us, gt_mid, if_neg (by omega), if_neg (by omega), gt_mid, if_neg (by omega), if_pos (by omega)]
    · rw [pk_un c1, sI_s]
      by_cases c2 : u = p.length
      · subst c2
        rw [pk_us, gt_mid, if_neg (by omega), if_pos rfl]
      · rw [pk_un c2, h.2 u hu, e, gt_mid p a, gt_mid p c]
        by_cases c3 : u < p.length
        · rw [if_pos c3, if_pos c3]
        · rw [if_neg c3, if_neg c3, if_neg c2, if_neg c2, gt_mid t1 c, gt_mid t1 a]
          by_cases c4 : u - p.length - 1 < t1.length
          · rw [if_pos c4, if_pos c4]
          · rw [if_neg c4, if_neg c4, if_neg (by omega), if_neg (by omega)]
  obtain ⟨u3, v3, y3, k1, k2, k3, k4⟩ := nx_l3 (i := p.length) hw (by rw [hwl]; exact h8) (by rw [hwl]; omega) hn
  rw [hwl] at k1 k2
  refine ⟨y3, ?_, ⟨?_, fun u hu => ?_⟩, ⟨fun c a b => ?_, fun k hk => ?_, ?_⟩⟩
  · unfold fX10_next
    have e0 : nI r.length - (2 : Int32) = nI (r.length - 1) - 1 := by
      rw [nI_m (by omega)]
      show nI r.length - nI 2 = _
      rw [pk_sub (by omega)]
      congr 1
    rw [h.1]
    simp only [bd, e0, l1, Option.bind_some, un2]
    unfold fX10_next_j34
    have p0 : (0 : Int32) ≤ nI p.length := Int32.not_lt.mp (nI_pos (by omega))
    have e1 : nI r.length - 1 = nI (p.length + 1 + t1.length + t2.length) := by rw [nI_m (by omega)]; congr 1; omega
    have e17 : (bq_sI (bq_sI y 10 p.length (nI c)) 10 (p.length + 1 + t1.length) (nI a)).1 0 17 = nI r.length := by rw [sI_n _ _ _ (by decide), sI_n _ _ _ (by decide)]; exact h.1
    rw [← e1] at l2
    simp only [p0, if_true, h.1, bd, l2, Option.bind_some, un2, okN (show p.length < 8 by omega) (by decide), okN (show p.length + 1 + t1.length < 8 by omega) (by decide), cl0 (show p.length < 2 ^ 31 by omega), cl0 (show p.length + 1 + t1.length < 2 ^ 31 by omega), ei, ej, e17, nI_1, k1, un3]
  · rw [k3 0 (by decide), sI_n _ _ _ (by decide), sI_n _ _ _ (by decide), h.1, e1, hm]; congr 1; simp; omega
  · have hu' : u < r.length := by rw [e1] at hu; rw [hm]; simp at hu; omega
    have hq : (t1 ++ a :: t2).length = t1.length + 1 + t2.length := by simp; omega
    rw [k2 u hu', e1]
    congr 1
    by_cases c1 : p.length < u
    · rw [if_pos c1, gt_mid p c _ u, if_neg (by omega), if_neg (by omega), gt_rev (by omega), gt_mid p c, if_neg (by omega), if_neg (by omega)]
      congr 1; omega
    · rw [if_neg c1, gt_mid p c (t1 ++ a :: t2), gt_mid p c (t1 ++ a :: t2).reverse]
      by_cases c2 : u < p.length
      · rw [if_pos c2, if_pos c2]
      · rw [if_neg c2, if_neg c2, if_pos (by omega), if_pos (by omega)]
  · rw [k3 c b, sI_n _ _ _ b, sI_n _ _ _ b]
  · rw [k3 0 (by decide), sI_n _ _ _ (by decide), sI_n _ _ _ (by decide)]
  · rw [k4]; rfl
theorem m_next_end {y : bq_S} {r : List Nat} {n : Nat} (h : MRow y r) (h8 : r.length ≤ 8) (hb : ∀ b ∈ r, b < 8) (hd : r.Pairwise (fun i j => j < i)) (hn : 20 ≤ n) : fX10_next n y = some ((0 : Int32), y) := by
  unfold fX10_next
  rw [h.1]
  by_cases c : r.length = 0
  · have e0 : nI r.length - (2 : Int32) = (-2 : Int32) := by rw [c]; decide
    have e2 : ((-2 : Int32) < 0) := by decide
    have e3 : ¬ ((0 : Int32) ≤ (-2 : Int32)) := by decide
    obtain ⟨m, rfl⟩ : ∃ m, n = m + 1 := ⟨n - 1, by omega⟩
    have : wh (m + 1) (fX10_next_b7 (m + 1)) ((-2 : Int32), y) = some ((-2 : Int32), y) := wh_e (by unfold fX10_next_b7; simp only [un2, e2, if_true])
    simp only [bd, e0, this, Option.bind_some, un2]
    unfold fX10_next_j34
    rw [if_neg e3]
  · have e0 : nI r.length - (2 : Int32) = nI (r.length - 1) - 1 := by
      by_cases c1 : r.length = 1
      · rw [c1]; decide
      · rw [nI_m (by omega)]
        show nI r.length - nI 2 = _
        rw [pk_sub (by omega)]
        congr 1
    have l1 := (nx_l1 (n := n) h.2 h8 hb (r.length - 1) n (by omega) (by omega)).2 (fun v hv => gt_pw hd (by omega) (by omega))
    simp only [bd, e0, l1, Option.bind_some, un2]
    unfold fX10_next_j34
    have e3 : ¬ ((0 : Int32) ≤ (-1 : Int32)) := by decide
    rw [if_neg e3]
theorem PL_row {s i : Nat} (h : i < (PL s).length) : (PL s)[i].length = (bits s).length ∧ (PL s)[i].Nodup ∧ ∀ b ∈ (PL s)[i], b ∈ bits s := arr_mem.mp (List.getElem_mem h)
theorem PL_row8 {s i : Nat} (h : i < (PL s).length) : (PL s)[i].length ≤ 8 ∧ ∀ b ∈ (PL s)[i], b < 8 := ⟨by rw [(PL_row h).1]; exact bits_len s, fun b hb => (bits_mem.mp ((PL_row h).2.2 b hb)).1⟩
/-- the reference goes on from the row i of a set -/
theorem m_nextL {y : bq_S} {s i n : Nat} (h : i < (PL s).length) (hr : MRow y (PL s)[i]) (hn : 20 ≤ n) : ∃ y1, fX10_next n y = some (b2i (decide (i + 1 < (PL s).length)), y1) ∧ (∀ h : i + 1 < (PL s).length, MRow y1 (PL s)[i + 1]) ∧ rowM y y1 := by
  have h8 := PL_row8 h
  by_cases c : i + 1 < (PL s).length
  · obtain ⟨y1, k1, k2, k3⟩ := m_next_up hr h8.1 h8.2 (sq_at (PL_sq s) i c) hn
    exact ⟨y1, by simp only [c, decide_true]; exact k1, fun _ => k2, k3⟩
  · have e := PL_end s h (by omega)
    refine ⟨y, ?_, fun h => absurd h c, ⟨fun _ _ _ => rfl, fun _ _ => rfl, rfl⟩⟩
    simp only [c, decide_false]
    refine m_next_end hr h8.1 h8.2 ?_ hn
    rw [e, List.pairwise_reverse]
    exact bits_asc s
