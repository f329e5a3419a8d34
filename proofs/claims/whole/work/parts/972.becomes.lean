/-! ===== put, lend: the class's fewest; the reference's moved, becomes ===== -/
theorem un1_c {α β : Type} (v : α) (f : α → β) : un1 v f = f v := rfl
theorem andn_0 (s : Nat) : andn s 0 = s := by
  apply Nat.eq_of_testBit_eq
  intro i
  rw [andn_bit]; simp
def SM (x : bq_S) (L : AL) (s st : Nat) : Prop := CL x 1 L ∧ NR x 1 L ∧ x.1 29 3 = nI s ∧ x.1 29 4 = nI st ∧ x.1 29 5 = nI (pc s)
theorem SM_X {x : bq_S} {L : AL} {s st : Nat} (h : SM x L s st) (i : Nat) : SX (bq_sI x 29 6 (nI i)) L s st i := by
  obtain ⟨h1, h2, h3, h4, h5⟩ := h
  refine ⟨CL_of (fun c a b => sI_n _ _ _ (by omega)) h1, NR_of (sI_n _ _ _ (by decide)) h2, ?_, ?_, ?_, ?_⟩
  · rw [sI_s, pk_un (by decide)]; exact h3
  · rw [sI_s, pk_un (by decide)]; exact h4
  · rw [sI_s, pk_un (by decide)]; exact h5
  · rw [sI_s, pk_us]
theorem s_moves {x : bq_S} {L : AL} (hc : CL x 1 L) (hN : NR x 1 L) (ho : OKL L) {s n : Nat} (hs : s < 2 ^ lm L) (hex : ∃ r ∈ PL s, lawB (tch L) (decide (lri L = 1)) r = true) (hn : 20 ≤ n) : ∃ m x1 r0, fX5_fewest n (nI s) x = some (nI m, x1) ∧ m < 8 ∧ (PL s).find? (okM L m) = some r0 ∧ (∀ r ∈ PL s, lawB (tch L) (decide (lri L = 1)) r = true → m ≤ mv (lhl L) r) ∧ CRow x1 30 r0 ∧ (∀ c, c ≠ 29 → c ≠ 30 → c ≠ 31 → x1.1 c = x.1 c) ∧ x1.2 = x.2 := by
  have h256 := p8_256 ho.1 hs
  have hp8 := pc_le s
  have hpb := pc_bits h256
  have hst : setOf (lhl L) &&& s < 256 := Nat.lt_of_le_of_lt Nat.and_le_right h256
  have hstd : ∀ c, s.testBit c = true → (setOf (lhl L) &&& s).testBit c = decide (c ∈ lhl L) := fun c h => by rw [Nat.testBit_and, h, setOf_bit, Bool.and_true]
  obtain ⟨xa, hxa⟩ : ∃ w, w = bq_sI (bq_sI (bq_sI x 29 3 (nI s)) 29 4 (nI (setOf (lhl L) &&& s))) 29 5 (nI (pc s)) := ⟨_, rfl⟩
  have fa : ∀ c, c ≠ 29 → xa.1 c = x.1 c := fun c h => by rw [hxa, sI_n _ _ _ h, sI_n _ _ _ h, sI_n _ _ _ h]
  have hSa : SM xa L s (setOf (lhl L) &&& s) := by
    refine ⟨CL_of (fun c a b => fa c (by omega)) hc, NR_of (fa 7 (by decide)) hN, ?_, ?_, ?_⟩
    · rw [hxa, sI_s, pk_un (by decide), sI_s, pk_un (by decide), sI_s, pk_us]
    · rw [hxa, sI_s, pk_un (by decide), sI_s, pk_us]
    · rw [hxa, sI_s, pk_us]
  obtain ⟨e, hz, m, z, r0, q1, q2, q3, q4, q5, q6, q7⟩ := wh_for (b := fX5_fewest_b28 n) (fun i w => w.1 = nI i ∧ SM w.2 L s (setOf (lhl L) &&& s) ∧ (∀ c, c ≠ 29 → c ≠ 30 → c ≠ 31 → w.2.1 c = x.1 c) ∧ w.2.2 = x.2 ∧ ∀ r ∈ PL s, lawB (tch L) (decide (lri L = 1)) r = true → i ≤ mv (lhl L) r) (fun e => ∃ m z r0, e = .inr (nI m, z) ∧ m < 8 ∧ (PL s).find? (okM L m) = some r0 ∧ (∀ r ∈ PL s, lawB (tch L) (decide (lri L = 1)) r = true → m ≤ mv (lhl L) r) ∧ CRow z 30 r0 ∧ (∀ c, c ≠ 29 → c ≠ 30 → c ≠ 31 → z.1 c = x.1 c) ∧ z.2 = x.2) 8 (by
    rintro i ⟨v, z⟩ hi ⟨h0, h1, h2, h3, h4⟩
    dsimp only at h0 h1 h2 h3
    subst h0
    obtain ⟨x0, hx0⟩ : ∃ w, w = bq_sI z 29 6 (nI i) := ⟨_, rfl⟩
    have hS0 : SX x0 L s (setOf (lhl L) &&& s) i := by rw [hx0]; exact SM_X h1 i
    have f0 : ∀ c, c ≠ 29 → x0.1 c = z.1 c := fun c h => by rw [hx0, sI_n _ _ _ h]
    obtain ⟨fd, x1, k1, k2, k3, k4⟩ := s_search (n := n) ho hs hst hstd hi hn (pc s) 9 [] x0 (by omega) hS0 (by simp) List.nodup_nil (fun c hc => by simp at hc) ⟨fun j hj => by simp at hj, fun j hj => by simp at hj⟩ (Nat.zero_le _)
    have k1' : fX5_search n 9 (0 : Int32) (0 : Int32) (0 : Int32) x0 = some (b2i fd, x1) := by
      have e : setOf ([] : List Nat) = 0 := setOf_nil
      rw [e] at k1
      exact k1
    have hPL : arrL (pc s) (bits (andn s (setOf []))) = PL s := by rw [setOf_nil, andn_0, hpb]; rfl
    rw [hPL] at k3 k4
    have hnil : (fun q => okM L i ([] ++ q)) = okM L i := rfl
    have h6 : ¬ (8 : Int32) ≤ nI i := by rw [le8 (show i < 2 ^ 31 by omega)]; omega
    have hfr : ∀ c, c ≠ 29 → c ≠ 30 → c ≠ 31 → x1.1 c = x.1 c := fun c a b d => by rw [k2.1 c b d, f0 c a]; exact h2 c a b d
    have h2x : x1.2 = x.2 := by rw [k2.2, hx0]; exact h3
    have hbody : fX5_fewest_b28 n (nI i, z) = if b2i fd = 0 then bd (nI i + (1 : Int32)) (fun v18 => some (.inl (v18, x1))) else some (.inr (.inr (nI i, x1))) := by
      unfold fX5_fewest_b28
      rw [un2_c, if_neg h6, bd_c, ← hx0, k1', Option.bind_some, un2_c]
    cases fd with
    | true =>
      rw [if_neg (show ¬ b2i true = 0 by decide)] at hbody
      obtain ⟨q, q1, q2⟩ := k3 rfl
      rw [hnil] at q1
      exact Or.inr ⟨_, hbody, i, x1, q, rfl, hi, q1, h4, q2, hfr, h2x⟩
    | false =>
      rw [if_pos (show b2i false = 0 from rfl), bd_c, nI_1] at hbody
      obtain ⟨q1, _⟩ := k4 rfl
      refine Or.inl ⟨_, hbody, rfl, ⟨?_, ?_, ?_, ?_, ?_⟩, hfr, h2x, fun r hr hl => ?_⟩
      · exact CL_of (fun c a b => hfr c (by omega) (by omega) (by omega)) hc
      · exact NR_of (hfr 7 (by omega) (by omega) (by omega)) hN
      · dsimp only; rw [k2.1 29 (by decide) (by decide)]; exact hS0.2.2.1
      · dsimp only; rw [k2.1 29 (by decide) (by decide)]; exact hS0.2.2.2.1
      · dsimp only; rw [k2.1 29 (by decide) (by decide)]; exact hS0.2.2.2.2.1
      · have h5 := h4 r hr hl
        have h6 : okM L i r = false := q1 r hr
        unfold okM at h6
        rw [hl, Bool.true_and] at h6
        have := of_decide_eq_false h6
        omega) (by
    rintro ⟨v, z⟩ ⟨h0, h1, h2, h3, h4⟩
    obtain ⟨r, hr, hl⟩ := hex
    have h5 := h4 r hr hl
    have hlen : r.length ≤ 8 := by rw [(arr_mem.mp hr).1]; exact bits_len s
    have := mv_7 (H := lhl L) hlen
    omega) n 0 ((0 : Int32), xa) (by omega) ⟨rfl, hSa, fun c a _ _ => fa c a, by rw [hxa]; rfl, fun _ _ _ => Nat.zero_le _⟩ (by omega)
  refine ⟨m, z, r0, ?_, q2, q3, q4, q5, q6, q7⟩
  have hc1 : CL (bq_sI x 29 3 (nI s)) 1 L := CL_of (fun c a b => sI_n _ _ _ (by omega)) hc
  unfold fX5_fewest
  rw [bd_c, s_hallSet hc1 ho hn, Option.bind_some, un2_c, bd_c, wI_and, s_bitCount h256, Option.bind_some, un2_c, bd_c, ← hxa, hz, Option.bind_some, q1]
  rfl
/-! the reference -/
theorem m_j159 {z : bq_S} {n a b : Nat} (u1 u2 v : Int32) (ha : a ≤ 8) (hb : b ≤ 8) : fX10_moved_j159 n u1 u2 (nI a) (nI b) v z = some (.inl (nI (b + 1), bq_sI z 12 (9 * a + b) v)) := by
  have e9 : (9 : Int32) * nI a = nI (9 * a) := pk_mul 9 a
  unfold fX10_moved_j159
  rw [e9, nI_add, if_pos (okN (show 9 * a + b < 81 by omega) (by decide)), bd_c, bd_c, cl0 (show 9 * a + b < 2 ^ 31 by omega), nI_1]
theorem m_b15 {y z : bq_S} {L : AL} {n a b : Nat} {r : List Nat} (u1 u2 : Int32) (hc : ML y L) (ho : OKL L) (hR : MRow y r) (hr : r.length ≤ 8) (h8 : ∀ c ∈ r, c < 8) (hf : ∀ c, c ≠ 12 → z.1 c = y.1 c) (ha : a ≤ (lhl L).length) (hb : b ≤ r.length) (hT : ∀ a1 b1, (a1 < a ∧ b1 ≤ r.length) ∨ (a1 = a ∧ b1 < b) → z.1 12 (9 * a1 + b1) = nI (EE (lhl L) r b1 a1)) : fX10_moved_b15 n u1 u2 (nI a) (nI b, z) = some (.inl (nI (b + 1), bq_sI z 12 (9 * a + b) (nI (EE (lhl L) r b a)))) := by
  have hh := hall8 ho
  have h17 : z.1 0 17 = nI r.length := by rw [hf 0 (by decide)]; exact hR.1
  have n1 : ¬ nI r.length < nI b := nI_nlt hb (by omega)
  have ea : (nI a ≤ (0 : Int32)) = (a ≤ 0) := wIle (b := 0) (by omega) (by decide)
  have eb : (nI b ≤ (0 : Int32)) = (b ≤ 0) := wIle (b := 0) (by omega) (by decide)
  have e9 : (9 : Int32) * nI a = nI (9 * a) := pk_mul 9 a
  unfold fX10_moved_b15
  rw [un2_c, h17, if_neg n1]
  by_cases ca : a ≤ 0
  · have : a = 0 := by omega
    subst this
    rw [if_pos (ea.mpr ca), m_j159 u1 u2 _ (by omega) (by omega), EE_0]; rfl
  · rw [if_neg (fun h => ca (ea.mp h))]
    by_cases cb : b ≤ 0
    · have : b = 0 := by omega
      subst this
      rw [if_pos (eb.mpr cb), m_j159 u1 u2 _ (by omega) (by omega)]; rfl
    · rw [if_neg (fun h => cb (eb.mp h))]
      obtain ⟨a0, rfl⟩ : ∃ t, a = t + 1 := ⟨a - 1, by omega⟩
      obtain ⟨b0, rfl⟩ : ∃ t, b = t + 1 := ⟨b - 1, by omega⟩
      have e99 : nI (9 * (a0 + 1)) - (9 : Int32) = nI (9 * a0) := by
        show nI (9 * (a0 + 1)) - nI 9 = _
        rw [pk_sub (by omega)]; congr 1
      have i1 : nI (9 * a0) + nI (b0 + 1) = nI (9 * a0 + (b0 + 1)) := nI_add _ _
      have i2 : nI (9 * (a0 + 1)) + nI (b0 + 1) - 1 = nI (9 * (a0 + 1) + b0) := by rw [nI_add, nI_m (by omega)]; congr 1
      have i3 : nI (9 * a0 + (b0 + 1)) - 1 = nI (9 * a0 + b0) := by rw [nI_m (by omega)]; congr 1
      have v1 := hT a0 (b0 + 1) (Or.inl ⟨by omega, hb⟩)
      have v2 := hT (a0 + 1) b0 (Or.inr ⟨rfl, by omega⟩)
      have v3 := hT a0 b0 (Or.inl ⟨by omega, by omega⟩)
      have bound : ∀ i t, i ≤ 8 → t ≤ (lhl L).length → EE (lhl L) r i t ≤ 8 := fun i t hi ht => by
        have := EE_sd (H := lhl L) (r := r) (b := i) ht
        have := sdF_le (lhl L) r i
        omega
      have w1 := bound (b0 + 1) a0 (by omega) (by omega)
      have w2 := bound b0 (a0 + 1) (by omega) (by omega)
      have w3 := bound b0 a0 (by omega) (by omega)
      have h5 : z.1 5 a0 = nI (gt (lhl L) a0) := by rw [hf 5 (by decide)]; exact hc.2.2.2.2.2.2.2.2 a0 (by omega)
      have h10 : z.1 10 b0 = nI (gt r b0) := by rw [hf 10 (by decide)]; exact hR.2 b0 (by omega)
      have hg1 := hallR ho (show a0 < (lhl L).length by omega)
      have hg2 := h8 _ (gt_mem (show b0 < r.length by omega))
      have hm8 := ho.1
      have eq5 : (nI (gt (lhl L) a0) = nI (gt r b0)) = (gt (lhl L) a0 = gt r b0) := wIeq (by omega) (by omega)
      have ok1 := okN (show 9 * a0 + (b0 + 1) < 81 by omega) (by decide)
      have ok2 := okN (show 9 * (a0 + 1) + b0 < 81 by omega) (by decide)
      have ok3 := okN (show 9 * a0 + b0 < 81 by omega) (by decide)
      have c1 := cl0 (show 9 * a0 + (b0 + 1) < 2 ^ 31 by omega)
      have c2 := cl0 (show 9 * (a0 + 1) + b0 < 2 ^ 31 by omega)
      have c3 := cl0 (show 9 * a0 + b0 < 2 ^ 31 by omega)
      have hj100 : ∀ o, o ≤ 8 → fX10_moved_j100 n u1 u2 (nI (a0 + 1)) (nI (b0 + 1)) (nI o) z = some (.inl (nI (b0 + 1 + 1), bq_sI z 12 (9 * (a0 + 1) + (b0 + 1)) (nI (if decide (gt (lhl L) a0 = gt r b0) && decide (o < EE (lhl L) r b0 a0 + 1) then EE (lhl L) r b0 a0 + 1 else o)))) := by
        intro o ho8
        have em : (nI (EE (lhl L) r b0 a0 + 1) ≤ nI o) = (EE (lhl L) r b0 a0 + 1 ≤ o) := wIle (by omega) (by omega)
        unfold fX10_moved_j100
        rw [e9, e99, i1, i3, if_pos ok3, bd_c, c3, v3, nI_1, nI_pred, nI_pred, if_pos (okN (show a0 < 8 by omega) (by decide)), if_pos (okN (show b0 < 8 by omega) (by decide)), cl0 (show a0 < 2 ^ 31 by omega), cl0 (show b0 < 2 ^ 31 by omega), h5, h10, m_j159 u1 u2 _ (by omega) (by omega), m_j159 u1 u2 _ (by omega) (by omega)]
        by_cases d1 : gt (lhl L) a0 = gt r b0
        · rw [if_pos (eq5.mpr d1)]
          by_cases d2 : EE (lhl L) r b0 a0 + 1 ≤ o
          · rw [if_pos (em.mpr d2), if_neg (by simp; omega)]
          · rw [if_neg (fun h => d2 (em.mp h)), if_pos (by simp [d1]; omega)]
        · rw [if_neg (fun h => d1 (eq5.mp h)), if_neg (by simp [d1])]
      have eul : (nI (EE (lhl L) r (b0 + 1) a0) ≤ nI (EE (lhl L) r b0 (a0 + 1))) = (EE (lhl L) r (b0 + 1) a0 ≤ EE (lhl L) r b0 (a0 + 1)) := wIle (by omega) (by omega)
      rw [e9, e99, i1, i2, if_pos ok1, if_pos ok2, c1, c2, v1, v2, if_pos ok2, if_pos ok1, hj100 _ w2, hj100 _ w1, EE_rec ho.2.2.2.2.2.2.2.2.1 (show a0 < (lhl L).length by omega)]
      unfold own1
      by_cases d : EE (lhl L) r (b0 + 1) a0 ≤ EE (lhl L) r b0 (a0 + 1)
      · rw [if_pos (eul.mpr d), if_pos d]
      · rw [if_neg (fun h => d (eul.mp h)), if_neg d]
def TM (L : AL) (r : List Nat) (z : bq_S) (a b : Nat) : Prop := ∀ a1 b1, (a1 < a ∧ b1 ≤ r.length) ∨ (a1 = a ∧ b1 < b) → z.1 12 (9 * a1 + b1) = nI (EE (lhl L) r b1 a1)
theorem m_mrow {y z0 : bq_S} {L : AL} {n a : Nat} {r : List Nat} (u1 u2 : Int32) (hc : ML y L) (ho : OKL L) (hR : MRow y r) (hr : r.length ≤ 8) (h8 : ∀ c ∈ r, c < 8) (ha : a ≤ (lhl L).length) (hn : 20 ≤ n) (hf : ∀ c, c ≠ 12 → z0.1 c = y.1 c) (h2 : z0.2 = y.2) (hT : TM L r z0 a 0) : ∃ v z, wh n (fX10_moved_b15 n u1 u2 (nI a)) ((0 : Int32), z0) = some (v, z) ∧ (∀ c, c ≠ 12 → z.1 c = y.1 c) ∧ z.2 = y.2 ∧ TM L r z (a + 1) 0 := by
  have hh := hall8 ho
  obtain ⟨z, hz, h3, h4, h5⟩ := wh_for (b := fX10_moved_b15 n u1 u2 (nI a)) (fun i z => z.1 = nI i ∧ (∀ c, c ≠ 12 → z.2.1 c = y.1 c) ∧ z.2.2 = y.2 ∧ TM L r z.2 a i) (fun z => (∀ c, c ≠ 12 → z.2.1 c = y.1 c) ∧ z.2.2 = y.2 ∧ TM L r z.2 (a + 1) 0) (r.length + 1) (by
    rintro i ⟨v, z⟩ hi ⟨h0, h3, h4, h5⟩
    dsimp only at h0 h3 h4 h5
    subst h0
    refine Or.inl ⟨_, m_b15 u1 u2 hc ho hR hr h8 h3 ha (by omega) h5, rfl, fun c hc => ?_, h4, fun a1 b1 h => ?_⟩
    · dsimp only; rw [sI_n _ _ _ hc]; exact h3 c hc
    · dsimp only; rw [sI_s]
      by_cases e : 9 * a1 + b1 = 9 * a + i
      · have e1 : a1 = a ∧ b1 = i := by omega
        rw [e1.1, e1.2, pk_us]
      · rw [pk_un e]
        apply h5
        rcases h with h | h
        · exact Or.inl h
        · right
          refine ⟨h.1, ?_⟩
          by_cases e2 : b1 = i
          · exfalso; apply e; rw [h.1, e2]
          · omega) (by
    rintro ⟨v, z⟩ ⟨h0, h3, h4, h5⟩
    dsimp only at h0 h3 h4 h5
    subst h0
    refine ⟨(nI (r.length + 1), z), ?_, h3, h4, fun a1 b1 h => ?_⟩
    · have h17 : z.1 0 17 = nI r.length := by rw [h3 0 (by decide)]; exact hR.1
      unfold fX10_moved_b15
      rw [un2_c, h17, if_pos (nI_lt (by omega) (by omega))]
    · rcases h with h | h
      · by_cases e : a1 = a
        · exact h5 a1 b1 (Or.inr ⟨e, by omega⟩)
        · exact h5 a1 b1 (Or.inl ⟨by omega, h.2⟩)
      · omega) n 0 ((0 : Int32), z0) (by omega) ⟨rfl, hf, h2, hT⟩ (by omega)
  obtain ⟨v, z⟩ := z
  exact ⟨v, z, hz, h3, h4, h5⟩
theorem m_moved {y : bq_S} {L : AL} {n : Nat} {r : List Nat} (p1 : Int32) (hc : ML y L) (ho : OKL L) (hR : MRow y r) (hr : r.length ≤ 8) (h8 : ∀ c ∈ r, c < 8) (hn : 20 ≤ n) (hstay : sumN (fun i => if nI (gt (lhl L) i) = p1 then 0 else 1) (lhl L).length = sdF (lhl L) r r.length) : ∃ y1, fX10_moved n p1 y = some (nI (mv (lhl L) r), y1) ∧ (∀ c, c ≠ 12 → y1.1 c = y.1 c) ∧ y1.2 = y.2 := by
  have hh := hall8 ho
  have h6 : y.1 0 6 = nI (lhl L).length := hc.2.2.1
  obtain ⟨z, hz, h1, h2, h3⟩ := wh_for (b := fX10_moved_b4 n p1 (0 : Int32)) (fun i z => z.1 = nI i ∧ (∀ c, c ≠ 12 → z.2.1 c = y.1 c) ∧ z.2.2 = y.2 ∧ TM L r z.2 i 0) (fun z => (∀ c, c ≠ 12 → z.2.1 c = y.1 c) ∧ z.2.2 = y.2 ∧ TM L r z.2 ((lhl L).length + 1) 0) ((lhl L).length + 1) (by
    rintro i ⟨v, z⟩ hi ⟨h0, h3, h4, h5⟩
    dsimp only at h0 h3 h4 h5
    subst h0
    obtain ⟨w, z1, k1, k2, k3, k4⟩ := m_mrow (n := n) (a := i) p1 (0 : Int32) hc ho hR hr h8 (by omega) hn h3 h4 h5
    refine Or.inl ⟨(nI (i + 1), z1), ?_, rfl, k2, k3, k4⟩
    unfold fX10_moved_b4
    rw [un2_c, h3 0 (by decide), h6, if_neg (nI_nlt (by omega) (by omega)), k1, Option.bind_some, un2_c, bd_c, nI_1]) (by
    rintro ⟨v, z⟩ ⟨h0, h3, h4, h5⟩
    dsimp only at h0 h3 h4 h5
    subst h0
    refine ⟨(nI ((lhl L).length + 1), z), ?_, h3, h4, h5⟩
    unfold fX10_moved_b4
    rw [un2_c, h3 0 (by decide), h6, if_pos (nI_lt (by omega) (by omega))]) n 0 ((0 : Int32), y) (by omega) ⟨rfl, fun _ _ => rfl, rfl, fun a1 b1 h => by omega⟩ (by omega)
  obtain ⟨v, z⟩ := z
  dsimp only at h1 h2 h3
  have hst : wh n (fX10_moved_b187 n p1) ((0 : Int32), (0 : Int32), z) = some (nI (sumN (fun i => if nI (gt (lhl L) i) = p1 then 0 else 1) (lhl L).length), nI (lhl L).length, z) := by
    obtain ⟨w, hw, rfl⟩ := wh_for (b := fX10_moved_b187 n p1) (fun i w => w = (nI (sumN (fun i => if nI (gt (lhl L) i) = p1 then 0 else 1) i), nI i, z)) (fun w => w = (nI (sumN (fun i => if nI (gt (lhl L) i) = p1 then 0 else 1) (lhl L).length), nI (lhl L).length, z)) (lhl L).length (by
      rintro i _ hi rfl
      refine Or.inl ⟨_, ?_, rfl⟩
      have h5 : z.1 5 i = nI (gt (lhl L) i) := by rw [h1 5 (by decide)]; exact hc.2.2.2.2.2.2.2.2 i hi
      have n1 : ¬ nI (lhl L).length ≤ nI i := nI_ge hi (by omega)
      have e0 : ∀ k, nI k + (0 : Int32) = nI (k + 0) := fun k => nI_add k 0
      have es : sumN (fun i => if nI (gt (lhl L) i) = p1 then 0 else 1) (i + 1) = sumN (fun i => if nI (gt (lhl L) i) = p1 then 0 else 1) i + (if nI (gt (lhl L) i) = p1 then 0 else 1) := rfl
      unfold fX10_moved_b187
      unfold un3
      dsimp only
      rw [h1 0 (by decide), h6, if_neg n1, if_pos (okN (show i < 8 by omega) (by decide)), cl0 (show i < 2 ^ 31 by omega), h5, es]
      by_cases c : nI (gt (lhl L) i) = p1
      · rw [if_pos c, if_pos c, bd_c, bd_c, e0, nI_1]
      · rw [if_neg c, if_neg c, bd_c, bd_c, nI_1, nI_1]) (by
      rintro _ rfl
      refine ⟨_, ?_, rfl⟩
      unfold fX10_moved_b187
      unfold un3
      dsimp only
      rw [h1 0 (by decide), h6, if_pos (Int32.le_refl _)]) n 0 ((0 : Int32), (0 : Int32), z) (by omega) rfl (by omega)
    exact hw
  refine ⟨z, ?_, h1, h2⟩
  have e9 : (9 : Int32) * nI (lhl L).length = nI (9 * (lhl L).length) := pk_mul 9 _
  have h17 : z.1 0 17 = nI r.length := by rw [h1 0 (by decide)]; exact hR.1
  have h06 : z.1 0 6 = nI (lhl L).length := by rw [h1 0 (by decide)]; exact h6
  have hv := h3 (lhl L).length r.length (Or.inl ⟨by omega, Nat.le_refl _⟩)
  have hle := EE_sd (H := lhl L) (r := r) (b := r.length) (Nat.le_refl _)
  unfold fX10_moved
  rw [hz, Option.bind_some, un2_c, hst, Option.bind_some]
  unfold un3
  dsimp only
  rw [h06, h17, e9, nI_add, if_pos (okN (show 9 * (lhl L).length + r.length < 81 by omega) (by decide)), cl0 (show 9 * (lhl L).length + r.length < 2 ^ 31 by omega), hv, hstay, pk_sub hle]
  rfl
