/-! ===== walk: the reference, and the step ===== -/
section WALKM
variable {y : bq_S} {L : AL}
theorem m_thickOf (hc : ML y L) (ho : OKL L) {n i j : Nat} (hn : 40 ≤ n) (hij : i ≤ j) (hj : j ≤ (lhl L).length) : fX10_thickOf n (nI i) (nI j - 1) y = some (nI (pth L j - pth L i), y) := by
  have h8 := hall8 ho
  have hm := ho.1
  obtain ⟨z, hz, rfl⟩ := wh_for (b := fX10_thickOf_b5 n (nI j - 1)) (fun k v => v = (nI (pth L (i + k) - pth L i), nI (i + k), y)) (fun z => z = (nI (pth L j - pth L i), nI j, y)) (j - i) (by
    rintro k _ hk rfl
    have hik : i + k < (lhl L).length := by omega
    have hb := ho.2.2.2.2.2.2.2.2.2 _ (gt_mem hik)
    have e1 : (nI j - 1 < nI (i + k)) = ((j : Int) - 1 < ((i + k : Nat) : Int)) := i_lt (tm1 (by omega)) (nI_toInt (by omega))
    have n1 : ¬ ((j : Int) - 1 < ((i + k : Nat) : Int)) := by omega
    have e2 : y.1 5 (i + k) = nI (gt (lhl L) (i + k)) := hc.2.2.2.2.2.2.2.2 _ hik
    refine Or.inl ⟨_, ?_, rfl⟩
    unfold fX10_thickOf_b5
    simp only [un3, e1, n1, if_false, okN (show i + k < 8 by omega) (by decide), if_true, cl0 (show i + k < 2 ^ 31 by omega), e2, okN (show gt (lhl L) (i + k) < 8 by omega) (by decide), cl0 (show gt (lhl L) (i + k) < 2 ^ 31 by omega), hc.2.2.2.1 _ hb, bd, nI_add, nI_1]
    have := pth_mono L (show i ≤ i + k by omega)
    have e := pth_s L (i + k)
    rw [show i + k + 1 = i + (k + 1) by omega] at e
    congr 4
    rw [e]; omega) (by
    rintro _ rfl
    refine ⟨_, ?_, rfl⟩
    have hij2 : i + (j - i) = j := by omega
    have e1 : (nI j - 1 < nI j) = ((j : Int) - 1 < (j : Int)) := i_lt (tm1 (by omega)) (nI_toInt (by omega))
    have n1 : ((j : Int) - 1 < (j : Int)) := by omega
    unfold fX10_thickOf_b5
    simp only [un3, hij2, e1, n1, if_true]) n 0 ((0 : Int32), nI i, y) (Nat.zero_le _) (by simp; rfl) (by omega)
  unfold fX10_thickOf
  rw [hz]; rfl
theorem m_step (hc : ML y L) (ho : OKL L) {n t f s : Nat} (hn : 40 ≤ n) (ht : t < (lhl L).length) (hf : f ≤ (lhl L).length) (u1 u2 u3 k : Int32) : fX10_walk_j174 n u1 u2 u3 (nI (pth L (lhl L).length)) (nI s) (nI f - 1) k (nI t) (nI (fo L f t)) y = some (.inl (nI (s + sv L f t), nI t, k + 1, y)) := by
  have h8 := hall8 ho
  have h7 : y.1 4 (0 : Int32).toNatClampNeg = nI (lri L) := hc.2.2.2.2.2.2.1
  have hr1 := ho.2.2.2.2.2.2.1
  have e0 : (nI (lri L) = 0) = (lri L = 0) := nI_zero (by omega)
  have f1 := fo_le (L := L) (f := f) ho ht
  have f2 := ba_le (L := L) (t := t) ho hf
  have e5 : (nI (ba L f t) ≤ nI (fo L f t)) = (ba L f t ≤ fo L f t) := wIle (by omega) (by omega)
  have e4 : (nI t < nI f - 1) = ((t : Int) < (f : Int) - 1) := i_lt (nI_toInt (by omega)) (tm1 (by omega))
  have hend : ∀ w : Nat, w = ba L f t → fX10_walk_j229 n u1 u2 u3 (nI (pth L (lhl L).length)) (nI s) (nI f - 1) k (nI t) (nI (fo L f t)) (nI w) y = some (.inl (nI (s + sv L f t), nI t, k + 1, y)) := by
    rintro w rfl
    unfold fX10_walk_j229 fX10_walk_j245 fX10_walk_j277 sv
    simp only [e4, h7, e0, e5, bd, nI_add]
    by_cases a : lri L = 0
    · have a1 : ¬ lri L = 1 := by omega
      simp only [a, if_true, Nat.zero_ne_one, if_false]
      by_cases b : (t : Int) < (f : Int) - 1
      · have : ¬ f ≤ t := by omega
        simp [b, this]
      · by_cases c : f ≤ t
        · simp [b, c]
        · have hft : f = t + 1 := by omega
          have z1 : fo L f t = 0 := by unfold fo; rw [hft, if_pos (Nat.le_refl _)]; omega
          have z2 : ba L f t = 0 := by unfold ba; rw [if_pos hft]
          simp [b, c, z1, z2]
    · have a1 : lri L = 1 := by omega
      simp only [a1, Nat.one_ne_zero, if_false, if_true]
      have hmin : (if ba L f t < fo L f t then ba L f t else fo L f t) = (if ba L f t ≤ fo L f t then ba L f t else fo L f t) := by
        by_cases c : ba L f t ≤ fo L f t
        · by_cases d : ba L f t < fo L f t
          · rw [if_pos c, if_pos d]
          · have hq : ba L f t = fo L f t := by omega
            rw [if_pos c, if_neg d, hq]
        · have d : ¬ ba L f t < fo L f t := by omega
          rw [if_neg c, if_neg d]
      rw [hmin]
      by_cases b : (t : Int) < (f : Int) - 1 <;> by_cases c : ba L f t ≤ fo L f t <;> simp only [b, c, if_true, if_false]
  have e1 : (nI t = nI f - 1) = ((t : Int) = (f : Int) - 1) := i_eq (nI_toInt (by omega)) (tm1 (by omega))
  have e2 : (nI f - 1 ≤ nI t) = ((f : Int) - 1 ≤ (t : Int)) := i_le (tm1 (by omega)) (nI_toInt (by omega))
  have e3 : ((0 : Int32) ≤ nI f - 1) = ((0 : Int) ≤ (f : Int) - 1) := i_le rfl (tm1 (by omega))
  unfold fX10_walk_j174
  simp only [e1, e2, e3]
  by_cases a : (t : Int) = (f : Int) - 1
  · rw [if_pos a]
    exact hend 0 (by unfold ba; rw [if_pos (by omega)])
  · rw [if_neg a]
    by_cases b : (f : Int) - 1 ≤ (t : Int)
    · rw [if_pos b]
      have hsub : ∀ i, i = f - 1 → fX10_walk_j221 n u1 u2 u3 (nI (pth L (lhl L).length)) (nI s) (nI f - 1) k (nI t) (nI (fo L f t)) (nI (pth L (lhl L).length)) (nI i) y = some (.inl (nI (s + sv L f t), nI t, k + 1, y)) := by
        rintro i rfl
        unfold fX10_walk_j221
        rw [m_thickOf hc ho hn (show f - 1 ≤ t by omega) (by omega)]
        simp only [Option.bind_some, un2]
        have m1 := pth_mono L (show t ≤ (lhl L).length by omega)
        have m2 := pth_mono L (show f - 1 ≤ t by omega)
        rw [pk_sub (by omega)]
        refine hend _ ?_
        unfold ba
        rw [if_neg (by omega), if_neg (by omega)]
        omega
      by_cases c : (0 : Int) ≤ (f : Int) - 1
      · rw [if_pos c]
        have := hsub (f - 1) rfl
        rw [← nI_m (show 0 < f by omega)] at this
        exact this
      · rw [if_neg c]
        exact hsub 0 (by omega)
    · rw [if_neg b]
      have e6 : nI f - 1 - 1 = nI (f - 1) - 1 := by rw [nI_m (show 0 < f by omega)]
      rw [e6, m_thickOf hc ho hn (show t ≤ f - 1 by omega) (by omega)]
      simp only [Option.bind_some, un2]
      refine hend _ ?_
      unfold ba
      rw [if_neg (by omega), if_pos (by omega)]
theorem m_body (hc : ML y L) (ho : OKL L) {n t f s q a i : Nat} {v : Int64} (hn : 40 ≤ n) (ht : t < (lhl L).length) (hf : f ≤ (lhl L).length) (hq : q < 4) (hi : a + i < 16) (hv : y.2 16 (16 * q + a + i) = lN t) {k : Nat} (hk : i < k) (hk2 : k < 2 ^ 31) : fX10_walk_b117 n (nI q) (nI a) (nI k) (nI (pth L (lhl L).length)) (nI s, nI f - 1, nI i, y) = some (.inl (nI (s + sv L f t), nI t, nI (i + 1), y)) := by
  have h8 := hall8 ho
  have n1 : ¬ k ≤ i := by omega
  have e4 : (nI t < nI f - 1) = ((t : Int) < (f : Int) - 1) := i_lt (nI_toInt (by omega)) (tm1 (by omega))
  unfold fX10_walk_b117
  simp only [un4, wIle hk2 (show i < 2 ^ 31 by omega), n1, if_false, ix16b, okN (show 16 * q + a + i < 64 by omega) (by decide), if_true, cl0 (show 16 * q + a + i < 2 ^ 31 by omega), hv, l2i_n, bd, e4, nI_1, m1p1]
  by_cases b : (t : Int) < (f : Int) - 1
  · rw [if_pos b, m_thickOf hc ho hn (show t + 1 ≤ f by omega) hf]
    simp only [Option.bind_some, un2]
    have m1 := pth_mono L hf
    have m2 := pth_mono L (show t + 1 ≤ f by omega)
    rw [pk_sub (by omega)]
    have e : pth L (lhl L).length - (pth L f - pth L (t + 1)) = fo L f t := by
      unfold fo; rw [if_neg (by omega)]; omega
    rw [e, m_step hc ho hn ht hf, nI_1]
  · rw [if_neg b]
    have e9 : nI t = nI (t + 1) - 1 := (nI_pred t).symm
    have hth := m_thickOf hc ho hn (show f ≤ t + 1 by omega) (show t + 1 ≤ (lhl L).length by omega)
    rw [← e9] at hth
    rw [hth]
    simp only [Option.bind_some, un2]
    have e : pth L (t + 1) - pth L f = fo L f t := by
      unfold fo; rw [if_pos (by omega)]
    rw [e, m_step hc ho hn ht hf, nI_1]
end WALKM
/-- how long, and where (place and 1) behind k places -/
def walkF (L : AL) (w : Nat → Int64) : Nat → Nat × Nat
  | 0 => (0, 0)
  | k + 1 => ((walkF L w k).1 + sv L (walkF L w k).2 (bk (w k)), bk (w k) + 1)
def plOK (L : AL) (w : Nat → Int64) (k : Nat) : Prop := ∀ j, j < k → isBl (lhl L).length (w j) = true
theorem walkF_f {L : AL} {w : Nat → Int64} (h8 : (lhl L).length ≤ 8) : ∀ {k : Nat}, plOK L w k → (walkF L w k).2 ≤ (lhl L).length
  | 0, _ => Nat.zero_le _
  | k + 1, h => by
    obtain ⟨b, hb, e⟩ := isBl_of (by omega) (h k (by omega))
    show bk (w k) + 1 ≤ _
    rw [e, bk_n (by omega)]; exact hb
theorem s_walk_loop {x : bq_S} {L : AL} (hc : CL x 1 L) (ho : OKL L) {q n a k : Nat} {w : Nat → Int64} (hw : ∀ j, j < k → x.2 q (a + j) = w j) (hak : a + k ≤ 16) (hn : 40 ≤ n) : (plOK L w k → ∃ u v, wh n (fX9_walk_b54 n (nI a) (nI k) q) ((0 : Int32), (-1 : Int32), nI a, x) = some (.inl (nI (walkF L w k).1, u, v, x))) ∧ (¬ plOK L w k → wh n (fX9_walk_b54 n (nI a) (nI k) q) ((0 : Int32), (-1 : Int32), nI a, x) = some (.inr (-2, x))) := by
  have h8 := hall8 ho
  have hm1 : (-1 : Int32) = nI 0 - 1 := by decide
  obtain ⟨z, hz, hq⟩ := wh_for (b := fX9_walk_b54 n (nI a) (nI k) q) (fun i v => plOK L w i ∧ v = (nI (walkF L w i).1, nI (walkF L w i).2 - 1, nI (a + i), x)) (fun z => (plOK L w k ∧ ∃ u v, z = .inl (nI (walkF L w k).1, u, v, x)) ∨ (¬ plOK L w k ∧ z = .inr (-2, x))) k (by
    rintro i _ hi ⟨hp, rfl⟩
    have n1 : ¬ a + k ≤ a + i := by omega
    unfold fX9_walk_b54
    simp only [un4, nI_add, wIle (show a + k < 2 ^ 31 by omega) (show a + i < 2 ^ 31 by omega), n1, if_false, okN (show a + i < 16 by omega) (by decide), if_true, cl0 (show a + i < 2 ^ 31 by omega), hw i hi, s_isPlace hc ho, Option.bind_some, un2, b2i_0, bd]
    cases hb : isBl (lhl L).length (w i) with
    | false =>
      refine Or.inr ⟨.inr (-2, x), by simp only [if_true], Or.inr ⟨fun h => ?_, rfl⟩⟩
      rw [h i hi] at hb; cases hb
    | true =>
      obtain ⟨b, hbm, eb⟩ := isBl_of (by omega) hb
      simp only [Bool.true_eq_false, if_false, eb, l2i_n, s_between hc ho hn hbm (walkF_f h8 hp), Option.bind_some, nI_add, nI_1]
      refine Or.inl ⟨_, rfl, fun j hj => ?_, ?_⟩
      · by_cases e : j = i
        · rw [e]; exact hb
        · exact hp j (by omega)
      · simp only [walkF, eb, bk_n (show b < 2 ^ 31 by omega), nI_pred, Nat.add_assoc]) (by
    rintro _ ⟨hp, rfl⟩
    refine ⟨.inl (nI (walkF L w k).1, nI (walkF L w k).2 - 1, nI (a + k), x), ?_, Or.inl ⟨hp, _, _, rfl⟩⟩
    unfold fX9_walk_b54
    simp only [un4, nI_add, Int32.le_refl, if_true]) n 0 ((0 : Int32), (-1 : Int32), nI a, x) (Nat.zero_le _) ⟨fun j hj => by omega, by rw [hm1]; rfl⟩ (by omega)
  rcases hq with ⟨h1, u, v, rfl⟩ | ⟨h1, rfl⟩
  · exact ⟨fun _ => ⟨u, v, hz⟩, fun h => absurd h1 h⟩
  · exact ⟨fun h => absurd h h1, fun _ => hz⟩
theorem m_isPl {y : bq_S} {L : AL} (hc : ML y L) (ho : OKL L) (v : Int64) : fX10_in v (0 : Int64) ((y.1 0 6) - (1 : Int32)).toInt64 y = some (b2i (isBl (lhl L).length v), y) := by
  have h8 := hall8 ho
  simp only [m_in, hc.2.2.1, Int32.toInt_toInt64, nI_m1 (show (lhl L).length < 2 ^ 30 by omega), isBl]
  congr 3
  apply decide_eq_decide.mpr
  simp
  omega
theorem m_walk1 {y : bq_S} {L : AL} (hc : ML y L) (ho : OKL L) {n q a k : Nat} {w : Nat → Int64} (hq : q < 4) (hw : ∀ j, j < k → y.2 16 (16 * q + a + j) = w j) (hak : a + k ≤ 16) (hn : 40 ≤ n) : (plOK L w k → ∃ u, wh n (fX10_walk_b51 n (nI q) (nI a) (nI k)) ((0 : Int32), y) = some (.inl (u, y))) ∧ (¬ plOK L w k → wh n (fX10_walk_b51 n (nI q) (nI a) (nI k)) ((0 : Int32), y) = some (.inr (-2, y))) := by
  have h8 := hall8 ho
  obtain ⟨z, hz, hq⟩ := wh_for (b := fX10_walk_b51 n (nI q) (nI a) (nI k)) (fun i v => plOK L w i ∧ v = (nI i, y)) (fun z => (plOK L w k ∧ ∃ u, z = .inl (u, y)) ∨ (¬ plOK L w k ∧ z = .inr (-2, y))) k (by
    rintro i _ hi ⟨hp, rfl⟩
    have n1 : ¬ k ≤ i := by omega
    unfold fX10_walk_b51
    simp only [un2, ix16b, wIle (show k < 2 ^ 31 by omega) (show i < 2 ^ 31 by omega), n1, if_false, okN (show 16 * q + a + i < 64 by omega) (by decide), if_true, cl0 (show 16 * q + a + i < 2 ^ 31 by omega), hw i hi, m_isPl hc ho, Option.bind_some, b2i_0, bd, nI_1]
    cases hb : isBl (lhl L).length (w i) with
    | false =>
      refine Or.inr ⟨.inr (-2, y), by simp only [if_true], Or.inr ⟨fun h => ?_, rfl⟩⟩
      rw [h i hi] at hb; cases hb
    | true =>
      refine Or.inl ⟨(nI (i + 1), y), by simp only [Bool.true_eq_false, if_false], fun j hj => ?_, rfl⟩
      by_cases e : j = i
      · rw [e]; exact hb
      · exact hp j (by omega)) (by
    rintro _ ⟨hp, rfl⟩
    refine ⟨.inl (nI k, y), ?_, Or.inl ⟨hp, _, rfl⟩⟩
    unfold fX10_walk_b51
    simp only [un2, Int32.le_refl, if_true]) n 0 ((0 : Int32), y) (Nat.zero_le _) ⟨fun j hj => by omega, rfl⟩ (by omega)
  rcases hq with ⟨h1, u, rfl⟩ | ⟨h1, rfl⟩
  · exact ⟨fun _ => ⟨u, hz⟩, fun h => absurd h1 h⟩
  · exact ⟨fun h => absurd h h1, fun _ => hz⟩
theorem m_walk2 {y : bq_S} {L : AL} (hc : ML y L) (ho : OKL L) {n q a k : Nat} {w : Nat → Int64} (hq : q < 4) (hw : ∀ j, j < k → y.2 16 (16 * q + a + j) = w j) (hak : a + k ≤ 16) (hn : 40 ≤ n) (hp : plOK L w k) : ∃ u v, wh n (fX10_walk_b117 n (nI q) (nI a) (nI k) (nI (pth L (lhl L).length))) ((0 : Int32), (-1 : Int32), (0 : Int32), y) = some (nI (walkF L w k).1, u, v, y) := by
  have h8 := hall8 ho
  have hm1 : (-1 : Int32) = nI 0 - 1 := by decide
  obtain ⟨z, hz, u, v, rfl⟩ := wh_for (b := fX10_walk_b117 n (nI q) (nI a) (nI k) (nI (pth L (lhl L).length))) (fun i v => v = (nI (walkF L w i).1, nI (walkF L w i).2 - 1, nI i, y)) (fun z => ∃ u v, z = (nI (walkF L w k).1, u, v, y)) k (by
    rintro i _ hi rfl
    obtain ⟨b, hbm, eb⟩ := isBl_of (by omega) (hp i hi)
    refine Or.inl ⟨_, m_body hc ho (v := w i) (t := b) hn hbm (walkF_f h8 (fun j hj => hp j (by omega))) hq (by omega) (by rw [hw i hi, eb]) hi (by omega), ?_⟩
    simp only [walkF, eb, bk_n (show b < 2 ^ 31 by omega), nI_pred]) (by
    rintro _ rfl
    refine ⟨(nI (walkF L w k).1, nI (walkF L w k).2 - 1, nI k, y), ?_, _, _, rfl⟩
    unfold fX10_walk_b117
    simp only [un4, Int32.le_refl, if_true]) n 0 ((0 : Int32), (-1 : Int32), (0 : Int32), y) (Nat.zero_le _) (by rw [hm1]; rfl) (by omega)
  exact ⟨u, v, hz⟩
theorem st_walk {n : Nat} (hn : 40 ≤ n) : bs_walk Rl n := by
  rintro x y ⟨A, ho, hx, hy⟩ p1 p2 p3 p4
  unfold fX9_walk fX10_walk
  have g1 : (p4 < (1 : Int32)) = (p4.toInt < 1) := propext Int32.lt_iff_toInt_lt
  have g2 : (p4 ≤ (6 : Int32)) = (p4.toInt ≤ 6) := propext Int32.le_iff_toInt_le
  simp only [g1, g2, s_refusal ho hx, m_isSheet, m_isLane, m_in, Option.bind_some, un2, b2i_0, Int32.toInt_toInt64]
  by_cases h : 1 ≤ p4.toInt ∧ p4.toInt ≤ 6
  · have n1 : ¬ p4.toInt < 1 := by omega
    have n3 : decide ((1 : Int64).toInt ≤ p4.toInt ∧ p4.toInt ≤ (6 : Int64).toInt) = true := by
      apply decide_eq_true; simp; omega
    simp only [n1, h.2, if_false, if_true, n3, Bool.true_eq_false]
    cases h1 : isB 4 p1 with
    | false => exact ⟨-1, x, y, by simp, by simp, A, ho, hx, hy⟩
    | true =>
      cases h2 : isB 3 p2 with
      | false => exact ⟨-1, x, y, by simp, by simp, A, ho, hx, hy⟩
      | true =>
        obtain ⟨s, hs, rfl⟩ := isB_of (by decide) h1
        obtain ⟨l, hl, rfl⟩ := isB_of (by decide) h2
        obtain ⟨c1, c2, c3⟩ := hx.2.2.2.2 s hs
        obtain ⟨d1, d2⟩ := hy.2.2.2 s hs
        obtain ⟨o1, o2⟩ := ho.2.2.2 s hs
        simp only [Bool.and_self, if_true, Bool.true_eq_false, if_false, cl0 (show s < 2 ^ 31 by omega), cl0 (show l < 2 ^ 31 by omega), m_finds ho hy hs l hl p3 p4 (by omega), Option.bind_some, refu]
        by_cases e1 : (A.2.2.2 s).1 = 0
        · exact ⟨-11, x, y, by simp [e1], by simp [e1], A, ho, hx, hy⟩
        · by_cases e2 : (A.2.2.2 s).1 = l + 1
          · cases e3 : okH (A.2.2.2 s).2.1 p3 p4 with
            | false => exact ⟨-13, x, y, by simp [e1, e2], by simp [e1, e2], A, ho, hx, hy⟩
            | true =>
              obtain ⟨a, k, hak, rfl, rfl⟩ := okH_of o2 e3
              obtain ⟨d3, d4⟩ := d2 e1
              have hwC : ∀ j, j < k → x.2 (34 + 2 * s + 1) (a + j) = (fun j => (A.2.2.2 s).2.2 (a + j)) j := fun j hj => by
                rw [show 34 + 2 * s + 1 = 35 + 2 * s by omega]; exact c3 _ (by omega)
              have hwM : ∀ j, j < k → y.2 16 (16 * s + a + j) = (fun j => (A.2.2.2 s).2.2 (a + j)) j := fun j hj => by
                rw [Nat.add_assoc]; exact d4 _ (by omega)
              have e0 : (0 : Int32) ≤ 0 := by decide
              have hcl := s_walk_loop hx.1 ho.1 (n := n) hwC (by omega) hn
              have hml := m_walk1 hy.1 ho.1 (n := n) hs hwM (by omega) hn
              have l1 : ¬ l + 1 = 0 := by omega
              simp only [e2, l1, if_false, if_true, okN hs (by decide), e0]
              by_cases hp : plOK A.1 (fun j => (A.2.2.2 s).2.2 (a + j)) k
              · obtain ⟨u, v, hu⟩ := hcl.1 hp
                obtain ⟨u2, hu2⟩ := hml.1 hp
                obtain ⟨u3, v3, hu3⟩ := m_walk2 hy.1 ho.1 (n := n) hs hwM (by omega) hn hp
                have hz : (0 : Int32) = nI 0 := rfl
                have hall := m_thickOf hy.1 ho.1 (n := n) hn (Nat.zero_le (lhl A.1).length) (Nat.le_refl _)
                have hp0 : pth A.1 0 = 0 := rfl
                rw [hp0, Nat.sub_zero] at hall
                refine ⟨nI (walkF A.1 (fun j => (A.2.2.2 s).2.2 (a + j)) k).1, x, y, ?_, ?_, A, ho, hx, hy⟩
                · rw [hu]; rfl
                · rw [hu2]
                  simp only [Option.bind_some, Sum.elim_inl, hy.1.2.2.1]
                  rw [show fX10_thickOf n (0 : Int32) (nI (lhl A.1).length - 1) y = _ from hall]
                  simp only [Option.bind_some, hu3, un4]
              · refine ⟨-2, x, y, ?_, ?_, A, ho, hx, hy⟩
                · rw [hcl.2 hp]; rfl
                · rw [hml.2 hp]; rfl
          · exact ⟨-12, x, y, by simp [e1, e2], by simp [e1, e2], A, ho, hx, hy⟩
  · have n3 : decide ((1 : Int64).toInt ≤ p4.toInt ∧ p4.toInt ≤ (6 : Int64).toInt) = false := by
      apply decide_eq_false; simp; omega
    refine ⟨-1, x, y, ?_, ?_, A, ho, hx, hy⟩
    · by_cases a : p4.toInt < 1
      · simp [a]
      · have : ¬ p4.toInt ≤ 6 := by omega
        simp [a, this]
    · simp only [n3, if_true]
      cases isB 4 p1 <;> cases isB 3 p2 <;> simp
