/-! ===== walk ===== -/
def pth (L : AL) (j : Nat) : Nat := sumN (fun i => lth L (gt (lhl L) i)) j
theorem pth_s (L : AL) (j : Nat) : pth L (j + 1) = pth L j + lth L (gt (lhl L) j) := rfl
theorem pth_mono (L : AL) {i j : Nat} (h : i ≤ j) : pth L i ≤ pth L j := by
  induction j with
  | zero => have e : i = 0 := by omega
            rw [e]; exact Nat.le_refl _
  | succ j ih =>
    by_cases e : i = j + 1
    · rw [e]; exact Nat.le_refl _
    · rw [pth_s]; exact Nat.le_trans (ih (by omega)) (Nat.le_add_right _ _)
theorem pth_le {L : AL} (ho : OKL L) {j : Nat} (hj : j ≤ (lhl L).length) : pth L j ≤ 72 := by
  have h8 := hall8 ho
  have := sumN_le (f := fun i => lth L (gt (lhl L) i)) (c := 9) (k := j) (fun i hi => (ho.2.2.1 _ (ho.2.2.2.2.2.2.2.2.2 _ (gt_mem (by omega)))).2)
  unfold pth; omega
def fo (L : AL) (f t : Nat) : Nat := if f ≤ t + 1 then pth L (t + 1) - pth L f else pth L (lhl L).length - pth L f + pth L (t + 1)
def ba (L : AL) (f t : Nat) : Nat := if f = t + 1 then 0 else if t + 1 < f then pth L (f - 1) - pth L t else pth L (lhl L).length - pth L t + pth L (f - 1)
/-- from place f - 1 (f 0: ahead of all) to place t -/
def sv (L : AL) (f t : Nat) : Nat := if lri L = 1 then (if ba L f t < fo L f t then ba L f t else fo L f t) else if f ≤ t then fo L f t else ba L f t
theorem i_le {p q : Int32} {a b : Int} (h1 : p.toInt = a) (h2 : q.toInt = b) : (p ≤ q) = (a ≤ b) := by rw [← h1, ← h2]; exact propext Int32.le_iff_toInt_le
theorem i_lt {p q : Int32} {a b : Int} (h1 : p.toInt = a) (h2 : q.toInt = b) : (p < q) = (a < b) := by rw [← h1, ← h2]; exact propext Int32.lt_iff_toInt_lt
theorem i_eq {p q : Int32} {a b : Int} (h1 : p.toInt = a) (h2 : q.toInt = b) : (p = q) = (a = b) := by
  rw [← h1, ← h2]; exact propext ⟨fun h => by rw [h], fun h => Int32.toInt_inj.mp h⟩
theorem tm1 {f : Nat} (h : f < 2 ^ 30) : (nI f - 1).toInt = (f : Int) - 1 := nI_m1 h
theorem m1p1 (f : Nat) : nI f - 1 + 1 = nI f := Int32.sub_add_cancel _ _
section WALK
variable {x : bq_S} {L : AL}
theorem forthJ (hc : CL x 1 L) (ho : OKL L) {n : Nat} (p : Int32) {w j st : Nat} (hj : j < (lhl L).length) : fX4_wayForth_j42 n 1 p (nI w) (nI st) (nI j) x = some (.inl (nI (w + lth L (gt (lhl L) j)), nI j, nI (st + 1), x)) := by
  have h8 := hall8 ho
  have hb := ho.2.2.2.2.2.2.2.2.2 _ (gt_mem hj)
  have hm := ho.1
  unfold fX4_wayForth_j42
  have e1 : x.1 (1 + 5) j = nI (gt (lhl L) j) := hc.2.2.2.2.2.2.2.2 j hj
  have e2 : x.1 (1 + 1) (gt (lhl L) j) = nI (lth L (gt (lhl L) j)) := hc.2.2.2.1 _ hb
  simp only [okN (show j < 8 by omega) (by decide), if_true, cl0 (show j < 2 ^ 31 by omega), e1, okN (show gt (lhl L) j < 8 by omega) (by decide), cl0 (show gt (lhl L) j < 2 ^ 31 by omega), e2, bd, nI_add, nI_1]
theorem backJ (hc : CL x 1 L) (ho : OKL L) {n : Nat} (p : Int32) {w j st : Nat} (hj : j < (lhl L).length) : fX4_wayBack_j41 n 1 p (nI w) (nI st) (nI j) x = some (.inl (nI (w + lth L (gt (lhl L) j)), nI j, nI (st + 1), x)) := by
  have h8 := hall8 ho
  have hb := ho.2.2.2.2.2.2.2.2.2 _ (gt_mem hj)
  have hm := ho.1
  unfold fX4_wayBack_j41
  have e1 : x.1 (1 + 5) j = nI (gt (lhl L) j) := hc.2.2.2.2.2.2.2.2 j hj
  have e2 : x.1 (1 + 1) (gt (lhl L) j) = nI (lth L (gt (lhl L) j)) := hc.2.2.2.1 _ hb
  simp only [okN (show j < 8 by omega) (by decide), if_true, cl0 (show j < 2 ^ 31 by omega), e1, okN (show gt (lhl L) j < 8 by omega) (by decide), cl0 (show gt (lhl L) j < 2 ^ 31 by omega), e2, bd, nI_add, nI_1]
theorem forth1 (hc : CL x 1 L) (ho : OKL L) {n t : Nat} (ht : t < (lhl L).length) : ∀ d f w st g, f + d = t + 1 → st + d ≤ (lhl L).length → d < g → ∃ u v, wh g (fX4_wayForth_b8 n 1 (nI t)) (nI w, nI f - 1, nI st, x) = some (nI (w + (pth L (t + 1) - pth L f)), u, v, x) := by
  have h8 := hall8 ho
  have hN : x.1 1 2 = nI (lhl L).length := hc.2.2.1
  intro d
  induction d with
  | zero =>
    intro f w st g h1 h2 h3
    obtain ⟨g, rfl⟩ : ∃ z, g = z + 1 := ⟨g - 1, by omega⟩
    have hf : f = t + 1 := by omega
    subst hf
    refine ⟨nI t, nI st, wh_e ?_⟩
    unfold fX4_wayForth_b8
    simp only [un4, hN, wIle (show (lhl L).length < 2 ^ 31 by omega) (show st < 2 ^ 31 by omega), nI_pred, if_true, Nat.sub_self, Nat.add_zero]
    by_cases e : (lhl L).length ≤ st <;> simp [e]
  | succ d ih =>
    intro f w st g h1 h2 h3
    obtain ⟨g, rfl⟩ : ∃ z, g = z + 1 := ⟨g - 1, by omega⟩
    have n1 : ¬ (lhl L).length ≤ st := by omega
    have e1 : (nI f - 1 = nI t) = ((f : Int) - 1 = t) := i_eq (tm1 (by omega)) (nI_toInt (by omega))
    have n2 : ¬ ((f : Int) - 1 = t) := by omega
    have n3 : ¬ (lhl L).length ≤ f := by omega
    have hb : fX4_wayForth_b8 n 1 (nI t) (nI w, nI f - 1, nI st, x) = some (.inl (nI (w + lth L (gt (lhl L) f)), nI f, nI (st + 1), x)) := by
      unfold fX4_wayForth_b8
      simp only [un4, hN, wIle (show (lhl L).length < 2 ^ 31 by omega) (show st < 2 ^ 31 by omega), n1, if_false, e1, n2, m1p1, wIle (show (lhl L).length < 2 ^ 31 by omega) (show f < 2 ^ 31 by omega), n3, forthJ hc ho _ (show f < (lhl L).length by omega)]
    obtain ⟨u, v, hu⟩ := ih (f + 1) (w + lth L (gt (lhl L) f)) (st + 1) g (by omega) (by omega) (by omega)
    rw [nI_pred] at hu
    refine ⟨u, v, ?_⟩
    rw [wh_c hb, hu]
    have := pth_mono L (show f + 1 ≤ t + 1 by omega)
    have e := pth_s L f
    congr 3
    omega
theorem forth2 (hc : CL x 1 L) (ho : OKL L) {n t : Nat} (ht : t < (lhl L).length) : ∀ d f w st g, f + d = (lhl L).length → t + 1 < f → st + d + t + 1 ≤ (lhl L).length → d + t + 2 < g → ∃ u v, wh g (fX4_wayForth_b8 n 1 (nI t)) (nI w, nI f - 1, nI st, x) = some (nI (w + (pth L (lhl L).length - pth L f + pth L (t + 1))), u, v, x) := by
  have h8 := hall8 ho
  have hN : x.1 1 2 = nI (lhl L).length := hc.2.2.1
  intro d
  induction d with
  | zero =>
    intro f w st g h1 h2 h3 h4
    obtain ⟨g, rfl⟩ : ∃ z, g = z + 1 := ⟨g - 1, by omega⟩
    have hf : f = (lhl L).length := by omega
    have n1 : ¬ (lhl L).length ≤ st := by omega
    have e1 : (nI f - 1 = nI t) = ((f : Int) - 1 = t) := i_eq (tm1 (by omega)) (nI_toInt (by omega))
    have n2 : ¬ ((f : Int) - 1 = t) := by omega
    have n3 : (lhl L).length ≤ f := by omega
    have hz : (0 : Int32) = nI 0 := rfl
    have hb : fX4_wayForth_b8 n 1 (nI t) (nI w, nI f - 1, nI st, x) = some (.inl (nI (w + lth L (gt (lhl L) 0)), nI 0, nI (st + 1), x)) := by
      unfold fX4_wayForth_b8
      simp only [un4, hN, wIle (show (lhl L).length < 2 ^ 31 by omega) (show st < 2 ^ 31 by omega), n1, if_false, e1, n2, m1p1, wIle (show (lhl L).length < 2 ^ 31 by omega) (show f < 2 ^ 31 by omega), n3, if_true]
      rw [hz, forthJ hc ho _ (show 0 < (lhl L).length by omega)]
    obtain ⟨u, v, hu⟩ := forth1 hc ho (n := n) ht t 1 (w + lth L (gt (lhl L) 0)) (st + 1) g (by omega) (by omega) (by omega)
    have hz1 : nI 1 - 1 = nI 0 := nI_pred 0
    rw [hz1] at hu
    refine ⟨u, v, ?_⟩
    rw [wh_c hb, hu]
    have := pth_mono L (show 1 ≤ t + 1 by omega)
    have e : pth L 1 = lth L (gt (lhl L) 0) := by rw [pth_s]; exact Nat.zero_add _
    congr 3
    rw [hf]
    omega
  | succ d ih =>
    intro f w st g h1 h2 h3 h4
    obtain ⟨g, rfl⟩ : ∃ z, g = z + 1 := ⟨g - 1, by omega⟩
    have n1 : ¬ (lhl L).length ≤ st := by omega
    have e1 : (nI f - 1 = nI t) = ((f : Int) - 1 = t) := i_eq (tm1 (by omega)) (nI_toInt (by omega))
    have n2 : ¬ ((f : Int) - 1 = t) := by omega
    have n3 : ¬ (lhl L).length ≤ f := by omega
    have hb : fX4_wayForth_b8 n 1 (nI t) (nI w, nI f - 1, nI st, x) = some (.inl (nI (w + lth L (gt (lhl L) f)), nI f, nI (st + 1), x)) := by
      unfold fX4_wayForth_b8
      simp only [un4, hN, wIle (show (lhl L).length < 2 ^ 31 by omega) (show st < 2 ^ 31 by omega), n1, if_false, e1, n2, m1p1, wIle (show (lhl L).length < 2 ^ 31 by omega) (show f < 2 ^ 31 by omega), n3, forthJ hc ho _ (show f < (lhl L).length by omega)]
    obtain ⟨u, v, hu⟩ := ih (f + 1) (w + lth L (gt (lhl L) f)) (st + 1) g (by omega) (by omega) (by omega) (by omega)
    rw [nI_pred] at hu
    refine ⟨u, v, ?_⟩
    rw [wh_c hb, hu]
    have := pth_mono L (show f + 1 ≤ (lhl L).length by omega)
    have e := pth_s L f
    congr 3
    omega
theorem s_forth (hc : CL x 1 L) (ho : OKL L) {n t f : Nat} (hn : 40 ≤ n) (ht : t < (lhl L).length) (hf : f ≤ (lhl L).length) : fX4_wayForth n 1 (nI f - 1) (nI t) x = some (nI (fo L f t), x) := by
  have h8 := hall8 ho
  unfold fX4_wayForth fo
  by_cases h : f ≤ t + 1
  · obtain ⟨u, v, hu⟩ := forth1 hc ho (n := n) ht (t + 1 - f) f 0 0 n (by omega) (by omega) (by omega)
    have hu' : wh n (fX4_wayForth_b8 n 1 (nI t)) ((0 : Int32), nI f - 1, (0 : Int32), x) = _ := hu
    rw [hu', if_pos h]
    simp [un4]
  · obtain ⟨u, v, hu⟩ := forth2 hc ho (n := n) ht ((lhl L).length - f) f 0 0 n (by omega) (by omega) (by omega) (by omega)
    have hu' : wh n (fX4_wayForth_b8 n 1 (nI t)) ((0 : Int32), nI f - 1, (0 : Int32), x) = _ := hu
    rw [hu', if_neg h]
    simp [un4]
theorem back1 (hc : CL x 1 L) (ho : OKL L) {n t : Nat} (ht : t < (lhl L).length) : ∀ d f w st g, t + 1 + d = f → f ≤ (lhl L).length → st + d ≤ (lhl L).length → d < g → ∃ u v, wh g (fX4_wayBack_b8 n 1 (nI t)) (nI w, nI f - 1, nI st, x) = some (nI (w + (pth L (f - 1) - pth L t)), u, v, x) := by
  have h8 := hall8 ho
  have hN : x.1 1 2 = nI (lhl L).length := hc.2.2.1
  intro d
  induction d with
  | zero =>
    intro f w st g h1 h0 h2 h3
    obtain ⟨g, rfl⟩ : ∃ z, g = z + 1 := ⟨g - 1, by omega⟩
    have hf : f = t + 1 := by omega
    subst hf
    refine ⟨nI t, nI st, wh_e ?_⟩
    unfold fX4_wayBack_b8
    simp only [un4, hN, wIle (show (lhl L).length < 2 ^ 31 by omega) (show st < 2 ^ 31 by omega), nI_pred, if_true, Nat.add_sub_cancel, Nat.sub_self, Nat.add_zero]
    by_cases e : (lhl L).length ≤ st <;> simp [e]
  | succ d ih =>
    intro f w st g h1 h0 h2 h3
    obtain ⟨g, rfl⟩ : ∃ z, g = z + 1 := ⟨g - 1, by omega⟩
    have n1 : ¬ (lhl L).length ≤ st := by omega
    have e1 : (nI f - 1 = nI t) = ((f : Int) - 1 = t) := i_eq (tm1 (by omega)) (nI_toInt (by omega))
    have n2 : ¬ ((f : Int) - 1 = t) := by omega
    have e3 : (nI f - 1 ≤ (0 : Int32)) = ((f : Int) - 1 ≤ 0) := i_le (tm1 (by omega)) rfl
    have n3 : ¬ ((f : Int) - 1 ≤ 0) := by omega
    have e4 : nI f - 1 - 1 = nI (f - 2) := by rw [nI_m (by omega), nI_m (by omega)]; rfl
    have hb : fX4_wayBack_b8 n 1 (nI t) (nI w, nI f - 1, nI st, x) = some (.inl (nI (w + lth L (gt (lhl L) (f - 2))), nI (f - 2), nI (st + 1), x)) := by
      unfold fX4_wayBack_b8
      simp only [un4, hN, wIle (show (lhl L).length < 2 ^ 31 by omega) (show st < 2 ^ 31 by omega), n1, if_false, e1, n2, e3, n3, e4, backJ hc ho _ (show f - 2 < (lhl L).length by omega)]
    obtain ⟨u, v, hu⟩ := ih (f - 1) (w + lth L (gt (lhl L) (f - 2))) (st + 1) g (by omega) (by omega) (by omega) (by omega)
    rw [nI_m (show 0 < f - 1 by omega), show f - 1 - 1 = f - 2 by omega] at hu
    refine ⟨u, v, ?_⟩
    rw [wh_c hb, hu]
    have := pth_mono L (show t ≤ f - 2 by omega)
    have e := pth_s L (f - 2)
    rw [show f - 2 + 1 = f - 1 by omega] at e
    congr 3
    omega
theorem back2 (hc : CL x 1 L) (ho : OKL L) {n t : Nat} (ht : t < (lhl L).length) : ∀ d f w st g, d = f - 1 → f ≤ t → st + d + ((lhl L).length - t) ≤ (lhl L).length → d + (lhl L).length + 2 < g → ∃ u v, wh g (fX4_wayBack_b8 n 1 (nI t)) (nI w, nI f - 1, nI st, x) = some (nI (w + (pth L (lhl L).length - pth L t + pth L (f - 1))), u, v, x) := by
  have h8 := hall8 ho
  have hN : x.1 1 2 = nI (lhl L).length := hc.2.2.1
  intro d
  induction d with
  | zero =>
    intro f w st g h1 h2 h3 h4
    obtain ⟨g, rfl⟩ : ∃ z, g = z + 1 := ⟨g - 1, by omega⟩
    have n1 : ¬ (lhl L).length ≤ st := by omega
    have e1 : (nI f - 1 = nI t) = ((f : Int) - 1 = t) := i_eq (tm1 (by omega)) (nI_toInt (by omega))
    have n2 : ¬ ((f : Int) - 1 = t) := by omega
    have e3 : (nI f - 1 ≤ (0 : Int32)) = ((f : Int) - 1 ≤ 0) := i_le (tm1 (by omega)) rfl
    have n3 : ((f : Int) - 1 ≤ 0) := by omega
    have hb : fX4_wayBack_b8 n 1 (nI t) (nI w, nI f - 1, nI st, x) = some (.inl (nI (w + lth L (gt (lhl L) ((lhl L).length - 1))), nI ((lhl L).length - 1), nI (st + 1), x)) := by
      unfold fX4_wayBack_b8
      simp only [un4, hN, wIle (show (lhl L).length < 2 ^ 31 by omega) (show st < 2 ^ 31 by omega), n1, if_false, e1, n2, e3, n3, if_true, nI_m (show 0 < (lhl L).length by omega), backJ hc ho _ (show (lhl L).length - 1 < (lhl L).length by omega)]
    obtain ⟨u, v, hu⟩ := back1 hc ho (n := n) ht ((lhl L).length - (t + 1)) (lhl L).length (w + lth L (gt (lhl L) ((lhl L).length - 1))) (st + 1) g (by omega) (by omega) (by omega) (by omega)
    rw [nI_m (show 0 < (lhl L).length by omega)] at hu
    refine ⟨u, v, ?_⟩
    rw [wh_c hb, hu]
    have := pth_mono L (show t ≤ (lhl L).length - 1 by omega)
    have e := pth_s L ((lhl L).length - 1)
    rw [show (lhl L).length - 1 + 1 = (lhl L).length by omega] at e
    have e0 : pth L (f - 1) = 0 := by rw [← h1]; rfl
    congr 3
    omega
  | succ d ih =>
    intro f w st g h1 h2 h3 h4
    obtain ⟨g, rfl⟩ : ∃ z, g = z + 1 := ⟨g - 1, by omega⟩
    have n1 : ¬ (lhl L).length ≤ st := by omega
    have e1 : (nI f - 1 = nI t) = ((f : Int) - 1 = t) := i_eq (tm1 (by omega)) (nI_toInt (by omega))
    have n2 : ¬ ((f : Int) - 1 = t) := by omega
    have e3 : (nI f - 1 ≤ (0 : Int32)) = ((f : Int) - 1 ≤ 0) := i_le (tm1 (by omega)) rfl
    have n3 : ¬ ((f : Int) - 1 ≤ 0) := by omega
    have e4 : nI f - 1 - 1 = nI (f - 2) := by rw [nI_m (by omega), nI_m (by omega)]; rfl
    have hb : fX4_wayBack_b8 n 1 (nI t) (nI w, nI f - 1, nI st, x) = some (.inl (nI (w + lth L (gt (lhl L) (f - 2))), nI (f - 2), nI (st + 1), x)) := by
      unfold fX4_wayBack_b8
      simp only [un4, hN, wIle (show (lhl L).length < 2 ^ 31 by omega) (show st < 2 ^ 31 by omega), n1, if_false, e1, n2, e3, n3, e4, backJ hc ho _ (show f - 2 < (lhl L).length by omega)]
    obtain ⟨u, v, hu⟩ := ih (f - 1) (w + lth L (gt (lhl L) (f - 2))) (st + 1) g (by omega) (by omega) (by omega) (by omega)
    rw [nI_m (show 0 < f - 1 by omega), show f - 1 - 1 = f - 2 by omega] at hu
    refine ⟨u, v, ?_⟩
    rw [wh_c hb, hu]
    have e := pth_s L (f - 2)
    rw [show f - 2 + 1 = f - 1 by omega] at e
    congr 3
    omega
theorem s_back (hc : CL x 1 L) (ho : OKL L) {n t f : Nat} (hn : 40 ≤ n) (ht : t < (lhl L).length) (hf : f ≤ (lhl L).length) : fX4_wayBack n 1 (nI f - 1) (nI t) x = some (nI (ba L f t), x) := by
  have h8 := hall8 ho
  unfold fX4_wayBack ba
  by_cases h : t + 1 ≤ f
  · obtain ⟨u, v, hu⟩ := back1 hc ho (n := n) ht (f - (t + 1)) f 0 0 n (by omega) (by omega) (by omega) (by omega)
    have hu' : wh n (fX4_wayBack_b8 n 1 (nI t)) ((0 : Int32), nI f - 1, (0 : Int32), x) = _ := hu
    rw [hu']
    by_cases e : f = t + 1
    · subst e; simp [un4]
    · rw [if_neg e, if_pos (by omega)]; simp [un4]
  · obtain ⟨u, v, hu⟩ := back2 hc ho (n := n) ht (f - 1) f 0 0 n rfl (by omega) (by omega) (by omega)
    have hu' : wh n (fX4_wayBack_b8 n 1 (nI t)) ((0 : Int32), nI f - 1, (0 : Int32), x) = _ := hu
    rw [hu', if_neg (by omega), if_neg (by omega)]
    simp [un4]
theorem fo_le (ho : OKL L) {t f : Nat} (ht : t < (lhl L).length) : fo L f t ≤ 144 := by
  have h1 := pth_le ho (Nat.le_refl (lhl L).length)
  have h2 := pth_le ho (show t + 1 ≤ (lhl L).length by omega)
  unfold fo; split <;> omega
theorem ba_le (ho : OKL L) {t f : Nat} (hf : f ≤ (lhl L).length) : ba L f t ≤ 144 := by
  have h1 := pth_le ho (Nat.le_refl (lhl L).length)
  have h2 := pth_le ho (show f - 1 ≤ (lhl L).length by omega)
  unfold ba; split
  · omega
  · split <;> omega
theorem s_between (hc : CL x 1 L) (ho : OKL L) {n t f : Nat} (hn : 40 ≤ n) (ht : t < (lhl L).length) (hf : f ≤ (lhl L).length) : fX4_wayBetween n 1 (nI f - 1) (nI t) x = some (nI (sv L f t), x) := by
  have h8 := hall8 ho
  have h7 : x.1 (1 + 4) (0 : Int32).toNatClampNeg = nI (lri L) := hc.2.2.2.2.2.2.1
  have e1 : (nI (lri L) = (1 : Int32)) = (lri L = 1) := wIeq (b := 1) (by have := ho.2.2.2.2.2.2.1; omega) (by decide)
  have f1 := fo_le (L := L) (f := f) ho ht
  have f2 := ba_le (L := L) (t := t) ho hf
  have e2 : (nI (ba L f t) < nI (fo L f t)) = (ba L f t < fo L f t) := wIlt (by omega) (by omega)
  have e3 : (nI t ≤ nI f - 1) = ((t : Int) ≤ (f : Int) - 1) := i_le (nI_toInt (by omega)) (tm1 (by omega))
  unfold fX4_wayBetween sv
  simp only [h7, e1, s_forth hc ho hn ht hf, s_back hc ho hn ht hf, Option.bind_some, un2, e2, e3]
  by_cases a : lri L = 1
  · simp only [a, if_true]
    by_cases b : ba L f t < fo L f t <;> simp [b]
  · simp only [a, if_false]
    by_cases b : f ≤ t
    · have : ¬ ((t : Int) ≤ (f : Int) - 1) := by omega
      simp [b, this]
    · have : ((t : Int) ≤ (f : Int) - 1) := by omega
      simp [b, this]
end WALK
