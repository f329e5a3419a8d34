/-! ===== step forged: the reference, and both ===== -/
def frB (y y1 : bq_S) : Prop := (∀ c, c ≠ 0 → c ≠ 10 → c ≠ 11 → c ≠ 12 → y1.1 c = y.1 c) ∧ (∀ k, k ≠ 17 → y1.1 0 k = y.1 0 k) ∧ y1.2 = y.2
theorem frB_rf (y : bq_S) : frB y y := ⟨fun _ _ _ _ _ => rfl, fun _ _ => rfl, rfl⟩
theorem frB_tr {x y z : bq_S} (h1 : frB x y) (h2 : frB y z) : frB x z := ⟨fun c a b d e => (h2.1 c a b d e).trans (h1.1 c a b d e), fun k hk => (h2.2.1 k hk).trans (h1.2.1 k hk), h2.2.2.trans h1.2.2⟩
theorem frB_row {y y1 : bq_S} (h : rowM y y1) : frB y y1 := ⟨fun c a b _ _ => h.1 c a b, h.2.1, h.2.2⟩
theorem frB_same {y y1 : bq_S} (h : frB y y1) : sameM y y1 := ⟨fun k hk => h.2.1 k (by omega), fun c a b => h.1 c (by omega) (by omega) (by omega) (by omega), fun c a b => h.1 c (by omega) (by omega) (by omega) (by omega), by rw [h.2.2]⟩
theorem frB_ML {y y1 : bq_S} {L : AL} (h : frB y y1) (hc : ML y L) : ML y1 L := by
  obtain ⟨a1, a2, a3, a4, a5, a6, a7, a8, a9⟩ := hc
  have e1 := h.1 1 (by decide) (by decide) (by decide) (by decide)
  have e2 := h.1 2 (by decide) (by decide) (by decide) (by decide)
  have e3 := h.1 3 (by decide) (by decide) (by decide) (by decide)
  have e4 := h.1 4 (by decide) (by decide) (by decide) (by decide)
  have e5 := h.1 5 (by decide) (by decide) (by decide) (by decide)
  exact ⟨by rw [h.2.1 0 (by decide)]; exact a1, by rw [h.2.1 4 (by decide)]; exact a2, by rw [h.2.1 6 (by decide)]; exact a3, fun i hi => by rw [e1]; exact a4 i hi, fun i hi => by rw [e2]; exact a5 i hi, fun i hi => by rw [e3]; exact a6 i hi, by rw [e4]; exact a7, by rw [e4]; exact a8, fun i hi => by rw [e5]; exact a9 i hi⟩
theorem prs_len (cl : Bool) (fs : Nat) : ∀ (q : List Nat) (l : Nat), (prs cl fs l q).length = q.length + (if cl then 1 else 0)
  | [], l => by unfold prs; cases cl <;> simp
  | b :: q, l => by unfold prs; rw [List.length_cons, prs_len cl fs q b, List.length_cons]; omega
theorem prs_get (cl : Bool) (fs : Nat) : ∀ (q : List Nat) (l k : Nat), k < q.length → (prs cl fs l q)[k]? = some (gt (l :: q) k, gt (l :: q) (k + 1))
  | [], l, k, h => by simp at h
  | b :: q, l, 0, h => by unfold prs; rfl
  | b :: q, l, k + 1, h => by
    unfold prs
    rw [List.getElem?_cons_succ, prs_get cl fs q b k (by simpa using h)]
    rfl
theorem prs_end (fs : Nat) : ∀ (q : List Nat) (l : Nat), (prs true fs l q)[q.length]? = some (gt (l :: q) q.length, fs)
  | [], l => by unfold prs; rfl
  | b :: q, l => by
    unfold prs
    rw [List.length_cons, List.getElem?_cons_succ, prs_end fs q b]
    rfl
theorem m_forges {y : bq_S} {L : AL} (hc : ML y L) (ho : OKL L) {n b : Nat} {q : List Nat} (hn : 20 ≤ n) (hr : rowOK (lm L) (b :: q)) (hR : MRow y (b :: q)) : fX10_forges n y = some (nI (frg L (decide (lri L = 1 ∧ 3 ≤ q.length + 1)) (b :: q)), y) := by
  have hlen : q.length + 1 ≤ 8 := by
    have := Nat.le_trans (rowOK_len ho.1 hr) ho.1
    simpa using this
  have hm8 := ho.1
  generalize hcl : decide (lri L = 1 ∧ 3 ≤ q.length + 1) = cl
  have h17 : y.1 0 17 = nI (q.length + 1) := hR.1
  have hg : ∀ i, i < q.length + 1 → gt (b :: q) i < lm L := fun i hi => hr.2 _ (gt_mem (by simpa using hi))
  have hrow : ∀ i, i < q.length + 1 → y.1 10 i = nI (gt (b :: q) i) := fun i hi => hR.2 i (by simpa using hi)
  -- the loop
  have key : wh n (fX10_forges_b36 n (nI (q.length + (if cl then 1 else 0)))) ((0 : Int32), (0 : Int32), y) = some (nI (frg L cl (b :: q)), nI (q.length + (if cl then 1 else 0)), y) := by
    have hpl := prs_len cl b q b
    obtain ⟨z, hz, rfl⟩ := wh_for (b := fX10_forges_b36 n (nI (q.length + (if cl then 1 else 0)))) (fun i z => z = (nI (((prs cl b b q).take i).foldl (fun a p => pst L p a) 0), nI i, y)) (fun z => z = (nI (frg L cl (b :: q)), nI (q.length + (if cl then 1 else 0)), y)) (q.length + (if cl then 1 else 0)) (by
      rintro i _ hi rfl
      have hi8 : i < 8 := by
        cases cl
        · simp at hi; omega
        · simp at hi; omega
      have hend : q.length + (if cl then 1 else 0) < 2 ^ 31 := by cases cl <;> simp <;> omega
      have n1 : ¬ q.length + (if cl then 1 else 0) ≤ i := by omega
      have hv := pst_fl L ((prs cl b b q).take i) 0 (by decide)
      generalize hV : ((prs cl b b q).take i).foldl (fun a p => pst L p a) 0 = V at hv
      -- the pair
      have hpair : (prs cl b b q)[i]? = some (gt (b :: q) i, gt (b :: q) ((i + 1) % (q.length + 1))) ∧ gt (b :: q) i ≠ gt (b :: q) ((i + 1) % (q.length + 1)) := by
        by_cases c : i < q.length
        · rw [prs_get cl b q b i c, Nat.mod_eq_of_lt (by omega)]
          exact ⟨rfl, gt_ne hr.1 (by simp; omega) (by simp; omega) (by omega)⟩
        · have hcl1 : cl = true := by
            cases cl
            · simp at hi; omega
            · rfl
          subst hcl1
          have h3 := (of_decide_eq_true hcl).2
          have ei : i = q.length := by simp at hi; omega
          subst ei
          rw [prs_end b q b, Nat.mod_self]
          exact ⟨rfl, gt_ne hr.1 (by simp) (by simp) (by omega)⟩
      obtain ⟨hp1, hp2⟩ := hpair
      have hj : (i + 1) % (q.length + 1) < q.length + 1 := Nat.mod_lt _ (by omega)
      have hi1 : i < q.length + 1 := by cases cl <;> simp at hi <;> omega
      have e1 := hg i hi1
      have e2 := hg _ hj
      have rem : (nI i + (1 : Int32)) - (nI i + (1 : Int32)) / nI (q.length + 1) * nI (q.length + 1) = nI ((i + 1) % (q.length + 1)) := by
        rw [nI_1]; exact pk_rem (by omega) (by omega) (by omega)
      have n0 : ¬ nI (q.length + 1) = 0 := nI_ne0 (by omega) (by omega)
      have e98 : ((98 : Int32) < nI V) = (98 < V) := wIlt (a := 98) (by decide) (by omega)
      have hha : y.1 3 (gt (b :: q) i) = nI (lha L (gt (b :: q) i)) := hc.2.2.2.2.2.1 _ e1
      have htk : ((prs cl b b q).take (i + 1)).foldl (fun a p => pst L p a) 0 = pst L (gt (b :: q) i, gt (b :: q) ((i + 1) % (q.length + 1))) V := by
        rw [List.take_add_one, hp1, List.foldl_append, hV]; rfl
      refine Or.inl ⟨_, ?_, rfl⟩
      rw [htk]
      generalize (i + 1) % (q.length + 1) = j at *
      generalize gt (b :: q) i = u at *
      have hrj := hrow j hj
      generalize gt (b :: q) j = w at *
      have hri : y.1 10 i = nI u := by rw [hrow i hi1]; assumption
      sorry) (by
      rintro _ rfl
      refine ⟨_, ?_, rfl⟩
      sorry) n 0 ((0 : Int32), (0 : Int32), y) (by omega) rfl (by sorry)
    exact hz
  sorry
