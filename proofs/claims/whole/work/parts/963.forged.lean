/-! ===== step forged: the reference, and both ===== -/
def frB (y y1 : bq_S) : Prop := (∀ c, c ≠ 0 → c ≠ 10 → c ≠ 11 → c ≠ 12 → y1.1 c = y.1 c) ∧ (∀ k, k ≠ 17 → y1.1 0 k = y.1 0 k) ∧ y1.2 = y.2
theorem frB_rf (y : bq_S) : frB y y := ⟨fun _ _ _ _ _ => rfl, fun _ _ => rfl, rfl⟩
theorem frB_tr {x y z : bq_S} (h1 : frB x y) (h2 : frB y z) : frB x z := ⟨fun c a b d e => (h2.1 c a b d e).trans (h1.1 c a b d e), fun k hk => (h2.2.1 k hk).trans (h1.2.1 k hk), h2.2.2.trans h1.2.2⟩
theorem frB_row {y y1 : bq_S} (h : rowM y y1) : frB y y1 := ⟨fun c a b _ _ => h.1 c a b, h.2.1, h.2.2⟩
theorem frB_same {y y1 : bq_S} (h : frB y y1) : sameM y y1 := ⟨fun k hk => h.2.1 k (by omega), fun c a b => h.1 c (by omega) (by omega) (by omega) (by omega), fun c a b => h.1 c (by omega) (by omega) (by omega) (by omega), by rw [h.2.2]⟩
theorem frB_ML {y y1 : bq_S} {L : AL} (h : frB y y1) (hc : ML y L) : ML y1 L := by
  obtain ⟨a1, a2, a3, a4, a5, a6, a7, a8, a9⟩ := hc
  have e1 := h.1 1 (by decide) (by decide) (by decide) (by decide)
  have e2 := h.1 2 (by decide) (by decide) (by decide) (by decide)
  have e3 := h.1 3 (by decide) (by decide) (by decide) (by decide)
  have e4 := h.1 4 (by decide) (by decide) (by decide) (by decide)
  have e5 := h.1 5 (by decide) (by decide) (by decide) (by decide)
  exact ⟨by rw [h.2.1 0 (by decide)]; exact a1, by rw [h.2.1 4 (by decide)]; exact a2, by rw [h.2.1 6 (by decide)]; exact a3, fun i hi => by rw [e1]; exact a4 i hi, fun i hi => by rw [e2]; exact a5 i hi, fun i hi => by rw [e3]; exact a6 i hi, by rw [e4]; exact a7, by rw [e4]; exact a8, fun i hi => by rw [e5]; exact a9 i hi⟩
theorem prs_len (cl : Bool) (fs : Nat) : ∀ (q : List Nat) (l : Nat), (prs cl fs l q).length = q.length + (if cl then 1 else 0)
  | [], l => by unfold prs; cases cl <;> simp
  | b :: q, l => by unfold prs; rw [List.length_cons, prs_len cl fs q b, List.length_cons]; omega
theorem prs_get (cl : Bool) (fs : Nat) : ∀ (q : List Nat) (l k : Nat), k < q.length → (prs cl fs l q)[k]? = some (gt (l :: q) k, gt (l :: q) (k + 1))
  | [], l, k, h => by simp at h
  | b :: q, l, 0, h => by unfold prs; rfl
  | b :: q, l, k + 1, h => by
    unfold prs
    rw [List.getElem?_cons_succ, prs_get cl fs q b k (by simpa using h)]
    rfl
theorem prs_end (fs : Nat) : ∀ (q : List Nat) (l : Nat), (prs true fs l q)[q.length]? = some (gt (l :: q) q.length, fs)
  | [], l => by unfold prs; rfl
  | b :: q, l => by
    unfold prs
    rw [List.length_cons, List.getElem?_cons_succ, prs_end fs q b]
    rfl
theorem m_forges_step {y : bq_S} {L : AL} (hc : ML y L) (ho : OKL L) {n E i m V u w : Nat} (hi : i < E) (hE : E ≤ 8) (hm : 1 ≤ m) (hm8 : m ≤ 8) (h17 : y.1 0 17 = nI m) (hu : y.1 10 i = nI u) (hw : y.1 10 ((i + 1) % m) = nI w) (hul : u < lm L) (hwl : w < lm L) (hne : u ≠ w) (hV : V ≤ 99) : fX10_forges_b36 n (nI E) (nI V, nI i, y) = some (.inl (nI (pst L (u, w) V), nI (i + 1), y)) := by
  have h8 := ho.1
  have hj : (i + 1) % m < m := Nat.mod_lt _ (by omega)
  have n1 : ¬ E ≤ i := by omega
  have rem : nI (i + 1) - nI (i + 1) / nI m * nI m = nI ((i + 1) % m) := pk_rem (by omega) (by omega) (by omega)
  have n0 : ¬ nI m = 0 := nI_ne0 (by omega) (by omega)
  have e98 : ((98 : Int32) < nI V) = (98 < V) := wIlt (a := 98) (by decide) (by omega)
  have hha : y.1 3 u = nI (lha L u) := hc.2.2.2.2.2.1 _ hul
  have hmt := m_mayTouch hc ho u w hul hwl
  rw [← tch_may hul hwl hne] at hmt
  unfold fX10_forges_b36
  simp only [un3, wIle (show E < 2 ^ 31 by omega) (show i < 2 ^ 31 by omega), n1, if_false, okN (show i < 8 by omega) (by decide), if_true, bd, cl0 (show i < 2 ^ 31 by omega), hu, h17, n0, not_false_eq_true, nI_1, rem, okN (show (i + 1) % m < 8 by omega) (by decide), cl0 (show (i + 1) % m < 2 ^ 31 by omega), hw, e98, okN (show u < 8 by omega) (by decide), cl0 (show u < 2 ^ 31 by omega), hha, wI_bit (ha31 ho u) (show w < 31 by omega), b2i_1, hmt, Option.bind_some, un2, b2i_0]
  unfold pst
  dsimp only
  by_cases c1 : 98 < V
  · have e9 : V = 99 := by omega
    subst e9
    rw [if_pos (by decide)]
    cases (lha L u).testBit w <;> cases tch L u w <;> rfl
  · rw [if_neg c1]
    have n9 : ¬ V = 99 := by omega
    cases (lha L u).testBit w <;> cases tch L u w <;> simp [n9] <;> rfl
theorem m_forges {y : bq_S} {L : AL} (hc : ML y L) (ho : OKL L) {n b : Nat} {q : List Nat} (hn : 20 ≤ n) (hr : rowOK (lm L) (b :: q)) (hR : MRow y (b :: q)) : fX10_forges n y = some (nI (frg L (decide (lri L = 1 ∧ 3 ≤ q.length + 1)) (b :: q)), y) := by
  have hlen : q.length + 1 ≤ 8 := by
    have := Nat.le_trans (rowOK_len ho.1 hr) ho.1
    simpa using this
  generalize hcl : decide (lri L = 1 ∧ 3 ≤ q.length + 1) = cl
  have h17 : y.1 0 17 = nI (q.length + 1) := hR.1
  have hg : ∀ i, i < q.length + 1 → gt (b :: q) i < lm L := fun i hi => hr.2 _ (gt_mem (by simpa using hi))
  have hrow : ∀ i, i < q.length + 1 → y.1 10 i = nI (gt (b :: q) i) := fun i hi => hR.2 i (by simpa using hi)
  obtain ⟨E, hEd⟩ : ∃ E, E = q.length + (if cl then 1 else 0) := ⟨_, rfl⟩
  have hE1 : E ≤ q.length + 1 := by cases cl <;> simp at hEd <;> omega
  have key : wh n (fX10_forges_b36 n (nI E)) ((0 : Int32), (0 : Int32), y) = some (nI (frg L cl (b :: q)), nI E, y) := by
    have hpl : (prs cl b b q).length = E := by rw [prs_len, hEd]
    obtain ⟨z, hz, rfl⟩ := wh_for (b := fX10_forges_b36 n (nI E)) (fun i z => z = (nI (((prs cl b b q).take i).foldl (fun a p => pst L p a) 0), nI i, y)) (fun z => z = (nI (frg L cl (b :: q)), nI E, y)) E (by
      rintro i _ hi rfl
      have hv := pst_fl L ((prs cl b b q).take i) 0 (by decide)
      have hpair : (prs cl b b q)[i]? = some (gt (b :: q) i, gt (b :: q) ((i + 1) % (q.length + 1))) ∧ gt (b :: q) i ≠ gt (b :: q) ((i + 1) % (q.length + 1)) := by
        by_cases c : i < q.length
        · rw [prs_get cl b q b i c, Nat.mod_eq_of_lt (by omega)]
          exact ⟨rfl, gt_ne hr.1 (by simp; omega) (by simp; omega) (by omega)⟩
        · have hcl1 : cl = true := by
            cases cl
            · simp at hEd; omega
            · rfl
          subst hcl1
          have h3 := (of_decide_eq_true hcl).2
          have ei : i = q.length := by simp at hEd; omega
          subst ei
          rw [prs_end b q b, Nat.mod_self]
          exact ⟨rfl, gt_ne hr.1 (by simp) (by simp) (by omega)⟩
      obtain ⟨hp1, hp2⟩ := hpair
      have hj : (i + 1) % (q.length + 1) < q.length + 1 := Nat.mod_lt _ (by omega)
      have hst := m_forges_step (n := n) hc ho hi (by omega) (by omega) (by omega) h17 (hrow i (by omega)) (hrow _ hj) (hg i (by omega)) (hg _ hj) hp2 hv
      refine Or.inl ⟨_, hst, ?_⟩
      have htk : ((prs cl b b q).take (i + 1)).foldl (fun a p => pst L p a) 0 = pst L (gt (b :: q) i, gt (b :: q) ((i + 1) % (q.length + 1))) (((prs cl b b q).take i).foldl (fun a p => pst L p a) 0) := by
        rw [List.take_add_one, hp1, List.foldl_append]; rfl
      rw [htk]) (by
      rintro _ rfl
      refine ⟨_, ?_, rfl⟩
      have hE31 : E < 2 ^ 31 := by omega
      unfold fX10_forges_b36
      simp only [un3, Int32.le_refl, if_true]
      have : ((prs cl b b q).take E).foldl (fun a p => pst L p a) 0 = frg L cl (b :: q) := by
        rw [← hpl, List.take_length, pst_lr]; rfl
      rw [this]) n 0 ((0 : Int32), (0 : Int32), y) (by omega) rfl (by omega)
    exact hz
  have h7 : y.1 4 (0 : Int32).toNatClampNeg = nI (lri L) := hc.2.2.2.2.2.2.1
  have e1 : (nI (lri L) = (1 : Int32)) = (lri L = 1) := wIeq (b := 1) (by have := ho.2.2.2.2.2.2.1; omega) (by decide)
  have e2 : (nI (q.length + 1) ≤ (2 : Int32)) = (q.length + 1 ≤ 2) := wIle (b := 2) (by omega) (by decide)
  have em : nI (q.length + 1) - 1 = nI q.length := nI_pred _
  have hj : ∀ v, v = nI E → fX10_forges_j33 n (0 : Int32) v y = some (nI (frg L cl (b :: q)), y) := by
    rintro _ rfl
    unfold fX10_forges_j33
    rw [key, Option.bind_some]
    rfl
  unfold fX10_forges
  simp only [h7, e1, h17, e2, em]
  by_cases c1 : lri L = 1
  · rw [if_pos c1]
    by_cases c2 : q.length + 1 ≤ 2
    · rw [if_pos c2]
      apply hj
      have : cl = false := by rw [← hcl]; exact decide_eq_false (by omega)
      subst this
      rw [hEd]; rfl
    · rw [if_neg c2]
      apply hj
      have : cl = true := by rw [← hcl]; exact decide_eq_true ⟨c1, by omega⟩
      subst this
      rw [hEd]; rfl
  · rw [if_neg c1]
    apply hj
    have : cl = false := by rw [← hcl]; exact decide_eq_false (fun h => c1 h.1)
    subst this
    rw [hEd]; rfl
/-- a row copied -/
theorem cp_loop {b : Int32 × bq_S → Option ((Int32 × bq_S) ⊕ (Int32 × bq_S))} {y : bq_S} {src dst len n : Nat} (hne : src ≠ dst) (hl : len < n) (hs : ∀ i z, i < len → (∀ c, c ≠ dst → z.1 c = y.1 c) → b (nI i, z) = some (.inl (nI (i + 1), bq_sI z dst i (z.1 src i)))) (he : ∀ z, (∀ c, c ≠ dst → z.1 c = y.1 c) → b (nI len, z) = some (.inr (nI len, z))) : ∃ y1, wh n b ((0 : Int32), y) = some (nI len, y1) ∧ (∀ k, k < len → y1.1 dst k = y.1 src k) ∧ (∀ c, c ≠ dst → y1.1 c = y.1 c) ∧ y1.2 = y.2 := by
  obtain ⟨z, hz, h1, h2, h3, h4⟩ := wh_for (b := b) (fun i z => z.1 = nI i ∧ (∀ k, k < i → z.2.1 dst k = y.1 src k) ∧ (∀ c, c ≠ dst → z.2.1 c = y.1 c) ∧ z.2.2 = y.2) (fun z => z.1 = nI len ∧ (∀ k, k < len → z.2.1 dst k = y.1 src k) ∧ (∀ c, c ≠ dst → z.2.1 c = y.1 c) ∧ z.2.2 = y.2) len (by
    rintro i ⟨v, z⟩ hi ⟨h0, h1, h2, h3⟩
    dsimp only at h0 h1 h2 h3
    subst h0
    refine Or.inl ⟨_, hs i z hi h2, rfl, fun k hk => ?_, fun c hc => ?_, h3⟩
    · dsimp only
      rw [sI_s]
      by_cases e : k = i
      · subst e; rw [pk_us, h2 src hne]
      · rw [pk_un e]; exact h1 k (by omega)
    · dsimp only
      rw [sI_n _ _ _ hc]; exact h2 c hc) (by
    rintro ⟨v, z⟩ ⟨h0, h1, h2, h3⟩
    dsimp only at h0 h1 h2 h3
    subst h0
    exact ⟨_, he z h2, rfl, h1, h2, h3⟩) n 0 ((0 : Int32), y) (by omega) ⟨rfl, fun k hk => by omega, fun _ _ => rfl, rfl⟩ (by omega)
  obtain ⟨v, z⟩ := z
  dsimp only at h1 h2 h3 h4
  subst h1
  exact ⟨z, hz, h2, h3, h4⟩
theorem m_forged_cp {y : bq_S} {n f o len : Nat} (p : Int32) (hn : 20 ≤ n) (h17 : y.1 0 17 = nI len) (h8 : len ≤ 8) (hf : f ≤ 99) (ho : o ≤ 99) : ∃ v y1, wh n (fX10_forged_b57 n p (nI f) (nI o)) ((0 : Int32), y) = some (v, y1) ∧ (o < f → ∀ k, k < len → y1.1 11 k = y.1 10 k) ∧ (¬ o < f → y1 = y) ∧ (∀ c, c ≠ 11 → y1.1 c = y.1 c) ∧ y1.2 = y.2 := by
  by_cases c : o < f
  · have nf : ¬ f ≤ o := by omega
    obtain ⟨y1, k1, k2, k3, k4⟩ := cp_loop (b := fX10_forged_b57 n p (nI f) (nI o)) (y := y) (src := 10) (dst := 11) (len := len) (n := n) (by decide) (by omega) (by
      intro i z hi hz
      have n1 : ¬ len ≤ i := by omega
      unfold fX10_forged_b57
      simp only [un2, hz 0 (by decide), h17, wIle (show len < 2 ^ 31 by omega) (show i < 2 ^ 31 by omega), n1, if_false, wIle (show f < 2 ^ 31 by omega) (show o < 2 ^ 31 by omega), nf, okN (show i < 8 by omega) (by decide), if_true, bd, cl0 (show i < 2 ^ 31 by omega), nI_1]) (by
      intro z hz
      unfold fX10_forged_b57
      simp only [un2, hz 0 (by decide), h17, Int32.le_refl, if_true])
    exact ⟨_, y1, k1, fun _ => k2, fun h => absurd c h, k3, k4⟩
  · obtain ⟨m, rfl⟩ : ∃ m, n = m + 1 := ⟨n - 1, by omega⟩
    refine ⟨0, y, wh_e ?_, fun h => absurd h c, fun _ => rfl, fun _ _ => rfl, rfl⟩
    have nf : f ≤ o := by omega
    unfold fX10_forged_b57
    simp only [un2, wIle (show f < 2 ^ 31 by omega) (show o < 2 ^ 31 by omega), nf, if_true]
    split <;> rfl
theorem RowAt_fr {s i : Nat} {g : Int32} {y y1 : bq_S} (h : RowAt s i g y) (h0 : y1.1 0 17 = y.1 0 17) (h10 : y1.1 10 = y.1 10) : RowAt s i g y1 := by
  rcases h with ⟨a, b, c⟩ | h
  · exact Or.inl ⟨a, b, by rw [h0]; exact c.1, fun k hk => by rw [h10]; exact c.2 k hk⟩
  · exact Or.inr h
theorem find_app1 {l : List (List Nat)} {a : List Nat} {p : List Nat → Bool} (h : ∀ r ∈ l, p r = false) (ha : p a = true) : (l ++ [a]).find? p = some a := by
  have : l.find? p = none := by
    rw [List.find?_eq_none]
    intro r hr
    rw [h r hr]; decide
  rw [List.find?_append, this]
  simp [ha]
theorem find_app2 {l : List (List Nat)} {a r : List Nat} {p : List Nat → Bool} (h : l.find? p = some r) : (l ++ [a]).find? p = some r := by
  rw [List.find?_append, h]; rfl
theorem m_forged_loop {y : bq_S} {L : AL} (hc : ML y L) (ho : OKL L) {s n : Nat} (p : Int32) (hs : s < 2 ^ lm L) (s0 : s ≠ 0) (hn : 41000 ≤ n) {y0 : bq_S} (h0 : RowAt s 0 1 y0) (hr : frB y y0) : ∃ m g y1, wh n (fX10_forged_b43 n p) ((99 : Int32), (1 : Int32), y0) = some (nI m, g, y1) ∧ m ≤ 99 ∧ (∀ r ∈ PL s, m ≤ frg L (decide (lri L = 1 ∧ 3 ≤ pc s)) r) ∧ (m < 99 → ∃ r, (PL s).find? (fun r => decide (frg L (decide (lri L = 1 ∧ 3 ≤ pc s)) r = m)) = some r ∧ CRow y1 11 r) ∧ frB y y1 := by
  have h256 : s < 256 := p8_256 ho.1 hs
  have hp1 := pc_ne h256 s0
  have hpb := pc_bits h256
  have hlen := PL_len s
  have hp8 := pc_le s
  generalize hcl : decide (lri L = 1 ∧ 3 ≤ pc s) = cl at *
  obtain ⟨z, hz, ⟨m, m1, m2, m3, m4⟩, h3⟩ := wh_for (b := fX10_forged_b43 n p) (fun i z => (∃ m, z.1 = nI m ∧ m ≤ 99 ∧ (∀ r ∈ (PL s).take i, m ≤ frg L cl r) ∧ (m < 99 → ∃ r, ((PL s).take i).find? (fun r => decide (frg L cl r = m)) = some r ∧ CRow z.2.2 11 r)) ∧ RowAt s i z.2.1 z.2.2 ∧ frB y z.2.2) (fun z => (∃ m, z.1 = nI m ∧ m ≤ 99 ∧ (∀ r ∈ PL s, m ≤ frg L cl r) ∧ (m < 99 → ∃ r, (PL s).find? (fun r => decide (frg L cl r = m)) = some r ∧ CRow z.2.2 11 r)) ∧ frB y z.2.2) (PL s).length (by
    rintro i ⟨v, g, z⟩ hi ⟨⟨m, m1, m2, m3, m4⟩, h1, h2⟩
    dsimp only at m1 m4 h1 h2
    subst m1
    rcases h1 with ⟨_, rfl, h1⟩ | ⟨h1, _⟩
    · have hrl : (PL s)[i].length = pc s := by rw [(PL_row hi).1, hpb]
      obtain ⟨b, q, hbq⟩ : ∃ b q, (PL s)[i] = b :: q := by
        cases h : (PL s)[i] with
        | nil => rw [h] at hrl; simp at hrl; omega
        | cons b q => exact ⟨b, q, rfl⟩
      have hql : q.length + 1 = pc s := by rw [← hrl, hbq]; rfl
      have hok := PL_ok hs hi
      have hfo : fX10_forges n z = some (nI (frg L cl (PL s)[i]), z) := by
        have := m_forges (n := n) (b := b) (q := q) (frB_ML h2 hc) ho (by omega) (by rw [← hbq]; exact hok) (by rw [← hbq]; exact h1)
        rw [hql, hcl] at this
        rw [hbq]; exact this
      have hle := frg_le L cl (PL s)[i]
      obtain ⟨w, z1, k1, k2, k3, k4, k5⟩ := m_forged_cp (y := z) (n := n) (f := m) (o := frg L cl (PL s)[i]) (len := (PL s)[i].length) p (by omega) h1.1 (PL_row8 hi).1 m2 hle
      have h1z : MRow z1 (PL s)[i] := ⟨by rw [k4 0 (by decide)]; exact h1.1, fun k hk => by rw [k4 10 (by decide)]; exact h1.2 k hk⟩
      obtain ⟨g, z2, j1, j2, j3⟩ := m_nextR (n := n) hi h1z (by omega)
      have hfr : frB y z2 := frB_tr h2 (frB_tr ⟨fun c a b d e => k4 c d, fun k hk => by rw [k4 0 (by decide)], k5⟩ (frB_row j3))
      have e10 : ¬ (1 : Int32) = 0 := by decide
      have e11 : z2.1 11 = z1.1 11 := j3.1 11 (by decide) (by decide)
      have hbody : fX10_forged_b43 n p (nI m, (1 : Int32), z) = if m ≤ frg L cl (PL s)[i] then some (.inl (nI m, g, z2)) else some (.inl (nI (frg L cl (PL s)[i]), g, z2)) := by
        unfold fX10_forged_b43 fX10_forged_j92 fX10_forged_j104
        simp only [un3, e10, if_false, hfo, Option.bind_some, un2, k1, wIle (show m < 2 ^ 31 by omega) (show frg L cl (PL s)[i] < 2 ^ 31 by omega), j1]
      by_cases c : m ≤ frg L cl (PL s)[i]
      · rw [if_pos c] at hbody
        have ez := k3 (by omega)
        refine Or.inl ⟨_, hbody, ⟨m, rfl, m2, fun r hr => ?_, fun hm => ?_⟩, j2, hfr⟩
        · rw [take_s hi] at hr
          rcases List.mem_append.mp hr with h | h
          · exact m3 r h
          · rw [List.mem_singleton.mp h]; exact c
        · obtain ⟨r, r1, r2⟩ := m4 hm
          refine ⟨r, by rw [take_s hi]; exact find_app2 r1, fun k hk => ?_⟩
          dsimp only
          rw [e11, ez]; exact r2 k hk
      · rw [if_neg c] at hbody
        refine Or.inl ⟨_, hbody, ⟨_, rfl, hle, fun r hr => ?_, fun hm => ⟨(PL s)[i], ?_, fun k hk => ?_⟩⟩, j2, hfr⟩
        · rw [take_s hi] at hr
          rcases List.mem_append.mp hr with h | h
          · have := m3 r h; omega
          · rw [List.mem_singleton.mp h]; exact Nat.le_refl _
        · rw [take_s hi]
          refine find_app1 (fun r hr => decide_eq_false ?_) (decide_eq_true rfl)
          have := m3 r hr; omega
        · dsimp only
          rw [e11, k2 (by omega) k hk]; exact h1.2 k hk
    · omega) (by
    rintro ⟨v, g, z⟩ ⟨⟨m, m1, m2, m3, m4⟩, h1, h2⟩
    dsimp only at m1 m4 h1 h2
    rcases h1 with ⟨h1, _⟩ | ⟨_, rfl⟩
    · exact absurd h1 (Nat.lt_irrefl _)
    · rw [List.take_length] at m3 m4
      refine ⟨(v, 0, z), ?_, ⟨m, m1, m2, m3, m4⟩, h2⟩
      unfold fX10_forged_b43
      simp only [un3, if_true]) n 0 ((99 : Int32), (1 : Int32), y0) (by omega) ⟨⟨99, rfl, Nat.le_refl _, fun r hr => by simp at hr, fun h => by omega⟩, h0, hr⟩ (by omega)
  obtain ⟨v, g, z⟩ := z
  dsimp only at m1 m4 h3
  subst m1
  exact ⟨m, g, z, hz, m2, m3, m4, h3⟩
theorem st_forged {n : Nat} (hn : 41000 ≤ n) : bs_forged Rl n := by
  rintro x y ⟨A, ho, hx, hy⟩ p1 p2
  unfold fX9_forged fX10_forged
  simp only [s_isSet hx.1 ho.1 p1, m_isSet hy.1 ho.1 p1, Option.bind_some, un2, b2i_0]
  cases hS : isS (lm A.1) p1 with
  | false => exact ⟨-1, x, y, by simp, by simp, A, ho, hx, hy⟩
  | true =>
    obtain ⟨s, hs, rfl⟩ := isS_of ho.1.1 hS
    have h256 := p8_256 ho.1.1 hs
    have hp8 := pc_le s
    have ez : (nI s = (0 : Int32)) = (s = 0) := nI_zero (by omega)
    simp only [Bool.true_eq_false, if_false, ez]
    by_cases s0 : s = 0
    · exact ⟨-1, x, y, by simp [s0], by simp [s0], A, ho, hx, hy⟩
    · simp only [s0, if_false, s_bitCount h256, m_size h256 (show 20 ≤ n by omega), Option.bind_some, m_in, b2i_0, Int32.toInt_toInt64, nI_m1 (show pc s < 2 ^ 30 by omega)]
      have em1 : (-1 : Int64).toInt = -1 := by decide
      have e1 : (p2 < (-1 : Int32)) = (p2.toInt < -1) := propext Int32.lt_iff_toInt_lt
      have e2 : (p2 < nI (pc s)) = (p2.toInt < pc s) := by rw [propext Int32.lt_iff_toInt_lt, nI_toInt (by omega)]
      simp only [em1, e1, e2]
      by_cases c1 : p2.toInt < -1
      · have d1 : decide (-1 ≤ p2.toInt ∧ p2.toInt ≤ (pc s : Int) - 1) = false := decide_eq_false (by omega)
        exact ⟨-1, x, y, by simp [c1], by simp only [d1, if_true], A, ho, hx, hy⟩
      · by_cases c2 : p2.toInt < pc s
        · have d1 : decide (-1 ≤ p2.toInt ∧ p2.toInt ≤ (pc s : Int) - 1) = true := decide_eq_true (by omega)
          obtain ⟨m, x1, k1, k2, k3, k4, k5, k6⟩ := s_fewest hx.1 hx.2.1 ho.1 hs s0 (show 300 ≤ n by omega)
          obtain ⟨y1, l1, l2, l3⟩ := m_firstR (y := y) h256 (show 20 ≤ n by omega)
          obtain ⟨m', g, y2, j1, j2, j3, j4, j5⟩ := m_forged_loop hy.1 ho.1 p2 hs s0 hn l2 (frB_row l3)
          have hm1 : m ≤ m' := by
            by_cases c : m' < 99
            · obtain ⟨r, r1, _⟩ := j4 c
              have := k3 r (List.mem_of_find?_eq_some r1)
              have h9 := List.find?_some r1
              have := of_decide_eq_true h9
              omega
            · omega
          have hm2 : m' ≤ m := by
            by_cases c : m < 99
            · obtain ⟨r, r1, _⟩ := k4 c
              have := j3 r (List.mem_of_find?_eq_some r1)
              have h9 := List.find?_some r1
              have := of_decide_eq_true h9
              omega
            · omega
          have hmm : m' = m := by omega
          subst hmm
          have hsame : sameC x x1 := ⟨fun c hc => k5 c (by omega) (by omega) (by omega), by rw [k5 22 (by omega) (by omega) (by omega)], k5 23 (by omega) (by omega) (by omega), fun s hs => k5 _ (by omega) (by omega) (by omega), k6⟩
          have e99 : (nI m' = (99 : Int32)) = (m' = 99) := wIeq (b := 99) (by omega) (by decide)
          have e98 : (nI m' ≤ (98 : Int32)) = (m' ≤ 98) := wIle (b := 98) (by omega) (by decide)
          have hfin : Rl x1 y2 := ⟨A, ho, CR_same hsame hx, MR_same (frB_same j5) hy⟩
          simp only [c1, if_false, c2, if_true, d1, Bool.true_eq_false, k1, l1, j1, Option.bind_some, un3, e99, e98]
          by_cases c3 : m' = 99
          · exact ⟨-4, x1, y2, by simp [c3], by simp [c3], hfin⟩
          · have c4 : m' ≤ 98 := by omega
            simp only [c3, if_false, c4, if_true]
            by_cases c5 : p2 = -1
            · subst c5
              have n5 : ¬ (0 : Int32) ≤ (-1 : Int32) := by decide
              exact ⟨nI m', x1, y2, by simp, by rw [if_neg n5], hfin⟩
            · have n6 : ¬ p2.toInt = -1 := fun h => c5 (Int32.toInt_inj.mp h)
              obtain ⟨k, hk, rfl⟩ := vp_in_of (x := p2) (n := pc s) (vp_in_iff.mpr (by omega)) (by omega)
              have p0 : (0 : Int32) ≤ nI k := nI_pos' (by omega)
              obtain ⟨r, r1, r2⟩ := k4 (by omega)
              obtain ⟨r', r1', r2'⟩ := j4 (by omega)
              rw [r1] at r1'
              cases r1'
              have hmem := List.mem_of_find?_eq_some r1
              have hrl : r.length = pc s := by rw [pc_bits h256]; exact (arr_mem.mp hmem).1
              refine ⟨nI (gt r k), x1, y2, ?_, ?_, hfin⟩
              · simp only [c5, if_false, okN (show k < 8 by omega) (by decide), if_true, cl0 (show k < 2 ^ 31 by omega), r2 k (by omega)]
              · simp only [p0, if_true, okN (show k < 8 by omega) (by decide), cl0 (show k < 2 ^ 31 by omega), r2' k (by omega)]
        · have d1 : decide (-1 ≤ p2.toInt ∧ p2.toInt ≤ (pc s : Int) - 1) = false := decide_eq_false (by omega)
          exact ⟨-1, x, y, by simp [c1, c2], by simp only [d1, if_true], A, ho, hx, hy⟩
