/-! ===== step forged: the class ===== -/
def G2 (x : bq_S) (L : AL) (st pl : Nat) (cl : Bool) : Prop := CL x 1 L ∧ NR x 1 L ∧ x.1 27 2 = nI st ∧ x.1 27 3 = nI pl ∧ x.1 27 5 = b2i cl
def fr2 (x x1 : bq_S) : Prop := (∀ c, c ≠ 25 → c ≠ 27 → x1.1 c = x.1 c) ∧ (∀ k, k ≠ 4 → x1.1 27 k = x.1 27 k) ∧ x1.2 = x.2
theorem fr2_rf (x : bq_S) : fr2 x x := ⟨fun _ _ _ => rfl, fun _ _ => rfl, rfl⟩
theorem fr2_tr {x y z : bq_S} (h1 : fr2 x y) (h2 : fr2 y z) : fr2 x z := ⟨fun c a b => (h2.1 c a b).trans (h1.1 c a b), fun k a => (h2.2.1 k a).trans (h1.2.1 k a), h2.2.2.trans h1.2.2⟩
theorem G2_fr {x x1 : bq_S} {L : AL} {st pl : Nat} {cl : Bool} (h : fr2 x x1) (hc : G2 x L st pl cl) : G2 x1 L st pl cl := by
  obtain ⟨c1, c2, c3, c4, c5⟩ := hc
  exact ⟨CL_of (fun c a b => h.1 c (by omega) (by omega)) c1, NR_of (h.1 7 (by decide) (by decide)) c2, by rw [h.2.1 _ (by decide)]; exact c3, by rw [h.2.1 _ (by decide)]; exact c4, by rw [h.2.1 _ (by decide)]; exact c5⟩
theorem G2_ln {x x1 : bq_S} {L : AL} {st pl : Nat} {cl : Bool} (h : lineC x x1) (hc : G2 x L st pl cl) : G2 x1 L st pl cl := by
  obtain ⟨c1, c2, c3, c4, c5⟩ := hc
  have e27 := h.1 27 (by decide)
  exact ⟨CL_of (fun c a b => h.1 c (by omega)) c1, NR_of (h.1 7 (by decide)) c2, by rw [e27]; exact c3, by rw [e27]; exact c4, by rw [e27]; exact c5⟩
theorem fr2_tab {x x1 : bq_S} {fs : Nat} (h : tabE (bq_sI x 27 4 (nI fs)) x1) : fr2 x x1 := ⟨fun c a b => by rw [h.1 c a, sI_n _ _ _ b], fun k hk => by rw [h.1 27 (by decide), sI_s, pk_un hk], h.2⟩
theorem c2_pair {x : bq_S} {L : AL} (hc : CL x 1 L) (hN : NR x 1 L) (ho : OKL L) {a b : Nat} (v : Int32) (ha : a < 8) (hb : b < 8) : fX2_ofPair (nI a) (nI b) v x = some (stpI L a b v, x) := by
  have h4 : x.1 4 a = nI (lha L a) := hc.2.2.2.2.2.1 a ha
  unfold fX2_ofPair stpI
  simp only [okN ha (by decide), if_true, cl0 (show a < 2 ^ 31 by omega), h4, s_has _ _ x (ha31 ho a) (show b < 31 by omega), Option.bind_some, un2, b2i_0, s_touches hN a b ha hb]
  by_cases c : v = 99
  · rw [if_pos c, if_pos c]
  · rw [if_neg c, if_neg c]
    cases (lha L a).testBit b <;> cases tch L a b <;> simp
theorem c2_from {x : bq_S} {L : AL} {st pl : Nat} {cl : Bool} {fs n : Nat} (hc : G2 x L st pl cl) (ho : OKL L) (hst : st < 2 ^ lm L) (hpl : pl ≤ 8) (hp1 : 1 ≤ pl) (hfs : fs < 8) (hsf : st.testBit fs = true) (hn : 300 ≤ n) : ∃ x1, fX8X2_from n (nI fs) x = some (nI (FM L cl fs st (pl - 1) (2 ^ fs) fs), x1) ∧ fr2 x x1 ∧ x1.1 27 4 = nI fs ∧ TB x1 st pl fs 1 (fun k u l => nI (FM L cl fs st k u l)) := by
  have h256 : st < 256 := p8_256 ho.1 hst
  have hF : FF st 99 (fun _ l b v => stpI L l b v) w2B (fun _ l => nI (cst L cl fs l [])) = fun k u l => nI (FM L cl fs st k u l) := by
    funext k u l
    exact FF_FM L cl fs st k u l
  obtain ⟨x1, k1, k2, k3⟩ := w2_from (x := x) (n := n) (stp := fun _ l b v => stpI L l b v) (whl := fun _ l => nI (cst L cl fs l [])) hc.2.2.1 hc.2.2.2.1 h256 hpl hp1 hfs hsf hn (by
    intro x1 hx1 u l b v hu hl hb
    have h := G2_fr (fr2_tab hx1) hc
    unfold fX2_ofStep
    simp only [c2_pair h.1 h.2.1 ho v hl hb, Option.bind_some, un2]) (by
    intro x1 hx1 u l hu hsub hl hb
    have h := G2_fr (fr2_tab hx1) hc
    have h4 : x1.1 27 4 = nI fs := by rw [hx1.1 27 (by decide), sI_s, pk_us]
    have e0 : (0 : Int32) = nI 0 := rfl
    unfold fX2_ofWhole
    simp only [h.2.2.2.2, h4, c2_pair h.1 h.2.1 ho (0 : Int32) hl hfs, Option.bind_some, un2, b2i_0]
    cases cl
    · rw [if_pos rfl]; rfl
    · rw [if_neg (by decide), e0, stpI_n (by decide)]; rfl)
  rw [hF] at k1 k3
  refine ⟨x1, k1, fr2_tab k2, ?_, k3⟩
  rw [k2.1 27 (by decide), sI_s, pk_us]
theorem tb_andn {s u b : Nat} (h : (andn s u).testBit b = true) : s.testBit b = true ∧ u.testBit b = false := by
  rw [andn_bit] at h
  cases h1 : s.testBit b
  · rw [h1] at h; simp at h
  · cases h2 : u.testBit b
    · exact ⟨rfl, rfl⟩
    · rw [h2] at h; simp at h
theorem c2_pick {x : bq_S} {L : AL} {st pl : Nat} {cl : Bool} {fs n : Nat} (hc : G2 x L st pl cl) (ho : OKL L) (hst : st < 2 ^ lm L) (hT : TB x st pl fs 1 (fun k u l => nI (FM L cl fs st k u l))) {p : List Nat} {u l k : Nat} (hl8 : l < 8) (hp1 : 1 ≤ p.length) (hu : u < 256) (hsub : andn u st = 0) (huf : u.testBit fs = true) (hul : u.testBit l = true) (hpu : pc u = p.length) (hk : p.length + (k + 1) = pl) (hpl : pl ≤ 8) (hm : FM L cl fs st (k + 1) u l < 99) (hn : 20 ≤ n) :
    ∃ b, b ∈ bits (andn st u) ∧ pst L (l, b) (FM L cl fs st k (u ||| 2 ^ b) b) = FM L cl fs st (k + 1) u l ∧ (∀ c ∈ bits (andn st u), c < b → pst L (l, c) (FM L cl fs st k (u ||| 2 ^ c) c) ≠ FM L cl fs st (k + 1) u l) ∧ wh n (fX2_trace_b35 n 42 8 (nI u) (nI p.length) (nI l)) ((0 : Int32), x) = some (nI b, bq_sI x 42 p.length (nI b)) := by
  have h256 : st < 256 := p8_256 ho.1 hst
  have ha : andn st u < 256 := andn_l8 h256
  have hmn := mnF_ok (fun b => pst L (l, b) (FM L cl fs st k (u ||| 2 ^ b) b)) (bits (andn st u)) 99
  have hmd : FM L cl fs st (k + 1) u l = mnF (fun b => pst L (l, b) (FM L cl fs st k (u ||| 2 ^ b) b)) (bits (andn st u)) 99 := rfl
  rw [← hmd] at hmn
  have htold : fX8X2_told (nI u) (nI l) x = some (nI (FM L cl fs st (k + 1) u l), x) := by
    have hval := hT u (Nat.pos_of_ne_zero (fun e => by rw [e] at hul; simp at hul)) hu hsub huf (by omega) l hl8 hul
    dsimp only at hval
    rw [show pl - pc u = k + 1 by omega] at hval
    have e2 : fX8_index (nI u) (nI l) x = some (nI (u * 8 + l), x) := by unfold fX8_index; rw [ix_8]
    unfold fX8X2_told
    rw [e2, Option.bind_some, un2_c, if_pos (okN (show u * 8 + l < 2048 by omega) (by decide)), cl0 (show u * 8 + l < 2 ^ 31 by omega), hval]
  have honBy : ∀ b, b < 8 → (andn st u).testBit b = true → fX8X2_onBy (nI u) (nI l) (nI b) x = some (nI (pst L (l, b) (FM L cl fs st k (u ||| 2 ^ b) b)), x) := by
    intro b hb hbit
    obtain ⟨hsb, hub⟩ := tb_andn hbit
    have hor := pc_or hu hb hub
    have hval := hT (u ||| 2 ^ b) (by omega) hor.2.2 (andn_or0 hsub hsb) (by rw [Nat.testBit_or, huf, Bool.true_or]) (by omega) b hb (by rw [Nat.testBit_or, Nat.testBit_two_pow_self, Bool.or_true])
    dsimp only at hval
    rw [show pl - pc (u ||| 2 ^ b) = k by omega] at hval
    have e2 : fX8_index (nI (u ||| 2 ^ b)) (nI b) x = some (nI ((u ||| 2 ^ b) * 8 + b), x) := by unfold fX8_index; rw [ix_8]
    unfold fX8X2_onBy fX2_ofStep
    rw [s_bit b x (by omega), Option.bind_some, un2_c, wI_or, e2, Option.bind_some, un2_c, if_pos (okN (show (u ||| 2 ^ b) * 8 + b < 2048 by omega) (by decide)), cl0 (show (u ||| 2 ^ b) * 8 + b < 2 ^ 31 by omega), hval, c2_pair hc.1 hc.2.1 ho _ hl8 hb, Option.bind_some, un2_c, Option.bind_some, un2_c, stpI_n (FM_le _ _ _ _ _ _ _)]
  obtain ⟨z, hz, b, hb, h1, h2, rfl⟩ := wh_for (b := fX2_trace_b35 n 42 8 (nI u) (nI p.length) (nI l)) (fun i v => v = (nI i, x) ∧ ∀ c ∈ bits (andn st u), c < i → pst L (l, c) (FM L cl fs st k (u ||| 2 ^ c) c) ≠ FM L cl fs st (k + 1) u l) (fun z => ∃ b, b ∈ bits (andn st u) ∧ pst L (l, b) (FM L cl fs st k (u ||| 2 ^ b) b) = FM L cl fs st (k + 1) u l ∧ (∀ c ∈ bits (andn st u), c < b → pst L (l, c) (FM L cl fs st k (u ||| 2 ^ c) c) ≠ FM L cl fs st (k + 1) u l) ∧ z = (nI b, bq_sI x 42 p.length (nI b))) 8 (by
    rintro i _ hi ⟨rfl, h1⟩
    have n8 : ¬ 8 ≤ i := by omega
    have hbody : fX2_trace_b35 n 42 8 (nI u) (nI p.length) (nI l) (nI i, x) = if (andn st u).testBit i = false then some (.inl (nI (i + 1), x)) else (fX8X2_onBy (nI u) (nI l) (nI i) x).bind (fun o27 => un2 o27 (fun v29 x28 => (fX8X2_told (nI u) (nI l) x28).bind (fun o30 => un2 o30 (fun v32 x31 => if v29 = v32 then some (.inr (nI i, bq_sI x31 42 p.length (nI i))) else some (.inl (nI (i + 1), x31)))))) := by
      unfold fX2_trace_b35
      simp only [un2, le8 (show i < 2 ^ 31 by omega), n8, if_false, hc.2.2.1, wI_andn, s_has _ _ x (show andn st u < 2 ^ 31 by omega) (show i < 31 by omega), Option.bind_some, b2i_0, bd, nI_1, okN (show p.length < 8 by omega) (by decide), if_true, cl0 (show p.length < 2 ^ 31 by omega)]
    cases c : (andn st u).testBit i with
    | false =>
      rw [c, if_pos rfl] at hbody
      refine Or.inl ⟨_, hbody, rfl, fun d hd hlt => ?_⟩
      by_cases e : d = i
      · subst e; rw [(bits_mem.mp hd).2] at c; exact absurd c (by decide)
      · exact h1 d hd (by omega)
    | true =>
      have l1 := pst_le (L := L) (p := (l, i)) (FM_le L cl fs st k (u ||| 2 ^ i) i)
      have l2 := FM_le L cl fs st (k + 1) u l
      rw [c, if_neg (by decide), honBy i hi c, Option.bind_some, un2_c, htold, Option.bind_some, un2_c] at hbody
      have ee : (nI (pst L (l, i) (FM L cl fs st k (u ||| 2 ^ i) i)) = nI (FM L cl fs st (k + 1) u l)) = (pst L (l, i) (FM L cl fs st k (u ||| 2 ^ i) i) = FM L cl fs st (k + 1) u l) := wIeq (by omega) (by omega)
      by_cases c2 : pst L (l, i) (FM L cl fs st k (u ||| 2 ^ i) i) = FM L cl fs st (k + 1) u l
      · rw [if_pos (ee.mpr c2)] at hbody
        exact Or.inr ⟨_, hbody, i, bits_mem.mpr ⟨hi, c⟩, c2, h1, rfl⟩
      · rw [if_neg (fun h => c2 (ee.mp h))] at hbody
        refine Or.inl ⟨_, hbody, rfl, fun d hd hlt => ?_⟩
        by_cases e : d = i
        · subst e; exact c2
        · exact h1 d hd (by omega)) (by
    rintro _ ⟨rfl, h1⟩
    exfalso
    rcases hmn.2.2 with h | ⟨b, hb, h⟩
    · omega
    · exact h1 b hb (bits_mem.mp hb).1 h.symm) n 0 ((0 : Int32), x) (by omega) ⟨rfl, fun c _ h => by omega⟩ (by omega)
  exact ⟨b, hb, h1, h2, hz⟩
theorem c2_trace {x : bq_S} {L : AL} {st pl : Nat} {cl : Bool} {fs n : Nat} (hc : G2 x L st pl cl) (ho : OKL L) (hst : st < 2 ^ lm L) (hpl : pl ≤ 8) (hn : 20 ≤ n) (hfs : fs < 8) (hT : TB x st pl fs 1 (fun k u l => nI (FM L cl fs st k u l))) :
    ∀ k f (p : List Nat) (u l : Nat) (x1 : bq_S), lineC x x1 → CRow x1 42 p → gt p (p.length - 1) = l → l < 8 → 1 ≤ p.length → u < 256 → andn u st = 0 → u.testBit fs = true → u.testBit l = true → pc u = p.length → p.length + k = pl → k < f → FM L cl fs st k u l < 99 → ∃ r a b x2, wh f (fX2_trace_b17 n 42 8) (nI u, nI p.length, x1) = some (a, b, x2) ∧ CRow x2 42 (p ++ r) ∧ lineC x x2 ∧ (arrL k (bits (andn st u))).find? (fun r => decide (cst L cl fs l r = FM L cl fs st k u l)) = some r := by
  intro k
  induction k with
  | zero =>
    intro f p u l x1 hx1 hp hl hl8 hp1 hu hsub huf hul hpu hk hf hm
    obtain ⟨f, rfl⟩ : ∃ g, f = g + 1 := ⟨f - 1, by omega⟩
    refine ⟨[], nI u, nI p.length, x1, wh_e ?_, by rw [List.append_nil]; exact hp, hx1, ?_⟩
    · unfold fX2_trace_b17
      have e3 : x1.1 27 3 = nI pl := (G2_ln hx1 hc).2.2.2.1
      have hle : pl ≤ p.length := by omega
      simp only [un3, e3, wIle (show pl < 2 ^ 31 by omega) (show p.length < 2 ^ 31 by omega), hle, if_true]
    · have : decide (cst L cl fs l [] = FM L cl fs st 0 u l) = true := decide_eq_true rfl
      unfold arrL
      rw [List.find?_cons, this]
  | succ k ih =>
    intro f p u l x1 hx1 hp hl hl8 hp1 hu hsub huf hul hpu hk hf hm
    obtain ⟨f, rfl⟩ : ∃ g, f = g + 1 := ⟨f - 1, by omega⟩
    have hc1 := G2_ln hx1 hc
    have hT1 : TB x1 st pl fs 1 (fun k u l => nI (FM L cl fs st k u l)) := fun u a1 a2 a3 a4 a5 l b1 b2 => by
      rw [hx1.1 25 (by decide)]; exact hT u a1 a2 a3 a4 a5 l b1 b2
    obtain ⟨b, b1, b2, b3, b4⟩ := c2_pick (n := n) hc1 ho hst hT1 hl8 hp1 hu hsub huf hul hpu hk hpl hm hn
    have hbm := bits_mem.mp b1
    obtain ⟨hsb, hub⟩ := tb_andn hbm.2
    have hor := pc_or hu hbm.1 hub
    have hx2 : lineC x (bq_sI x1 42 p.length (nI b)) := ⟨fun c hc => by rw [sI_n _ _ _ hc]; exact hx1.1 c hc, hx1.2⟩
    have hrow : x1.1 42 (p.length - 1) = nI l := by rw [hp _ (by omega), hl]
    have hbody : fX2_trace_b17 n 42 8 (nI u, nI p.length, x1) = some (.inl (nI (u ||| 2 ^ b), nI (p ++ [b]).length, bq_sI x1 42 p.length (nI b))) := by
      have e3 : x1.1 27 3 = nI pl := hc1.2.2.2.1
      have hle : ¬ pl ≤ p.length := by omega
      unfold fX2_trace_b17
      simp only [un3, e3, wIle (show pl < 2 ^ 31 by omega) (show p.length < 2 ^ 31 by omega), hle, if_false, nI_m (show 0 < p.length by omega), okN (show p.length - 1 < 8 by omega) (by decide), if_true, cl0 (show p.length - 1 < 2 ^ 31 by omega), hrow, bd]
      rw [b4, Option.bind_some]
      have e42 : (bq_sI x1 42 p.length (nI b)).1 42 p.length = nI b := by rw [sI_s, pk_us]
      unfold fX2_trace_j91
      simp only [un2, okN (show p.length < 8 by omega) (by decide), if_true, cl0 (show p.length < 2 ^ 31 by omega), e42, s_bit b _ (show b < 31 by omega), Option.bind_some, wI_or, bd, nI_1, List.length_append, List.length_cons, List.length_nil, Nat.zero_add]
    have hmk : FM L cl fs st k (u ||| 2 ^ b) b < 99 := by
      apply Classical.byContradiction
      intro hge
      have h9 : FM L cl fs st k (u ||| 2 ^ b) b = 99 := by have := FM_le L cl fs st k (u ||| 2 ^ b) b; omega
      have : pst L (l, b) 99 = 99 := by
        unfold pst
        by_cases a : (lha L l).testBit b = true
        · rw [if_pos a]
        · rw [if_neg a]
          by_cases c : tch L l b = true
          · rw [if_pos c]
          · rw [if_neg c, if_pos rfl]
      rw [h9, this] at b2
      omega
    obtain ⟨r, a1, a2, x2, k1, k2, k3, k4⟩ := ih f (p ++ [b]) (u ||| 2 ^ b) b (bq_sI x1 42 p.length (nI b)) hx2 (CRow_app hp) (by rw [List.length_append, List.length_cons, List.length_nil, Nat.zero_add, Nat.add_sub_cancel]; exact gt_app1) hbm.1 (by simp) hor.2.2 (andn_or0 hsub hsb) (by rw [Nat.testBit_or, huf, Bool.true_or]) (by rw [Nat.testBit_or, Nat.testBit_two_pow_self, Bool.or_true]) (by rw [hor.1, hpu]; simp) (by simp; omega) (by omega) hmk
    refine ⟨b :: r, a1, a2, x2, by rw [wh_c hbody]; exact k1, ?_, k3, fst_step hm b1 rfl b2 b3 k4⟩
    have : p ++ [b] ++ r = p ++ b :: r := by simp
    rw [this] at k2; exact k2
/-- how many are to be forged for a row -/
def frg (L : AL) (cl : Bool) : List Nat → Nat
  | [] => 0
  | b :: q => cst L cl b b q
theorem frg_le (L : AL) (cl : Bool) (r : List Nat) : frg L cl r ≤ 99 := by
  cases r with
  | nil => exact Nat.zero_le _
  | cons b q => exact cst_le L cl b q b
theorem PL_cons {s k : Nat} (hk : (bits s).length = k + 1) : PL s = (bits s).flatMap (fun b => (arrL k (bits (andn s (2 ^ b)))).map (fun r => b :: r)) := by
  unfold PL
  rw [hk]
  show (bits s).flatMap _ = _
  congr 1
  funext b
  rw [bits_rm]
theorem s_fewest {x : bq_S} {L : AL} (hc : CL x 1 L) (hN : NR x 1 L) (ho : OKL L) {s n : Nat} (hs : s < 2 ^ lm L) (s0 : s ≠ 0) (hn : 300 ≤ n) : ∃ m x1, fX2_fewest n (nI s) 42 8 x = some (nI m, x1) ∧ m ≤ 99 ∧ (∀ r ∈ PL s, m ≤ frg L (decide (lri L = 1 ∧ 3 ≤ pc s)) r) ∧ (m < 99 → ∃ r, (PL s).find? (fun r => decide (frg L (decide (lri L = 1 ∧ 3 ≤ pc s)) r = m)) = some r ∧ CRow x1 42 r) ∧ (∀ c, c ≠ 25 → c ≠ 27 → c ≠ 42 → x1.1 c = x.1 c) ∧ x1.2 = x.2 := by
  have h256 : s < 256 := p8_256 ho.1 hs
  have hp := pc_le s
  have hp1 := pc_ne h256 s0
  have hpb := pc_bits h256
  generalize hcl : decide (lri L = 1 ∧ 3 ≤ pc s) = cl at *
  obtain ⟨k, hk⟩ : ∃ k, pc s = k + 1 := ⟨pc s - 1, by omega⟩
  have hPL := PL_cons (s := s) (k := k) (by omega)
  let xa := bq_sI (bq_sI (bq_sI x 27 2 (nI s)) 27 3 (nI (pc s))) 27 5 (b2i cl)
  have fa : ∀ c, c ≠ 27 → xa.1 c = x.1 c := fun c h => by show (bq_sI (bq_sI (bq_sI x 27 2 (nI s)) 27 3 (nI (pc s))) 27 5 (b2i cl)).1 c = _; rw [sI_n _ _ _ h, sI_n _ _ _ h, sI_n _ _ _ h]
  have hga : G2 xa L s (pc s) cl := by
    refine ⟨CL_of (fun c a b => fa c (by omega)) hc, NR_of (fa 7 (by decide)) hN, ?_, ?_, ?_⟩
    · show (bq_sI (bq_sI (bq_sI x 27 2 (nI s)) 27 3 (nI (pc s))) 27 5 (b2i cl)).1 27 2 = _
      rw [sI_s, pk_un (by decide), sI_s, pk_un (by decide), sI_s, pk_us]
    · show (bq_sI (bq_sI (bq_sI x 27 2 (nI s)) 27 3 (nI (pc s))) 27 5 (b2i cl)).1 27 3 = _
      rw [sI_s, pk_un (by decide), sI_s, pk_us]
    · show (bq_sI (bq_sI (bq_sI x 27 2 (nI s)) 27 3 (nI (pc s))) 27 5 (b2i cl)).1 27 5 = _
      rw [sI_s, pk_us]
  obtain ⟨z, hz, ⟨m, m1, m2, m3, m4⟩, h3⟩ := wh_for (b := fX2_fewest_b29 n 42 8) (fun i z => (∃ m, z.1 = nI m ∧ m ≤ 99 ∧ (∀ c ∈ bits s, c < i → m ≤ FM L cl c s k (2 ^ c) c) ∧ ((m = 99 ∧ z.2.1 = -1) ∨ ∃ b, z.2.1 = nI b ∧ b ∈ bits s ∧ FM L cl b s k (2 ^ b) b = m ∧ m < 99 ∧ ∀ c ∈ bits s, c < b → FM L cl c s k (2 ^ c) c ≠ m)) ∧ z.2.2.1 = nI i ∧ fr2 xa z.2.2.2) (fun z => (∃ m, z.1 = nI m ∧ m ≤ 99 ∧ (∀ c ∈ bits s, m ≤ FM L cl c s k (2 ^ c) c) ∧ ((m = 99 ∧ z.2.1 = -1) ∨ ∃ b, z.2.1 = nI b ∧ b ∈ bits s ∧ FM L cl b s k (2 ^ b) b = m ∧ m < 99 ∧ ∀ c ∈ bits s, c < b → FM L cl c s k (2 ^ c) c ≠ m)) ∧ fr2 xa z.2.2.2) 8 (by
    rintro i ⟨v, w, q, z⟩ hi ⟨⟨m, m1, m2, m3, m4⟩, h1, h3⟩
    dsimp only at m1 m4 h1 h3
    subst m1 h1
    have n8 : ¬ 8 ≤ i := by omega
    have hcz := G2_fr h3 hga
    have hbody : fX2_fewest_b29 n 42 8 (nI m, w, nI i, z) = if s.testBit i = false then some (.inl (nI m, w, nI (i + 1), z)) else (fX8X2_from n (nI i) z).bind (fun o21 => un2 o21 (fun v23 x22 => if nI m ≤ v23 then some (.inl (nI m, w, nI (i + 1), x22)) else some (.inl (v23, nI i, nI (i + 1), x22)))) := by
      unfold fX2_fewest_b29
      simp only [un4, le8 (show i < 2 ^ 31 by omega), n8, if_false, hcz.2.2.1, s_has _ _ z (show s < 2 ^ 31 by omega) (show i < 31 by omega), Option.bind_some, un2, b2i_0, bd, nI_1]
    cases c : s.testBit i with
    | false =>
      rw [c, if_pos rfl] at hbody
      refine Or.inl ⟨_, hbody, ⟨m, rfl, m2, fun d hd hlt => ?_, m4⟩, rfl, h3⟩
      by_cases e : d = i
      · subst e; rw [(bits_mem.mp hd).2] at c; exact absurd c (by decide)
      · exact m3 d hd (by omega)
    | true =>
      obtain ⟨x1, k1, k2, _, _⟩ := c2_from hcz ho hs hp hp1 hi c hn
      rw [show pc s - 1 = k by omega] at k1
      have hF9 := FM_le L cl i s k (2 ^ i) i
      rw [c, if_neg (by decide), k1, Option.bind_some, un2_c] at hbody
      have ee : (nI m ≤ nI (FM L cl i s k (2 ^ i) i)) = (m ≤ FM L cl i s k (2 ^ i) i) := wIle (by omega) (by omega)
      by_cases c2 : m ≤ FM L cl i s k (2 ^ i) i
      · rw [if_pos (ee.mpr c2)] at hbody
        refine Or.inl ⟨_, hbody, ⟨m, rfl, m2, fun d hd hlt => ?_, m4⟩, rfl, fr2_tr h3 k2⟩
        by_cases e : d = i
        · subst e; exact c2
        · exact m3 d hd (by omega)
      · rw [if_neg (fun h => c2 (ee.mp h))] at hbody
        refine Or.inl ⟨_, hbody, ⟨FM L cl i s k (2 ^ i) i, rfl, hF9, fun d hd hlt => ?_, Or.inr ⟨i, rfl, bits_mem.mpr ⟨hi, c⟩, rfl, by omega, fun d hd hlt => ?_⟩⟩, rfl, fr2_tr h3 k2⟩
        · by_cases e : d = i
          · subst e; exact Nat.le_refl _
          · have := m3 d hd (by omega); omega
        · have := m3 d hd (by omega); omega) (by
    rintro ⟨v, w, q, z⟩ ⟨⟨m, m1, m2, m3, m4⟩, h1, h3⟩
    dsimp only at m1 m4 h1 h3
    subst m1 h1
    refine ⟨(nI m, w, nI 8, z), ?_, ⟨m, rfl, m2, fun d hd => m3 d hd (bits_mem.mp hd).1, m4⟩, h3⟩
    unfold fX2_fewest_b29
    simp only [un4, le8 (show 8 < 2 ^ 31 by omega), Nat.le_refl, if_true]) n 0 ((99 : Int32), (-1 : Int32), (0 : Int32), xa) (by omega) ⟨⟨99, rfl, Nat.le_refl _, fun c _ h => by omega, Or.inl ⟨rfl, rfl⟩⟩, rfl, fr2_rf xa⟩ (by omega)
  obtain ⟨v, w, q, z⟩ := z
  dsimp only at m1 m4 h3
  subst m1
  have hall : ∀ r ∈ PL s, m ≤ frg L cl r := by
    intro r hr
    rw [hPL] at hr
    obtain ⟨b, hb, hr⟩ := List.mem_flatMap.mp hr
    obtain ⟨q, hq, rfl⟩ := List.mem_map.mp hr
    exact Nat.le_trans (m3 b hb) ((FM_spec L cl b s k (2 ^ b) b).1 q hq)
  have hfst : fX2_fewest n (nI s) 42 8 x = if w = -1 then some (nI m, z) else (fX8X2_from n w z).bind (fun o33 => un2 o33 (fun v35 x34 => (fX2_trace n 42 8 x34).bind (fun x37 => some (nI m, x37)))) := by
    unfold fX2_fewest fX8X2_ask
    simp only [s_bitCount h256, Option.bind_some, un2, s_closes hc ho (pc s) (by omega), hcl, bd, b2i_01, if_true]
    rw [hz, Option.bind_some]
    rfl
  rcases m4 with ⟨e, rfl⟩ | ⟨b, rfl, hb, hbm, hlt, hfirst⟩
  · refine ⟨m, z, by rw [hfst, if_pos rfl], m2, hall, fun h => by omega, fun c a b d => by rw [h3.1 c a b, fa c b], h3.2.2⟩
  · have hb8 := bits_mem.mp hb
    have hne : ¬ nI b = -1 := by
      have : ∀ b : Fin 8, ¬ nI b.val = -1 := by decide
      exact this ⟨b, hb8.1⟩
    have hcz := G2_fr h3 hga
    obtain ⟨z1, k1, k2, k3, k4⟩ := c2_from hcz ho hs hp hp1 hb8.1 hb8.2 hn
    obtain ⟨p1, p2, p3⟩ := pc_two hb8.1
    have hline0 : lineC z1 (bq_sI z1 42 0 (nI b)) := ⟨fun c hc => sI_n _ _ _ hc, rfl⟩
    obtain ⟨r, a1, a2, z2, t1, t2, t3, t4⟩ := c2_trace (G2_fr k2 hcz) ho hs hp (show 20 ≤ n by omega) hb8.1 k4 k n [b] (2 ^ b) b (bq_sI z1 42 0 (nI b)) hline0 (by
      intro i hi
      have : i = 0 := by simpa using hi
      subst this
      rw [sI_s, pk_us]; rfl) rfl hb8.1 (by simp) p2 (andn_two hb8.2) p3 p3 (by rw [p1]; rfl) (by simp; omega) (by omega) (by omega)
    have et : fX2_trace n 42 8 z1 = some z2 := by
      unfold fX2_trace
      have t1' : wh n (fX2_trace_b17 n 42 8) (nI (2 ^ b), (1 : Int32), bq_sI z1 42 0 (nI b)) = some (a1, a2, z2) := t1
      have ok0 : ok_i (0 : Int32) 8 = true := by decide
      have c00 : (0 : Int32).toNatClampNeg = 0 := rfl
      rw [k3, s_bit b z1 (by omega), Option.bind_some, un2_c, if_pos ok0, c00, k3]
      simp only [bd]
      rw [t1', Option.bind_some]
      rfl
    refine ⟨m, z2, by rw [hfst, if_neg hne, k1, Option.bind_some, un2_c, et, Option.bind_some], m2, hall, fun _ => ⟨b :: r, ?_, t2⟩, fun c a d e => by rw [t3.1 c e, k2.1 c a d, h3.1 c a d, fa c d], by rw [t3.2, k2.2.2, h3.2.2]; rfl⟩
    rw [hPL]
    refine find_flat (bits_asc _) hb ?_ ?_
    · intro c hc2 hcb q hq
      obtain ⟨q', hq', rfl⟩ := List.mem_map.mp hq
      apply decide_eq_false
      have h1 := m3 c hc2
      have h2 := hfirst c hc2 hcb
      have h4 := (FM_spec L cl c s k (2 ^ c) c).1 q' hq'
      show ¬ cst L cl c c q' = m
      omega
    · rw [List.find?_map]
      have e : ((fun r => decide (frg L cl r = m)) ∘ fun r => b :: r) = fun r => decide (cst L cl b b r = FM L cl b s k (2 ^ b) b) := by
        funext q
        rw [hbm]
        rfl
      rw [e, t4]; rfl
