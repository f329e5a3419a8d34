/-! ===== step apart ===== -/
def G3 (x : bq_S) (L : AL) (st pl : Nat) (cl : Bool) (two : Nat) : Prop := CL x 1 L ∧ NR x 1 L ∧ x.1 28 2 = nI st ∧ x.1 28 3 = nI pl ∧ x.1 28 5 = b2i cl ∧ x.1 28 6 = nI two
def fr3 (x x1 : bq_S) : Prop := (∀ c, c ≠ 25 → c ≠ 28 → x1.1 c = x.1 c) ∧ (∀ k, k ≠ 4 → x1.1 28 k = x.1 28 k) ∧ x1.2 = x.2
theorem fr3_rf (x : bq_S) : fr3 x x := ⟨fun _ _ _ => rfl, fun _ _ => rfl, rfl⟩
theorem fr3_tr {x y z : bq_S} (h1 : fr3 x y) (h2 : fr3 y z) : fr3 x z := ⟨fun c a b => (h2.1 c a b).trans (h1.1 c a b), fun k a => (h2.2.1 k a).trans (h1.2.1 k a), h2.2.2.trans h1.2.2⟩
theorem G3_fr {x x1 : bq_S} {L : AL} {st pl : Nat} {cl : Bool} {two : Nat} (h : fr3 x x1) (hc : G3 x L st pl cl two) : G3 x1 L st pl cl two := by
  obtain ⟨c1, c2, c3, c4, c5, c6⟩ := hc
  exact ⟨CL_of (fun c a b => h.1 c (by omega) (by omega)) c1, NR_of (h.1 7 (by decide) (by decide)) c2, by rw [h.2.1 _ (by decide)]; exact c3, by rw [h.2.1 _ (by decide)]; exact c4, by rw [h.2.1 _ (by decide)]; exact c5, by rw [h.2.1 _ (by decide)]; exact c6⟩
theorem fr3_tab {x x1 : bq_S} {fs : Nat} (h : tabE (bq_sI x 28 4 (nI fs)) x1) : fr3 x x1 := ⟨fun c a b => by rw [h.1 c a, sI_n _ _ _ b], fun k hk => by rw [h.1 28 (by decide), sI_s, pk_un hk], h.2⟩
theorem c3_step {x : bq_S} {L : AL} {st pl : Nat} {cl : Bool} {two : Nat} (hc : G3 x L st pl cl two) (h2 : two < 256) {u l b : Nat} (v : Int32) (hu : u < 256) (hl : l < 8) (hb : b < 8) : fX3_ofStep (nI u) (nI l) (nI b) v x = some (if tch L l b then (if pc (u &&& two) = 1 ∧ two.testBit b = false then v <<< ((1 : Int32) &&& 31) else v) else 0, x) := by
  have hlt : u &&& two < 256 := Nat.lt_of_le_of_lt Nat.and_le_left hu
  have hp := pc_le (u &&& two)
  have e1 : (nI (pc (u &&& two)) = (1 : Int32)) = (pc (u &&& two) = 1) := wIeq (b := 1) (by omega) (by decide)
  unfold fX3_ofStep fX3_ofStep_j43
  have d1 : ¬ (1 : Int32) = 0 := by decide
  simp only [s_touches hc.2.1 l b hl hb, Option.bind_some, un2, b2i_0, hc.2.2.2.2.2, wI_and, s_bitCount hlt, e1, s_has _ _ x (show two < 2 ^ 31 by omega) (show b < 31 by omega), d1, if_false, if_true]
  cases tch L l b
  · simp
  · by_cases c1 : pc (u &&& two) = 1
    · cases two.testBit b <;> simp [c1]
    · simp [c1]
theorem c3_whole {x : bq_S} {L : AL} {st pl : Nat} {cl : Bool} {two fs u l : Nat} (hc : G3 x L st pl cl two) (h4 : x.1 28 4 = nI fs) (hfs : fs < 8) (hl : l < 8) : fX3_ofWhole (nI u) (nI l) x = some (if WW L cl 255 (-1) fs u l then 1 else 0, x) := by
  unfold fX3_ofWhole WW
  simp only [hc.2.2.2.2.1, h4, s_touches hc.2.1 l fs hl hfs, Option.bind_some, un2, b2i_0, b255 hl, Bool.true_and, decide_true, Bool.true_or, Bool.and_true]
  cases cl
  · simp
  · cases tch L l fs <;> simp
theorem c3_from {x : bq_S} {L : AL} {st pl : Nat} {cl : Bool} {two fs n : Nat} (hc : G3 x L st pl cl two) (ho : OKL L) (hst : st < 2 ^ lm L) (h2 : two < 256) (hpl : pl ≤ 8) (hp1 : 1 ≤ pl) (hfs : fs < 8) (hsf : st.testBit fs = true) (hn : 300 ≤ n) : ∃ x1, fX8X3_from n (nI fs) x = some (nI (MG st two (tch L) (WW L cl 255 (-1) fs) (pl - 1) (2 ^ fs) fs), x1) ∧ fr3 x x1 := by
  have h256 : st < 256 := p8_256 ho.1 hst
  obtain ⟨x1, k1, k2, k3⟩ := w3_from (x := x) (n := n) (stp := fun u l b v => if tch L l b then (if pc (u &&& two) = 1 ∧ two.testBit b = false then v <<< ((1 : Int32) &&& 31) else v) else 0) (whl := fun u l => if WW L cl 255 (-1) fs u l then 1 else 0) hc.2.2.1 hc.2.2.2.1 h256 hpl hp1 hfs hsf hn (by
    intro x1 hx1 u l b v hu hl hb
    exact c3_step (G3_fr (fr3_tab hx1) hc) h2 v hu hl hb) (by
    intro x1 hx1 u l hu hsub hl hb
    exact c3_whole (G3_fr (fr3_tab hx1) hc) (by rw [hx1.1 28 (by decide), sI_s, pk_us]) hfs hl)
  rw [FF_MG _ _ _ _ _ _ _ (by omega)] at k1
  exact ⟨x1, k1, fr3_tab k2⟩
/-- the greatest, or none -/
def IsMx (P : Nat → Prop) : Option Nat → Prop
  | none => ∀ v, ¬ P v
  | some k => P k ∧ ∀ v, P v → v ≤ k
theorem IsMx_eq {P : Nat → Prop} : ∀ {o o1 : Option Nat}, IsMx P o → IsMx P o1 → o = o1
  | none, none, _, _ => rfl
  | none, some k, h, h1 => absurd h1.1 (h k)
  | some k, none, h, h1 => absurd h.1 (h1 k)
  | some k, some j, h, h1 => by rw [Nat.le_antisymm (h1.2 k h.1) (h.2 j h1.1)]
def mxo : Option Nat → Nat → Option Nat
  | none, v => some v
  | some k, v => some (if k < v then v else k)
theorem IsMx_s {P : Nat → Prop} {o : Option Nat} (v : Nat) (h : IsMx P o) : IsMx (fun w => P w ∨ w = v) (mxo o v) := by
  cases o with
  | none => exact ⟨Or.inr rfl, fun w hw => by rcases hw with hw | hw; exact absurd hw (h w); omega⟩
  | some k =>
    show IsMx _ (some (if k < v then v else k))
    by_cases c : k < v
    · rw [if_pos c]; exact ⟨Or.inr rfl, fun w hw => by rcases hw with hw | hw; have := h.2 w hw; omega; omega⟩
    · rw [if_neg c]; exact ⟨Or.inl h.1, fun w hw => by rcases hw with hw | hw; exact h.2 w hw; omega⟩
theorem IsMx_c {P P1 : Nat → Prop} {o : Option Nat} (h : IsMx P o) (e : ∀ v, P v ↔ P1 v) : IsMx P1 o := by
  have : P = P1 := funext (fun v => propext (e v))
  rw [← this]; exact h
def enc : Option Nat → Int32
  | none => -4
  | some k => nI k
theorem enc_lt {o : Option Nat} {v : Nat} (ho : ∀ k, o = some k → k < 100) (hv : v < 100) : (if enc o < nI v then nI v else enc o) = enc (mxo o v) := by
  cases o with
  | none =>
    have : (-4 : Int32) < nI v := by
      rw [Int32.lt_iff_toInt_lt, nI_toInt (by omega)]
      have : (-4 : Int32).toInt = -4 := rfl
      rw [this]; omega
    show (if (-4 : Int32) < nI v then nI v else -4) = nI v
    rw [if_pos this]
  | some k =>
    have hk := ho k rfl
    show (if nI k < nI v then nI v else nI k) = nI (if k < v then v else k)
    rw [show (if nI k < nI v then nI v else nI k) = if k < v then nI v else nI k by simp only [wIlt (show k < 2 ^ 31 by omega) (show v < 2 ^ 31 by omega)]]
    split <;> rfl
def vgN (cl : Bool) (sz g : Nat) : Nat := if cl then (if sz - 2 - g < g then sz - 2 - g else g) else g
theorem vgN_le (cl : Bool) (sz g : Nat) : vgN cl sz g ≤ g := by
  unfold vgN; split
  · split <;> omega
  · omega
theorem s_greatest {x : bq_S} {L : AL} (hc : CL x 1 L) (hN : NR x 1 L) (ho : OKL L) {s two n : Nat} (hs : s < 2 ^ lm L) (h2 : two < 256) (s0 : s ≠ 0) (hn : 300 ≤ n) (hg : ∀ g, (∃ r ∈ (PL s).filter (lawB (tch L) (decide (lri L = 1))), gp2 two 0 r = g) → g + 2 ≤ pc s) : ∃ o x1, fX3_greatest n (nI s) (nI two) x = some (enc o, x1) ∧ IsMx (fun v => ∃ r ∈ (PL s).filter (lawB (tch L) (decide (lri L = 1))), v = vgN (decide (lri L = 1 ∧ 3 ≤ pc s)) (pc s) (gp2 two 0 r)) o ∧ (∀ c, c ≠ 25 → c ≠ 28 → x1.1 c = x.1 c) ∧ x1.2 = x.2 := by
  have h256 : s < 256 := p8_256 ho.1 hs
  have hp := pc_le s
  have hp1 := pc_ne h256 s0
  generalize hcl : decide (lri L = 1 ∧ 3 ≤ pc s) = cl at *
  have hAQ := AQ_law (L := L) h256 s0
  rw [hcl] at hAQ
  let xa := bq_sI (bq_sI (bq_sI (bq_sI x 28 2 (nI s)) 28 3 (nI (pc s))) 28 5 (b2i cl)) 28 6 (nI two)
  have fa : ∀ c, c ≠ 28 → xa.1 c = x.1 c := fun c h => by show (bq_sI (bq_sI (bq_sI (bq_sI x 28 2 (nI s)) 28 3 (nI (pc s))) 28 5 (b2i cl)) 28 6 (nI two)).1 c = _; rw [sI_n _ _ _ h, sI_n _ _ _ h, sI_n _ _ _ h, sI_n _ _ _ h]
  have hga : G3 xa L s (pc s) cl two := by
    refine ⟨CL_of (fun c a b => fa c (by omega)) hc, NR_of (fa 7 (by decide)) hN, ?_, ?_, ?_, ?_⟩
    · show (bq_sI (bq_sI (bq_sI (bq_sI x 28 2 (nI s)) 28 3 (nI (pc s))) 28 5 (b2i cl)) 28 6 (nI two)).1 28 2 = _
      rw [sI_s, pk_un (by decide), sI_s, pk_un (by decide), sI_s, pk_un (by decide), sI_s, pk_us]
    · show (bq_sI (bq_sI (bq_sI (bq_sI x 28 2 (nI s)) 28 3 (nI (pc s))) 28 5 (b2i cl)) 28 6 (nI two)).1 28 3 = _
      rw [sI_s, pk_un (by decide), sI_s, pk_un (by decide), sI_s, pk_us]
    · show (bq_sI (bq_sI (bq_sI (bq_sI x 28 2 (nI s)) 28 3 (nI (pc s))) 28 5 (b2i cl)) 28 6 (nI two)).1 28 5 = _
      rw [sI_s, pk_un (by decide), sI_s, pk_us]
    · show (bq_sI (bq_sI (bq_sI (bq_sI x 28 2 (nI s)) 28 3 (nI (pc s))) 28 5 (b2i cl)) 28 6 (nI two)).1 28 6 = _
      rw [sI_s, pk_us]
  obtain ⟨z, hz, h1, h3⟩ := wh_for (b := fX3_greatest_b30 n (nI (pc s))) (fun i z => z.1 = nI (((List.range i).filter s.testBit).foldl (fun acc b => acc ||| MG s two (tch L) (WW L cl 255 (-1) b) (pc s - 1) (2 ^ b) b) 0) ∧ z.2.1 = nI i ∧ fr3 xa z.2.2) (fun z => z.1 = nI (GA s two (tch L) (WW L cl 255 (-1)) (pc s - 1)) ∧ fr3 xa z.2.2) 8 (by
    rintro i ⟨v, w, z⟩ hi ⟨h0, h1, h3⟩
    dsimp only at h0 h1 h3
    subst h0 h1
    have n8 : ¬ 8 ≤ i := by omega
    have hcz := G3_fr h3 hga
    generalize hm : ((List.range i).filter s.testBit).foldl (fun acc b => acc ||| MG s two (tch L) (WW L cl 255 (-1) b) (pc s - 1) (2 ^ b) b) 0 = m
    have hbody : fX3_greatest_b30 n (nI (pc s)) (nI m, nI i, z) = if s.testBit i = false then some (.inl (nI m, nI (i + 1), z)) else (fX8X3_from n (nI i) z).bind (fun o20 => un2 o20 (fun v22 x21 => some (.inl (nI m ||| v22, nI (i + 1), x21)))) := by
      unfold fX3_greatest_b30
      simp only [un3, le8 (show i < 2 ^ 31 by omega), n8, if_false, hcz.2.2.1, s_has _ _ z (show s < 2 ^ 31 by omega) (show i < 31 by omega), Option.bind_some, un2, b2i_0, bd, nI_1]
    cases c : s.testBit i with
    | false =>
      rw [c, if_pos rfl] at hbody
      refine Or.inl ⟨_, hbody, ?_, rfl, h3⟩
      dsimp only
      rw [List.range_succ, List.filter_append]
      have : [i].filter s.testBit = [] := by simp [c]
      rw [this, List.append_nil, hm]
    | true =>
      obtain ⟨x1, k1, k2⟩ := c3_from hcz ho hs h2 hp hp1 hi c hn
      rw [c, if_neg (by decide), k1, Option.bind_some, un2_c, wI_or] at hbody
      refine Or.inl ⟨_, hbody, ?_, rfl, fr3_tr h3 k2⟩
      dsimp only
      rw [List.range_succ, List.filter_append, List.foldl_append, hm]
      have : [i].filter s.testBit = [i] := by simp [c]
      rw [this]; rfl) (by
    rintro ⟨v, w, z⟩ ⟨h0, h1, h3⟩
    dsimp only at h0 h1 h3
    subst h0 h1
    refine ⟨(nI (GA s two (tch L) (WW L cl 255 (-1)) (pc s - 1)), nI 8, z), ?_, rfl, h3⟩
    unfold fX3_greatest_b30
    simp only [un3, le8 (show 8 < 2 ^ 31 by omega), Nat.le_refl, if_true]
    rfl) n 0 ((0 : Int32), (0 : Int32), xa) (by omega) ⟨rfl, rfl, fr3_rf xa⟩ (by omega)
  obtain ⟨v, w, z⟩ := z
  dsimp only at h1 h3
  subst h1
  have hGlt := GA_lt s two (tch L) (WW L cl 255 (-1)) (show pc s - 1 ≤ 7 by omega)
  have hGbit : ∀ g, (GA s two (tch L) (WW L cl 255 (-1)) (pc s - 1)).testBit g = true ↔ ∃ r ∈ (PL s).filter (lawB (tch L) (decide (lri L = 1))), gp2 two 0 r = g := fun g => by rw [GA_bit, hAQ]
  generalize GA s two (tch L) (WW L cl 255 (-1)) (pc s - 1) = M at *
  have hz5 : z.1 28 5 = b2i cl := (G3_fr h3 hga).2.2.2.2.1
  obtain ⟨z2, hz2, ⟨o, e1, e2, e3⟩, e4⟩ := wh_for (b := fX3_greatest_b73 n (nI (pc s)) (nI M)) (fun i q => (∃ o, q.1 = enc o ∧ IsMx (fun v => ∃ g, g < i ∧ M.testBit g = true ∧ v = vgN cl (pc s) g) o ∧ ∀ k, o = some k → k < 100) ∧ q.2 = (nI i, z)) (fun q => (∃ o, q.1 = enc o ∧ IsMx (fun v => ∃ g, g < 8 ∧ M.testBit g = true ∧ v = vgN cl (pc s) g) o ∧ ∀ k, o = some k → k < 100) ∧ q.2 = (nI 8, z)) 8 (by
    rintro i ⟨v, q⟩ hi ⟨⟨o, e1, e2, e3⟩, e4⟩
    dsimp only at e1 e4
    subst e1 e4
    have n8 : ¬ 8 ≤ i := by omega
    cases c : M.testBit i with
    | false =>
      refine Or.inl ⟨(enc o, nI (i + 1), z), ?_, ⟨o, rfl, IsMx_c e2 (fun v => ?_), e3⟩, rfl⟩
      · unfold fX3_greatest_b73
        simp only [un3, le8 (show i < 2 ^ 31 by omega), n8, if_false, s_has _ _ z (show M < 2 ^ 31 by omega) (show i < 31 by omega), Option.bind_some, un2, b2i_0, c, if_true, bd, nI_1]
      · constructor
        · rintro ⟨g, g1, g2, g3⟩; exact ⟨g, by omega, g2, g3⟩
        · rintro ⟨g, g1, g2, g3⟩
          refine ⟨g, ?_, g2, g3⟩
          by_cases e : g = i
          · subst e; rw [c] at g2; exact absurd g2 (by decide)
          · omega
    | true =>
      have hgi := hg i ((hGbit i).mp c)
      have hvl := vgN_le cl (pc s) i
      refine Or.inl ⟨(enc (mxo o (vgN cl (pc s) i)), nI (i + 1), z), ?_, ⟨mxo o (vgN cl (pc s) i), rfl, IsMx_c (IsMx_s _ e2) (fun v => ?_), ?_⟩, rfl⟩
      · have ee := enc_lt (v := vgN cl (pc s) i) e3 (by omega)
        have e22 : nI (pc s) - (2 : Int32) - nI i = nI (pc s - 2 - i) := by
          show nI (pc s) - nI 2 - nI i = _
          rw [pk_sub (by omega), pk_sub (by omega)]
        unfold fX3_greatest_b73 fX3_greatest_j115
        simp only [un3, le8 (show i < 2 ^ 31 by omega), n8, if_false, s_has _ _ z (show M < 2 ^ 31 by omega) (show i < 31 by omega), Option.bind_some, un2, b2i_0, c, Bool.true_eq_false, hz5, bd, nI_1, e22, wIlt (show pc s - 2 - i < 2 ^ 31 by omega) (show i < 2 ^ 31 by omega)]
        cases cl
        · have ev : vgN false (pc s) i = i := rfl
          rw [ev] at ee ⊢
          rw [if_pos rfl, ee]
        · rw [if_neg (by decide)]
          by_cases c5 : pc s - 2 - i < i
          · have ev : vgN true (pc s) i = pc s - 2 - i := by unfold vgN; rw [if_pos rfl, if_pos c5]
            rw [ev] at ee ⊢
            rw [if_pos c5, ee]
          · have ev : vgN true (pc s) i = i := by unfold vgN; rw [if_pos rfl, if_neg c5]
            rw [ev] at ee ⊢
            rw [if_neg c5, ee]
      · constructor
        · rintro (⟨g, g1, g2, g3⟩ | g3)
          · exact ⟨g, by omega, g2, g3⟩
          · exact ⟨i, by omega, c, g3⟩
        · rintro ⟨g, g1, g2, g3⟩
          by_cases e : g = i
          · subst e; exact Or.inr g3
          · exact Or.inl ⟨g, by omega, g2, g3⟩
      · intro k hk
        cases o with
        | none => cases hk; omega
        | some j =>
          have := e3 j rfl
          unfold mxo at hk
          have hk := Option.some.inj hk
          rw [← hk]; split <;> omega) (by
    rintro ⟨v, q⟩ ⟨⟨o, e1, e2, e3⟩, e4⟩
    dsimp only at e1 e4
    subst e1 e4
    refine ⟨(enc o, nI 8, z), ?_, ⟨o, rfl, e2, e3⟩, rfl⟩
    unfold fX3_greatest_b73
    simp only [un3, le8 (show 8 < 2 ^ 31 by omega), Nat.le_refl, if_true]) n 0 ((-4 : Int32), (0 : Int32), z) (by omega) ⟨⟨none, rfl, fun v hv => by obtain ⟨g, g1, _⟩ := hv; omega, fun k hk => by cases hk⟩, rfl⟩ (by omega)
  obtain ⟨v2, q2⟩ := z2
  dsimp only at e1 e4
  subst e1 e4
  refine ⟨o, z, ?_, IsMx_c e2 (fun v => ?_), fun c a b => by rw [h3.1 c a b, fa c b], h3.2.2⟩
  · unfold fX3_greatest fX8X3_ask
    simp only [s_bitCount h256, Option.bind_some, un2, s_closes hc ho (pc s) (by omega), hcl, bd, b2i_01, if_true]
    rw [hz, Option.bind_some]
    simp only [un3]
    rw [hz2, Option.bind_some]
  · constructor
    · rintro ⟨g, g1, g2, g3⟩
      obtain ⟨r, hr, e⟩ := (hGbit g).mp g2
      exact ⟨r, hr, by rw [e]; exact g3⟩
    · rintro ⟨r, hr, e⟩
      have := hg _ ⟨r, hr, rfl⟩
      exact ⟨gp2 two 0 r, by omega, (hGbit _).mpr ⟨r, hr, rfl⟩, e⟩
