/-! ===== the class's tables: printed by gen/ways.py ===== -/
def tabE (x x1 : bq_S) : Prop := (∀ c, c ≠ 25 → x1.1 c = x.1 c) ∧ x1.2 = x.2
theorem tabE_rf (x : bq_S) : tabE x x := ⟨fun _ _ => rfl, rfl⟩
theorem tabE_tr {x y z : bq_S} (h1 : tabE x y) (h2 : tabE y z) : tabE x z := ⟨fun c a => (h2.1 c a).trans (h1.1 c a), h2.2.trans h1.2⟩
theorem tabE_to (x : bq_S) (k : Nat) (v : Int32) : tabE x (bq_sI x 25 k v) := ⟨fun c a => sI_n _ _ _ a, rfl⟩
def TB (x : bq_S) (st pl fs m : Nat) (F : Nat → Nat → Nat → Int32) : Prop := ∀ u, m ≤ u → u < 256 → andn u st = 0 → u.testBit fs = true → pc u ≤ pl → ∀ l, l < 8 → u.testBit l = true → x.1 25 (u * 8 + l) = F (pl - pc u) u l
theorem ix_8 (u l : Nat) : nI u * (8 : Int32) + nI l = nI (u * 8 + l) := by
  have : nI u * (8 : Int32) = nI (u * 8) := by
    show nI u * nI 8 = _
    unfold nI
    rw [← Int32.ofNat_mul]
  rw [this, nI_add]
theorem pc_or {u b : Nat} (hu : u < 256) (hb : b < 8) (h : u.testBit b = false) : pc (u ||| 2 ^ b) = pc u + 1 ∧ u < u ||| 2 ^ b ∧ u ||| 2 ^ b < 256 := by
  have : ∀ u : Fin 256, ∀ b : Fin 8, u.val.testBit b.val = false → pc (u.val ||| 2 ^ b.val) = pc u.val + 1 ∧ u.val < u.val ||| 2 ^ b.val ∧ u.val ||| 2 ^ b.val < 256 := by decide +kernel
  exact this ⟨u, hu⟩ ⟨b, hb⟩ h
theorem pc_two {b : Nat} (hb : b < 8) : pc (2 ^ b) = 1 ∧ 2 ^ b < 256 ∧ (2 ^ b).testBit b = true := by
  have : ∀ b : Fin 8, pc (2 ^ b.val) = 1 ∧ 2 ^ b.val < 256 ∧ (2 ^ b.val).testBit b.val = true := by decide +kernel
  exact this ⟨b, hb⟩
theorem pc_pos {u b : Nat} (hu : u < 256) (hb : b < 8) (h : u.testBit b = true) : 1 ≤ pc u := by
  have : ∀ u : Fin 256, ∀ b : Fin 8, u.val.testBit b.val = true → 1 ≤ pc u.val := by decide +kernel
  exact this ⟨u, hu⟩ ⟨b, hb⟩ h
theorem andn_sub {u st : Nat} (h : andn u st = 0) {i : Nat} (hi : u.testBit i = true) : st.testBit i = true := by
  have := congrArg (fun z => Nat.testBit z i) h
  simp only [andn_bit, hi, Bool.true_and, Nat.zero_testBit] at this
  cases h2 : st.testBit i
  · rw [h2] at this; exact absurd this (by decide)
  · rfl
theorem andn_or0 {u st b : Nat} (h : andn u st = 0) (hb : st.testBit b = true) : andn (u ||| 2 ^ b) st = 0 := by
  apply Nat.eq_of_testBit_eq
  intro i
  rw [andn_bit, Nat.testBit_or, Nat.zero_testBit, Nat.testBit_two_pow]
  by_cases e : b = i
  · subst e; simp [hb]
  · cases hu : u.testBit i
    · simp [e]
    · simp [andn_sub h hu]
theorem andn_two {st b : Nat} (hb : st.testBit b = true) : andn (2 ^ b) st = 0 := by
  have := andn_or0 (u := 0) (st := st) (b := b) (by simp [andn]) hb
  simpa using this
theorem andn_l8 {a b : Nat} (h : a < 256) : andn a b < 256 := by
  have h8 : (256 : Nat) = 2 ^ 8 := by decide
  rw [h8] at *
  exact Nat.xor_lt_two_pow h (Nat.lt_of_le_of_lt Nat.and_le_left h)
theorem un2_c {T0 T1 R : Type} (a : T0) (b : T1) (f : T0 → T1 → R) : un2 (a, b) f = f a b := rfl
def w0B (a b : Int32) : Int32 := a + b
def w2B (a b : Int32) : Int32 := if b < a then b else a
def w3B (a b : Int32) : Int32 := a ||| b

theorem w0_longer {x : bq_S} {n st u l : Nat} (h2 : x.1 26 2 = nI st) (hs : st < 256) (hu : u < 256) (hl : l < 8) (g : Nat → Int32) (hn : 20 ≤ n)
    (hstep : ∀ b, b < 8 → (andn st u).testBit b = true → fX0_ofStep (nI u) (nI l) (nI b) (x.1 25 ((u ||| 2 ^ b) * 8 + b)) x = some (g b, x)) : fX8X0_ofLonger n (nI u) (nI l) x = some ((bits (andn st u)).foldl (fun acc b => w0B acc (g b)) (0 : Int32), x) := by
  have ha : andn st u < 256 := andn_l8 hs
  obtain ⟨z, hz, rfl⟩ := wh_for (b := fX8X0_ofLonger_b8 n (nI u) (nI l)) (fun i v => v = (((List.range i).filter (andn st u).testBit).foldl (fun acc b => w0B acc (g b)) (0 : Int32), nI i, x)) (fun z => z = ((bits (andn st u)).foldl (fun acc b => w0B acc (g b)) (0 : Int32), nI 8, x)) 8 (by
    rintro i _ hi rfl
    have n8 : ¬ 8 ≤ i := by omega
    refine Or.inl ⟨_, ?_, rfl⟩
    unfold fX8X0_ofLonger_b8
    simp only [un3, le8 (show i < 2 ^ 31 by omega), n8, if_false, h2, wI_andn, s_has _ _ x (show andn st u < 2 ^ 31 by omega) (show i < 31 by omega), Option.bind_some, un2, b2i_0, bd, nI_1]
    rw [List.range_succ, List.filter_append, List.foldl_append]
    cases c : (andn st u).testBit i with
    | false =>
      rw [if_pos rfl]
      have : [i].filter (andn st u).testBit = [] := by simp [c]
      rw [this]; rfl
    | true =>
      rw [if_neg (by decide)]
      have hub : u.testBit i = false := by
        rw [andn_bit] at c
        cases h : u.testBit i
        · rfl
        · rw [h] at c; simp at c
      have hor := pc_or hu hi hub
      have : [i].filter (andn st u).testBit = [i] := by simp [c]
      rw [this]
      unfold fX8_index
      simp only [s_bit i x (show i < 31 by omega), Option.bind_some, wI_or, ix_8, okN (show (u ||| 2 ^ i) * 8 + i < 2048 by omega) (by decide), if_true, cl0 (show (u ||| 2 ^ i) * 8 + i < 2 ^ 31 by omega), hstep i hi c]
      rfl) (by
    rintro _ rfl
    refine ⟨_, ?_, rfl⟩
    unfold fX8X0_ofLonger_b8
    simp only [un3, le8 (show 8 < 2 ^ 31 by omega), Nat.le_refl, if_true]
    rfl) n 0 ((0 : Int32), (0 : Int32), x) (by omega) rfl (by omega)
  unfold fX8X0_ofLonger fX0_ofNone
  simp only [Option.bind_some, un2, hz, un3]
theorem w0_row {x : bq_S} {n st pl fs u : Nat} {stp : Nat → Nat → Nat → Int32 → Int32} {whl : Nat → Nat → Int32} (h2 : x.1 26 2 = nI st) (h3 : x.1 26 3 = nI pl) (hs : st < 256) (hpl : pl ≤ 8) (hn : 20 ≤ n)
    (hstep : ∀ x1, tabE x x1 → ∀ u l b v, u < 256 → l < 8 → b < 8 → fX0_ofStep (nI u) (nI l) (nI b) v x1 = some (stp u l b v, x1))
    (hwhole : ∀ x1, tabE x x1 → ∀ u l, u < 256 → andn u st = 0 → l < 8 → u.testBit l = true → fX0_ofWhole n (nI u) (nI l) x1 = some (whl u l, x1))
    (hu : u < 256) (hsub : andn u st = 0) (huf : u.testBit fs = true) (hpc : pc u ≤ pl) (hT : TB x st pl fs (u + 1) (FF st (0 : Int32) stp w0B whl)) :
    ∃ v x1, wh n (fX8X0_from_b54 n (nI u) (nI (pc u))) ((0 : Int32), x) = some (v, x1) ∧ tabE x x1 ∧ TB x1 st pl fs u (FF st (0 : Int32) stp w0B whl) := by
  have hpu := pc_le u
  obtain ⟨z, hz, h4, h5, h6⟩ := wh_for (b := fX8X0_from_b54 n (nI u) (nI (pc u))) (fun i z => z.1 = nI i ∧ tabE x z.2 ∧ (∀ l, l < i → u.testBit l = true → z.2.1 25 (u * 8 + l) = FF st (0 : Int32) stp w0B whl (pl - pc u) u l) ∧ (∀ j, (u + 1) * 8 ≤ j → z.2.1 25 j = x.1 25 j)) (fun z => tabE x z.2 ∧ (∀ l, l < 8 → u.testBit l = true → z.2.1 25 (u * 8 + l) = FF st (0 : Int32) stp w0B whl (pl - pc u) u l) ∧ (∀ j, (u + 1) * 8 ≤ j → z.2.1 25 j = x.1 25 j)) 8 (by
    rintro i ⟨v, z⟩ hi ⟨h0, h1, h4, h5⟩
    dsimp only at h0 h1 h4 h5
    subst h0
    have n8 : ¬ 8 ≤ i := by omega
    cases c : u.testBit i with
    | false =>
      refine Or.inl ⟨(nI (i + 1), z), ?_, rfl, h1, fun l hl hb => ?_, h5⟩
      · unfold fX8X0_from_b54
        simp only [un2, le8 (show i < 2 ^ 31 by omega), n8, if_false, s_has _ _ z (show u < 2 ^ 31 by omega) (show i < 31 by omega), Option.bind_some, c, b2i_0, if_true, bd, nI_1]
      · by_cases e : l = i
        · subst e; rw [c] at hb; exact absurd hb (by decide)
        · exact h4 l (by omega) hb
    | true =>
      have hz2 : z.1 26 2 = nI st := by rw [h1.1 26 (by decide)]; exact h2
      have hz3 : z.1 26 3 = nI pl := by rw [h1.1 26 (by decide)]; exact h3
      have hval : ∃ w, w = FF st (0 : Int32) stp w0B whl (pl - pc u) u i ∧ fX8X0_from_b54 n (nI u) (nI (pc u)) (nI i, z) = some (.inl (nI (i + 1), bq_sI z 25 (u * 8 + i) w)) := by
        by_cases ep : pc u = pl
        · refine ⟨whl u i, ?_, ?_⟩
          · rw [ep, Nat.sub_self]; rfl
          · unfold fX8X0_from_b54 fX8_index
            have c2 : (nI (pc u) = nI pl) = (pc u = pl) := wIeq (by omega) (by omega)
            simp only [un2, le8 (show i < 2 ^ 31 by omega), n8, if_false, s_has _ _ z (show u < 2 ^ 31 by omega) (show i < 31 by omega), Option.bind_some, c, b2i_0, Bool.true_eq_false, hz3, c2, ep, if_true, hwhole z h1 u i hu hsub hi c, ix_8, okN (show u * 8 + i < 2048 by omega) (by decide), cl0 (show u * 8 + i < 2 ^ 31 by omega), bd, nI_1]
        · obtain ⟨k, hk⟩ : ∃ k, pl - pc u = k + 1 := ⟨pl - pc u - 1, by omega⟩
          have hlong := w0_longer (x := z) (l := i) hz2 hs hu hi (fun b => stp u i b (FF st (0 : Int32) stp w0B whl k (u ||| 2 ^ b) b)) hn (by
            intro b hb hbit
            rw [andn_bit] at hbit
            have hub : u.testBit b = false := by
              cases h : u.testBit b
              · rfl
              · rw [h] at hbit; simp at hbit
            have hsb : st.testBit b = true := by
              cases h : st.testBit b
              · rw [h] at hbit; simp at hbit
              · rfl
            have hor := pc_or hu hb hub
            have hval : z.1 25 ((u ||| 2 ^ b) * 8 + b) = FF st (0 : Int32) stp w0B whl k (u ||| 2 ^ b) b := by
              rw [h5 _ (by omega), hT (u ||| 2 ^ b) (by omega) hor.2.2 (andn_or0 hsub hsb) (by rw [Nat.testBit_or, huf, Bool.true_or]) (by omega) b hb (by rw [Nat.testBit_or, Nat.testBit_two_pow_self, Bool.or_true])]
              congr 1
              omega
            rw [hval]
            exact hstep z h1 u i b _ hu hi hb)
          refine ⟨(bits (andn st u)).foldl (fun acc b => w0B acc (stp u i b (FF st (0 : Int32) stp w0B whl k (u ||| 2 ^ b) b))) (0 : Int32), by rw [hk]; rfl, ?_⟩
          · unfold fX8X0_from_b54 fX8_index
            have c2 : (nI (pc u) = nI pl) = (pc u = pl) := wIeq (by omega) (by omega)
            simp only [un2, le8 (show i < 2 ^ 31 by omega), n8, if_false, s_has _ _ z (show u < 2 ^ 31 by omega) (show i < 31 by omega), Option.bind_some, c, b2i_0, Bool.true_eq_false, hz3, c2, ep, hlong, ix_8, okN (show u * 8 + i < 2048 by omega) (by decide), if_true, cl0 (show u * 8 + i < 2 ^ 31 by omega), bd, nI_1]
      obtain ⟨w, hw, hb⟩ := hval
      refine Or.inl ⟨(nI (i + 1), bq_sI z 25 (u * 8 + i) w), hb, rfl, tabE_tr h1 (tabE_to _ _ _), fun l hl hbl => ?_, fun j hj => ?_⟩
      · dsimp only
        rw [sI_s]
        by_cases e : l = i
        · subst e; rw [pk_us, hw]
        · rw [pk_un (by omega)]; exact h4 l (by omega) hbl
      · dsimp only
        rw [sI_s, pk_un (by omega)]; exact h5 j hj) (by
    rintro ⟨v, z⟩ ⟨h0, h1, h4, h5⟩
    dsimp only at h0 h1 h4 h5
    subst h0
    refine ⟨(nI 8, z), ?_, h1, h4, h5⟩
    unfold fX8X0_from_b54
    simp only [un2, le8 (show 8 < 2 ^ 31 by omega), Nat.le_refl, if_true]) n 0 ((0 : Int32), x) (by omega) ⟨rfl, tabE_rf x, fun l hl => by omega, fun _ _ => rfl⟩ (by omega)
  obtain ⟨v, z⟩ := z
  refine ⟨v, z, hz, h4, fun u1 hu1 hu2 hs1 hf1 hp1 l hl hb => ?_⟩
  by_cases e : u1 = u
  · subst e; exact h5 l hl hb
  · dsimp only at h6
    rw [h6 _ (by omega)]
    exact hT u1 (by omega) hu2 hs1 hf1 hp1 l hl hb
theorem w0_from {x : bq_S} {n st pl fs : Nat} {stp : Nat → Nat → Nat → Int32 → Int32} {whl : Nat → Nat → Int32} (h2 : x.1 26 2 = nI st) (h3 : x.1 26 3 = nI pl) (hs : st < 256) (hpl : pl ≤ 8) (hp1 : 1 ≤ pl) (hfs : fs < 8) (hsf : st.testBit fs = true) (hn : 300 ≤ n)
    (hstep : ∀ x1, tabE (bq_sI x 26 4 (nI fs)) x1 → ∀ u l b v, u < 256 → l < 8 → b < 8 → fX0_ofStep (nI u) (nI l) (nI b) v x1 = some (stp u l b v, x1))
    (hwhole : ∀ x1, tabE (bq_sI x 26 4 (nI fs)) x1 → ∀ u l, u < 256 → andn u st = 0 → l < 8 → u.testBit l = true → fX0_ofWhole n (nI u) (nI l) x1 = some (whl u l, x1)) :
    ∃ x1, fX8X0_from n (nI fs) x = some (FF st (0 : Int32) stp w0B whl (pl - 1) (2 ^ fs) fs, x1) ∧ tabE (bq_sI x 26 4 (nI fs)) x1 ∧ TB x1 st pl fs 1 (FF st (0 : Int32) stp w0B whl) := by
  have g4 : (bq_sI x 26 4 (nI fs)).1 26 4 = nI fs := by rw [sI_s, pk_us]
  have g2 : (bq_sI x 26 4 (nI fs)).1 26 2 = nI st := by rw [sI_s, pk_un (by decide)]; exact h2
  have g3 : (bq_sI x 26 4 (nI fs)).1 26 3 = nI pl := by rw [sI_s, pk_un (by decide)]; exact h3
  obtain ⟨z, hz, h4, h5⟩ := wh_for (b := fX8X0_from_b9 n) (fun i z => ∃ u, u + i = 255 ∧ z.1 = nI u ∧ tabE (bq_sI x 26 4 (nI fs)) z.2 ∧ TB z.2 st pl fs (u + 1) (FF st (0 : Int32) stp w0B whl)) (fun z => tabE (bq_sI x 26 4 (nI fs)) z.2 ∧ TB z.2 st pl fs 1 (FF st (0 : Int32) stp w0B whl)) 255 (by
    rintro i ⟨v, z⟩ hi ⟨u, hui, h0, h1, hT'⟩
    dsimp only at h0 h1 hT'
    subst h0
    have z2 : z.1 26 2 = nI st := by rw [h1.1 26 (by decide)]; exact g2
    have z3 : z.1 26 3 = nI pl := by rw [h1.1 26 (by decide)]; exact g3
    have z4 : z.1 26 4 = nI fs := by rw [h1.1 26 (by decide)]; exact g4
    have hu8 : u < 256 := by omega
    have c0 : (nI u ≤ (0 : Int32)) = (u ≤ 0) := wIle (b := 0) (by omega) (by decide)
    have n0 : ¬ u ≤ 0 := by omega
    have hpu := pc_le u
    have em : nI u - 1 = nI (u - 1) := nI_m (by omega)
    have en : u - 1 + 1 = u := by omega
    have ea : (nI (andn u st) = (0 : Int32)) = (andn u st = 0) := nI_zero (by have := andn_l8 (b := st) hu8; omega)
    have hT2 : ∀ z1 : bq_S, TB z1 st pl fs u (FF st (0 : Int32) stp w0B whl) → TB z1 st pl fs (u - 1 + 1) (FF st (0 : Int32) stp w0B whl) := fun z1 h => by rw [en]; exact h
    by_cases c1 : andn u st = 0
    · have ea1 : (nI (andn u st) = (0 : Int32)) = True := by rw [ea]; exact eq_true c1
      cases c2 : u.testBit fs with
      | false =>
        refine Or.inl ⟨(nI (u - 1), z), ?_, u - 1, by omega, rfl, h1, hT2 z ?_⟩
        · unfold fX8X0_from_b9
          simp only [un2, c0, n0, if_false, s_bitCount hu8, Option.bind_some, z2, wI_andn, ea1, if_true, z4, s_has _ _ z (show u < 2 ^ 31 by omega) (show fs < 31 by omega), c2, b2i_0, bd, am1, em]
        · intro u1 hu1 a1 a2 a3 a4 l b1 b2
          by_cases e : u1 = u
          · subst e; rw [c2] at a3; exact absurd a3 (by decide)
          · exact hT' u1 (by omega) a1 a2 a3 a4 l b1 b2
      | true =>
        by_cases c3 : pc u ≤ pl
        · obtain ⟨v1, z1, k1, k2, k3⟩ := w0_row (x := z) (n := n) z2 z3 hs hpl (by omega) (fun x1 hx1 => hstep x1 (tabE_tr h1 hx1)) (fun x1 hx1 => hwhole x1 (tabE_tr h1 hx1)) hu8 c1 c2 c3 hT'
          refine Or.inl ⟨(nI (u - 1), z1), ?_, u - 1, by omega, rfl, tabE_tr h1 k2, hT2 z1 k3⟩
          unfold fX8X0_from_b9
          simp only [un2, c0, n0, if_false, s_bitCount hu8, Option.bind_some, z2, wI_andn, ea1, if_true, z4, s_has _ _ z (show u < 2 ^ 31 by omega) (show fs < 31 by omega), c2, b2i_0, Bool.true_eq_false, z3, wIle (show pc u < 2 ^ 31 by omega) (show pl < 2 ^ 31 by omega), c3, k1, bd, am1, em]
        · refine Or.inl ⟨(nI (u - 1), z), ?_, u - 1, by omega, rfl, h1, hT2 z ?_⟩
          · unfold fX8X0_from_b9
            simp only [un2, c0, n0, if_false, s_bitCount hu8, Option.bind_some, z2, wI_andn, ea1, if_true, z4, s_has _ _ z (show u < 2 ^ 31 by omega) (show fs < 31 by omega), c2, b2i_0, Bool.true_eq_false, z3, wIle (show pc u < 2 ^ 31 by omega) (show pl < 2 ^ 31 by omega), c3, bd, am1, em]
          · intro u1 hu1 a1 a2 a3 a4 l b1 b2
            by_cases e : u1 = u
            · subst e; exact absurd a4 c3
            · exact hT' u1 (by omega) a1 a2 a3 a4 l b1 b2
    · refine Or.inl ⟨(nI (u - 1), z), ?_, u - 1, by omega, rfl, h1, hT2 z ?_⟩
      · unfold fX8X0_from_b9
        simp only [un2, c0, n0, if_false, s_bitCount hu8, Option.bind_some, z2, wI_andn, ea, c1, bd, am1, em]
      · intro u1 hu1 a1 a2 a3 a4 l b1 b2
        by_cases e : u1 = u
        · subst e; exact absurd a2 c1
        · exact hT' u1 (by omega) a1 a2 a3 a4 l b1 b2) (by
    rintro ⟨v, z⟩ ⟨u, hui, h0, h1, hT⟩
    dsimp only at h0 h1 hT
    have e0 : u = 0 := by omega
    subst e0
    subst h0
    refine ⟨(nI 0, z), ?_, h1, hT⟩
    unfold fX8X0_from_b9
    have : nI 0 ≤ (0 : Int32) := by decide
    simp only [un2, this, if_true]) n 0 ((255 : Int32), bq_sI x 26 4 (nI fs)) (by omega) ⟨255, by omega, rfl, tabE_rf _, fun u1 hu1 a1 => by omega⟩ (by omega)
  obtain ⟨v, z⟩ := z
  refine ⟨z, ?_, h4, h5⟩
  have z4 : z.1 26 4 = nI fs := by rw [h4.1 26 (by decide)]; exact g4
  obtain ⟨p1, p2, p3⟩ := pc_two hfs
  have hv : z.1 25 (2 ^ fs * 8 + fs) = FF st (0 : Int32) stp w0B whl (pl - 1) (2 ^ fs) fs := by
    have := h5 (2 ^ fs) (Nat.two_pow_pos fs) p2 (andn_two hsf) p3 (by omega) fs hfs p3
    rw [p1] at this; exact this
  have e1 : fX8X0_from n (nI fs) x = (wh n (fX8X0_from_b9 n) ((255 : Int32), bq_sI x 26 4 (nI fs))).bind (fun e47 => un2 e47 (fun v48 x49 => (fX9_bit (x49.1 26 4) x49).bind (fun o50 => un2 o50 (fun v52 x51 => (fX8_index v52 (x51.1 26 4) x51).bind (fun o53 => un2 o53 (fun v55 x54 => if ok_i v55 2048 then some ((x54.1 25 v55.toNatClampNeg), x54) else none)))))) := by unfold fX8X0_from; rfl
  have e2 : fX8_index (nI (2 ^ fs)) (nI fs) z = some (nI (2 ^ fs * 8 + fs), z) := by unfold fX8_index; rw [ix_8]
  rw [e1, hz, Option.bind_some, un2_c, z4, s_bit fs z (by omega), Option.bind_some, un2_c, z4, e2, Option.bind_some, un2_c, if_pos (okN (show 2 ^ fs * 8 + fs < 2048 by omega) (by decide)), cl0 (show 2 ^ fs * 8 + fs < 2 ^ 31 by omega), hv]

theorem w2_longer {x : bq_S} {n st u l : Nat} (h2 : x.1 27 2 = nI st) (hs : st < 256) (hu : u < 256) (hl : l < 8) (g : Nat → Int32) (hn : 20 ≤ n)
    (hstep : ∀ b, b < 8 → (andn st u).testBit b = true → fX2_ofStep (nI u) (nI l) (nI b) (x.1 25 ((u ||| 2 ^ b) * 8 + b)) x = some (g b, x)) : fX8X2_ofLonger n (nI u) (nI l) x = some ((bits (andn st u)).foldl (fun acc b => w2B acc (g b)) (99 : Int32), x) := by
  have ha : andn st u < 256 := andn_l8 hs
  obtain ⟨z, hz, rfl⟩ := wh_for (b := fX8X2_ofLonger_b8 n (nI u) (nI l)) (fun i v => v = (((List.range i).filter (andn st u).testBit).foldl (fun acc b => w2B acc (g b)) (99 : Int32), nI i, x)) (fun z => z = ((bits (andn st u)).foldl (fun acc b => w2B acc (g b)) (99 : Int32), nI 8, x)) 8 (by
    rintro i _ hi rfl
    have n8 : ¬ 8 ≤ i := by omega
    refine Or.inl ⟨_, ?_, rfl⟩
    unfold fX8X2_ofLonger_b8
    simp only [un3, le8 (show i < 2 ^ 31 by omega), n8, if_false, h2, wI_andn, s_has _ _ x (show andn st u < 2 ^ 31 by omega) (show i < 31 by omega), Option.bind_some, un2, b2i_0, bd, nI_1]
    rw [List.range_succ, List.filter_append, List.foldl_append]
    cases c : (andn st u).testBit i with
    | false =>
      rw [if_pos rfl]
      have : [i].filter (andn st u).testBit = [] := by simp [c]
      rw [this]; rfl
    | true =>
      rw [if_neg (by decide)]
      have hub : u.testBit i = false := by
        rw [andn_bit] at c
        cases h : u.testBit i
        · rfl
        · rw [h] at c; simp at c
      have hor := pc_or hu hi hub
      have : [i].filter (andn st u).testBit = [i] := by simp [c]
      rw [this]
      unfold fX8_index
      simp only [s_bit i x (show i < 31 by omega), Option.bind_some, wI_or, ix_8, okN (show (u ||| 2 ^ i) * 8 + i < 2048 by omega) (by decide), if_true, cl0 (show (u ||| 2 ^ i) * 8 + i < 2 ^ 31 by omega), hstep i hi c]
      rfl) (by
    rintro _ rfl
    refine ⟨_, ?_, rfl⟩
    unfold fX8X2_ofLonger_b8
    simp only [un3, le8 (show 8 < 2 ^ 31 by omega), Nat.le_refl, if_true]
    rfl) n 0 ((99 : Int32), (0 : Int32), x) (by omega) rfl (by omega)
  unfold fX8X2_ofLonger fX2_ofNone
  simp only [Option.bind_some, un2, hz, un3]
theorem w2_row {x : bq_S} {n st pl fs u : Nat} {stp : Nat → Nat → Nat → Int32 → Int32} {whl : Nat → Nat → Int32} (h2 : x.1 27 2 = nI st) (h3 : x.1 27 3 = nI pl) (hs : st < 256) (hpl : pl ≤ 8) (hn : 20 ≤ n)
    (hstep : ∀ x1, tabE x x1 → ∀ u l b v, u < 256 → l < 8 → b < 8 → fX2_ofStep (nI u) (nI l) (nI b) v x1 = some (stp u l b v, x1))
    (hwhole : ∀ x1, tabE x x1 → ∀ u l, u < 256 → andn u st = 0 → l < 8 → u.testBit l = true → fX2_ofWhole (nI u) (nI l) x1 = some (whl u l, x1))
    (hu : u < 256) (hsub : andn u st = 0) (huf : u.testBit fs = true) (hpc : pc u ≤ pl) (hT : TB x st pl fs (u + 1) (FF st (99 : Int32) stp w2B whl)) :
    ∃ v x1, wh n (fX8X2_from_b54 n (nI u) (nI (pc u))) ((0 : Int32), x) = some (v, x1) ∧ tabE x x1 ∧ TB x1 st pl fs u (FF st (99 : Int32) stp w2B whl) := by
  have hpu := pc_le u
  obtain ⟨z, hz, h4, h5, h6⟩ := wh_for (b := fX8X2_from_b54 n (nI u) (nI (pc u))) (fun i z => z.1 = nI i ∧ tabE x z.2 ∧ (∀ l, l < i → u.testBit l = true → z.2.1 25 (u * 8 + l) = FF st (99 : Int32) stp w2B whl (pl - pc u) u l) ∧ (∀ j, (u + 1) * 8 ≤ j → z.2.1 25 j = x.1 25 j)) (fun z => tabE x z.2 ∧ (∀ l, l < 8 → u.testBit l = true → z.2.1 25 (u * 8 + l) = FF st (99 : Int32) stp w2B whl (pl - pc u) u l) ∧ (∀ j, (u + 1) * 8 ≤ j → z.2.1 25 j = x.1 25 j)) 8 (by
    rintro i ⟨v, z⟩ hi ⟨h0, h1, h4, h5⟩
    dsimp only at h0 h1 h4 h5
    subst h0
    have n8 : ¬ 8 ≤ i := by omega
    cases c : u.testBit i with
    | false =>
      refine Or.inl ⟨(nI (i + 1), z), ?_, rfl, h1, fun l hl hb => ?_, h5⟩
      · unfold fX8X2_from_b54
        simp only [un2, le8 (show i < 2 ^ 31 by omega), n8, if_false, s_has _ _ z (show u < 2 ^ 31 by omega) (show i < 31 by omega), Option.bind_some, c, b2i_0, if_true, bd, nI_1]
      · by_cases e : l = i
        · subst e; rw [c] at hb; exact absurd hb (by decide)
        · exact h4 l (by omega) hb
    | true =>
      have hz2 : z.1 27 2 = nI st := by rw [h1.1 27 (by decide)]; exact h2
      have hz3 : z.1 27 3 = nI pl := by rw [h1.1 27 (by decide)]; exact h3
      have hval : ∃ w, w = FF st (99 : Int32) stp w2B whl (pl - pc u) u i ∧ fX8X2_from_b54 n (nI u) (nI (pc u)) (nI i, z) = some (.inl (nI (i + 1), bq_sI z 25 (u * 8 + i) w)) := by
        by_cases ep : pc u = pl
        · refine ⟨whl u i, ?_, ?_⟩
          · rw [ep, Nat.sub_self]; rfl
          · unfold fX8X2_from_b54 fX8_index
            have c2 : (nI (pc u) = nI pl) = (pc u = pl) := wIeq (by omega) (by omega)
            simp only [un2, le8 (show i < 2 ^ 31 by omega), n8, if_false, s_has _ _ z (show u < 2 ^ 31 by omega) (show i < 31 by omega), Option.bind_some, c, b2i_0, Bool.true_eq_false, hz3, c2, ep, if_true, hwhole z h1 u i hu hsub hi c, ix_8, okN (show u * 8 + i < 2048 by omega) (by decide), cl0 (show u * 8 + i < 2 ^ 31 by omega), bd, nI_1]
        · obtain ⟨k, hk⟩ : ∃ k, pl - pc u = k + 1 := ⟨pl - pc u - 1, by omega⟩
          have hlong := w2_longer (x := z) (l := i) hz2 hs hu hi (fun b => stp u i b (FF st (99 : Int32) stp w2B whl k (u ||| 2 ^ b) b)) hn (by
            intro b hb hbit
            rw [andn_bit] at hbit
            have hub : u.testBit b = false := by
              cases h : u.testBit b
              · rfl
              · rw [h] at hbit; simp at hbit
            have hsb : st.testBit b = true := by
              cases h : st.testBit b
              · rw [h] at hbit; simp at hbit
              · rfl
            have hor := pc_or hu hb hub
            have hval : z.1 25 ((u ||| 2 ^ b) * 8 + b) = FF st (99 : Int32) stp w2B whl k (u ||| 2 ^ b) b := by
              rw [h5 _ (by omega), hT (u ||| 2 ^ b) (by omega) hor.2.2 (andn_or0 hsub hsb) (by rw [Nat.testBit_or, huf, Bool.true_or]) (by omega) b hb (by rw [Nat.testBit_or, Nat.testBit_two_pow_self, Bool.or_true])]
              congr 1
              omega
            rw [hval]
            exact hstep z h1 u i b _ hu hi hb)
          refine ⟨(bits (andn st u)).foldl (fun acc b => w2B acc (stp u i b (FF st (99 : Int32) stp w2B whl k (u ||| 2 ^ b) b))) (99 : Int32), by rw [hk]; rfl, ?_⟩
          · unfold fX8X2_from_b54 fX8_index
            have c2 : (nI (pc u) = nI pl) = (pc u = pl) := wIeq (by omega) (by omega)
            simp only [un2, le8 (show i < 2 ^ 31 by omega), n8, if_false, s_has _ _ z (show u < 2 ^ 31 by omega) (show i < 31 by omega), Option.bind_some, c, b2i_0, Bool.true_eq_false, hz3, c2, ep, hlong, ix_8, okN (show u * 8 + i < 2048 by omega) (by decide), if_true, cl0 (show u * 8 + i < 2 ^ 31 by omega), bd, nI_1]
      obtain ⟨w, hw, hb⟩ := hval
      refine Or.inl ⟨(nI (i + 1), bq_sI z 25 (u * 8 + i) w), hb, rfl, tabE_tr h1 (tabE_to _ _ _), fun l hl hbl => ?_, fun j hj => ?_⟩
      · dsimp only
        rw [sI_s]
        by_cases e : l = i
        · subst e; rw [pk_us, hw]
        · rw [pk_un (by omega)]; exact h4 l (by omega) hbl
      · dsimp only
        rw [sI_s, pk_un (by omega)]; exact h5 j hj) (by
    rintro ⟨v, z⟩ ⟨h0, h1, h4, h5⟩
    dsimp only at h0 h1 h4 h5
    subst h0
    refine ⟨(nI 8, z), ?_, h1, h4, h5⟩
    unfold fX8X2_from_b54
    simp only [un2, le8 (show 8 < 2 ^ 31 by omega), Nat.le_refl, if_true]) n 0 ((0 : Int32), x) (by omega) ⟨rfl, tabE_rf x, fun l hl => by omega, fun _ _ => rfl⟩ (by omega)
  obtain ⟨v, z⟩ := z
  refine ⟨v, z, hz, h4, fun u1 hu1 hu2 hs1 hf1 hp1 l hl hb => ?_⟩
  by_cases e : u1 = u
  · subst e; exact h5 l hl hb
  · dsimp only at h6
    rw [h6 _ (by omega)]
    exact hT u1 (by omega) hu2 hs1 hf1 hp1 l hl hb
theorem w2_from {x : bq_S} {n st pl fs : Nat} {stp : Nat → Nat → Nat → Int32 → Int32} {whl : Nat → Nat → Int32} (h2 : x.1 27 2 = nI st) (h3 : x.1 27 3 = nI pl) (hs : st < 256) (hpl : pl ≤ 8) (hp1 : 1 ≤ pl) (hfs : fs < 8) (hsf : st.testBit fs = true) (hn : 300 ≤ n)
    (hstep : ∀ x1, tabE (bq_sI x 27 4 (nI fs)) x1 → ∀ u l b v, u < 256 → l < 8 → b < 8 → fX2_ofStep (nI u) (nI l) (nI b) v x1 = some (stp u l b v, x1))
    (hwhole : ∀ x1, tabE (bq_sI x 27 4 (nI fs)) x1 → ∀ u l, u < 256 → andn u st = 0 → l < 8 → u.testBit l = true → fX2_ofWhole (nI u) (nI l) x1 = some (whl u l, x1)) :
    ∃ x1, fX8X2_from n (nI fs) x = some (FF st (99 : Int32) stp w2B whl (pl - 1) (2 ^ fs) fs, x1) ∧ tabE (bq_sI x 27 4 (nI fs)) x1 ∧ TB x1 st pl fs 1 (FF st (99 : Int32) stp w2B whl) := by
  have g4 : (bq_sI x 27 4 (nI fs)).1 27 4 = nI fs := by rw [sI_s, pk_us]
  have g2 : (bq_sI x 27 4 (nI fs)).1 27 2 = nI st := by rw [sI_s, pk_un (by decide)]; exact h2
  have g3 : (bq_sI x 27 4 (nI fs)).1 27 3 = nI pl := by rw [sI_s, pk_un (by decide)]; exact h3
  obtain ⟨z, hz, h4, h5⟩ := wh_for (b := fX8X2_from_b9 n) (fun i z => ∃ u, u + i = 255 ∧ z.1 = nI u ∧ tabE (bq_sI x 27 4 (nI fs)) z.2 ∧ TB z.2 st pl fs (u + 1) (FF st (99 : Int32) stp w2B whl)) (fun z => tabE (bq_sI x 27 4 (nI fs)) z.2 ∧ TB z.2 st pl fs 1 (FF st (99 : Int32) stp w2B whl)) 255 (by
    rintro i ⟨v, z⟩ hi ⟨u, hui, h0, h1, hT'⟩
    dsimp only at h0 h1 hT'
    subst h0
    have z2 : z.1 27 2 = nI st := by rw [h1.1 27 (by decide)]; exact g2
    have z3 : z.1 27 3 = nI pl := by rw [h1.1 27 (by decide)]; exact g3
    have z4 : z.1 27 4 = nI fs := by rw [h1.1 27 (by decide)]; exact g4
    have hu8 : u < 256 := by omega
    have c0 : (nI u ≤ (0 : Int32)) = (u ≤ 0) := wIle (b := 0) (by omega) (by decide)
    have n0 : ¬ u ≤ 0 := by omega
    have hpu := pc_le u
    have em : nI u - 1 = nI (u - 1) := nI_m (by omega)
    have en : u - 1 + 1 = u := by omega
    have ea : (nI (andn u st) = (0 : Int32)) = (andn u st = 0) := nI_zero (by have := andn_l8 (b := st) hu8; omega)
    have hT2 : ∀ z1 : bq_S, TB z1 st pl fs u (FF st (99 : Int32) stp w2B whl) → TB z1 st pl fs (u - 1 + 1) (FF st (99 : Int32) stp w2B whl) := fun z1 h => by rw [en]; exact h
    by_cases c1 : andn u st = 0
    · have ea1 : (nI (andn u st) = (0 : Int32)) = True := by rw [ea]; exact eq_true c1
      cases c2 : u.testBit fs with
      | false =>
        refine Or.inl ⟨(nI (u - 1), z), ?_, u - 1, by omega, rfl, h1, hT2 z ?_⟩
        · unfold fX8X2_from_b9
          simp only [un2, c0, n0, if_false, s_bitCount hu8, Option.bind_some, z2, wI_andn, ea1, if_true, z4, s_has _ _ z (show u < 2 ^ 31 by omega) (show fs < 31 by omega), c2, b2i_0, bd, am1, em]
        · intro u1 hu1 a1 a2 a3 a4 l b1 b2
          by_cases e : u1 = u
          · subst e; rw [c2] at a3; exact absurd a3 (by decide)
          · exact hT' u1 (by omega) a1 a2 a3 a4 l b1 b2
      | true =>
        by_cases c3 : pc u ≤ pl
        · obtain ⟨v1, z1, k1, k2, k3⟩ := w2_row (x := z) (n := n) z2 z3 hs hpl (by omega) (fun x1 hx1 => hstep x1 (tabE_tr h1 hx1)) (fun x1 hx1 => hwhole x1 (tabE_tr h1 hx1)) hu8 c1 c2 c3 hT'
          refine Or.inl ⟨(nI (u - 1), z1), ?_, u - 1, by omega, rfl, tabE_tr h1 k2, hT2 z1 k3⟩
          unfold fX8X2_from_b9
          simp only [un2, c0, n0, if_false, s_bitCount hu8, Option.bind_some, z2, wI_andn, ea1, if_true, z4, s_has _ _ z (show u < 2 ^ 31 by omega) (show fs < 31 by omega), c2, b2i_0, Bool.true_eq_false, z3, wIle (show pc u < 2 ^ 31 by omega) (show pl < 2 ^ 31 by omega), c3, k1, bd, am1, em]
        · refine Or.inl ⟨(nI (u - 1), z), ?_, u - 1, by omega, rfl, h1, hT2 z ?_⟩
          · unfold fX8X2_from_b9
            simp only [un2, c0, n0, if_false, s_bitCount hu8, Option.bind_some, z2, wI_andn, ea1, if_true, z4, s_has _ _ z (show u < 2 ^ 31 by omega) (show fs < 31 by omega), c2, b2i_0, Bool.true_eq_false, z3, wIle (show pc u < 2 ^ 31 by omega) (show pl < 2 ^ 31 by omega), c3, bd, am1, em]
          · intro u1 hu1 a1 a2 a3 a4 l b1 b2
            by_cases e : u1 = u
            · subst e; exact absurd a4 c3
            · exact hT' u1 (by omega) a1 a2 a3 a4 l b1 b2
    · refine Or.inl ⟨(nI (u - 1), z), ?_, u - 1, by omega, rfl, h1, hT2 z ?_⟩
      · unfold fX8X2_from_b9
        simp only [un2, c0, n0, if_false, s_bitCount hu8, Option.bind_some, z2, wI_andn, ea, c1, bd, am1, em]
      · intro u1 hu1 a1 a2 a3 a4 l b1 b2
        by_cases e : u1 = u
        · subst e; exact absurd a2 c1
        · exact hT' u1 (by omega) a1 a2 a3 a4 l b1 b2) (by
    rintro ⟨v, z⟩ ⟨u, hui, h0, h1, hT⟩
    dsimp only at h0 h1 hT
    have e0 : u = 0 := by omega
    subst e0
    subst h0
    refine ⟨(nI 0, z), ?_, h1, hT⟩
    unfold fX8X2_from_b9
    have : nI 0 ≤ (0 : Int32) := by decide
    simp only [un2, this, if_true]) n 0 ((255 : Int32), bq_sI x 27 4 (nI fs)) (by omega) ⟨255, by omega, rfl, tabE_rf _, fun u1 hu1 a1 => by omega⟩ (by omega)
  obtain ⟨v, z⟩ := z
  refine ⟨z, ?_, h4, h5⟩
  have z4 : z.1 27 4 = nI fs := by rw [h4.1 27 (by decide)]; exact g4
  obtain ⟨p1, p2, p3⟩ := pc_two hfs
  have hv : z.1 25 (2 ^ fs * 8 + fs) = FF st (99 : Int32) stp w2B whl (pl - 1) (2 ^ fs) fs := by
    have := h5 (2 ^ fs) (Nat.two_pow_pos fs) p2 (andn_two hsf) p3 (by omega) fs hfs p3
    rw [p1] at this; exact this
  have e1 : fX8X2_from n (nI fs) x = (wh n (fX8X2_from_b9 n) ((255 : Int32), bq_sI x 27 4 (nI fs))).bind (fun e47 => un2 e47 (fun v48 x49 => (fX9_bit (x49.1 27 4) x49).bind (fun o50 => un2 o50 (fun v52 x51 => (fX8_index v52 (x51.1 27 4) x51).bind (fun o53 => un2 o53 (fun v55 x54 => if ok_i v55 2048 then some ((x54.1 25 v55.toNatClampNeg), x54) else none)))))) := by unfold fX8X2_from; rfl
  have e2 : fX8_index (nI (2 ^ fs)) (nI fs) z = some (nI (2 ^ fs * 8 + fs), z) := by unfold fX8_index; rw [ix_8]
  rw [e1, hz, Option.bind_some, un2_c, z4, s_bit fs z (by omega), Option.bind_some, un2_c, z4, e2, Option.bind_some, un2_c, if_pos (okN (show 2 ^ fs * 8 + fs < 2048 by omega) (by decide)), cl0 (show 2 ^ fs * 8 + fs < 2 ^ 31 by omega), hv]

theorem w3_longer {x : bq_S} {n st u l : Nat} (h2 : x.1 28 2 = nI st) (hs : st < 256) (hu : u < 256) (hl : l < 8) (g : Nat → Int32) (hn : 20 ≤ n)
    (hstep : ∀ b, b < 8 → (andn st u).testBit b = true → fX3_ofStep (nI u) (nI l) (nI b) (x.1 25 ((u ||| 2 ^ b) * 8 + b)) x = some (g b, x)) : fX8X3_ofLonger n (nI u) (nI l) x = some ((bits (andn st u)).foldl (fun acc b => w3B acc (g b)) (0 : Int32), x) := by
  have ha : andn st u < 256 := andn_l8 hs
  obtain ⟨z, hz, rfl⟩ := wh_for (b := fX8X3_ofLonger_b8 n (nI u) (nI l)) (fun i v => v = (((List.range i).filter (andn st u).testBit).foldl (fun acc b => w3B acc (g b)) (0 : Int32), nI i, x)) (fun z => z = ((bits (andn st u)).foldl (fun acc b => w3B acc (g b)) (0 : Int32), nI 8, x)) 8 (by
    rintro i _ hi rfl
    have n8 : ¬ 8 ≤ i := by omega
    refine Or.inl ⟨_, ?_, rfl⟩
    unfold fX8X3_ofLonger_b8
    simp only [un3, le8 (show i < 2 ^ 31 by omega), n8, if_false, h2, wI_andn, s_has _ _ x (show andn st u < 2 ^ 31 by omega) (show i < 31 by omega), Option.bind_some, un2, b2i_0, bd, nI_1]
    rw [List.range_succ, List.filter_append, List.foldl_append]
    cases c : (andn st u).testBit i with
    | false =>
      rw [if_pos rfl]
      have : [i].filter (andn st u).testBit = [] := by simp [c]
      rw [this]; rfl
    | true =>
      rw [if_neg (by decide)]
      have hub : u.testBit i = false := by
        rw [andn_bit] at c
        cases h : u.testBit i
        · rfl
        · rw [h] at c; simp at c
      have hor := pc_or hu hi hub
      have : [i].filter (andn st u).testBit = [i] := by simp [c]
      rw [this]
      unfold fX8_index
      simp only [s_bit i x (show i < 31 by omega), Option.bind_some, wI_or, ix_8, okN (show (u ||| 2 ^ i) * 8 + i < 2048 by omega) (by decide), if_true, cl0 (show (u ||| 2 ^ i) * 8 + i < 2 ^ 31 by omega), hstep i hi c]
      rfl) (by
    rintro _ rfl
    refine ⟨_, ?_, rfl⟩
    unfold fX8X3_ofLonger_b8
    simp only [un3, le8 (show 8 < 2 ^ 31 by omega), Nat.le_refl, if_true]
    rfl) n 0 ((0 : Int32), (0 : Int32), x) (by omega) rfl (by omega)
  unfold fX8X3_ofLonger fX3_ofNone
  simp only [Option.bind_some, un2, hz, un3]
theorem w3_row {x : bq_S} {n st pl fs u : Nat} {stp : Nat → Nat → Nat → Int32 → Int32} {whl : Nat → Nat → Int32} (h2 : x.1 28 2 = nI st) (h3 : x.1 28 3 = nI pl) (hs : st < 256) (hpl : pl ≤ 8) (hn : 20 ≤ n)
    (hstep : ∀ x1, tabE x x1 → ∀ u l b v, u < 256 → l < 8 → b < 8 → fX3_ofStep (nI u) (nI l) (nI b) v x1 = some (stp u l b v, x1))
    (hwhole : ∀ x1, tabE x x1 → ∀ u l, u < 256 → andn u st = 0 → l < 8 → u.testBit l = true → fX3_ofWhole (nI u) (nI l) x1 = some (whl u l, x1))
    (hu : u < 256) (hsub : andn u st = 0) (huf : u.testBit fs = true) (hpc : pc u ≤ pl) (hT : TB x st pl fs (u + 1) (FF st (0 : Int32) stp w3B whl)) :
    ∃ v x1, wh n (fX8X3_from_b54 n (nI u) (nI (pc u))) ((0 : Int32), x) = some (v, x1) ∧ tabE x x1 ∧ TB x1 st pl fs u (FF st (0 : Int32) stp w3B whl) := by
  have hpu := pc_le u
  obtain ⟨z, hz, h4, h5, h6⟩ := wh_for (b := fX8X3_from_b54 n (nI u) (nI (pc u))) (fun i z => z.1 = nI i ∧ tabE x z.2 ∧ (∀ l, l < i → u.testBit l = true → z.2.1 25 (u * 8 + l) = FF st (0 : Int32) stp w3B whl (pl - pc u) u l) ∧ (∀ j, (u + 1) * 8 ≤ j → z.2.1 25 j = x.1 25 j)) (fun z => tabE x z.2 ∧ (∀ l, l < 8 → u.testBit l = true → z.2.1 25 (u * 8 + l) = FF st (0 : Int32) stp w3B whl (pl - pc u) u l) ∧ (∀ j, (u + 1) * 8 ≤ j → z.2.1 25 j = x.1 25 j)) 8 (by
    rintro i ⟨v, z⟩ hi ⟨h0, h1, h4, h5⟩
    dsimp only at h0 h1 h4 h5
    subst h0
    have n8 : ¬ 8 ≤ i := by omega
    cases c : u.testBit i with
    | false =>
      refine Or.inl ⟨(nI (i + 1), z), ?_, rfl, h1, fun l hl hb => ?_, h5⟩
      · unfold fX8X3_from_b54
        simp only [un2, le8 (show i < 2 ^ 31 by omega), n8, if_false, s_has _ _ z (show u < 2 ^ 31 by omega) (show i < 31 by omega), Option.bind_some, c, b2i_0, if_true, bd, nI_1]
      · by_cases e : l = i
        · subst e; rw [c] at hb; exact absurd hb (by decide)
        · exact h4 l (by omega) hb
    | true =>
      have hz2 : z.1 28 2 = nI st := by rw [h1.1 28 (by decide)]; exact h2
      have hz3 : z.1 28 3 = nI pl := by rw [h1.1 28 (by decide)]; exact h3
      have hval : ∃ w, w = FF st (0 : Int32) stp w3B whl (pl - pc u) u i ∧ fX8X3_from_b54 n (nI u) (nI (pc u)) (nI i, z) = some (.inl (nI (i + 1), bq_sI z 25 (u * 8 + i) w)) := by
        by_cases ep : pc u = pl
        · refine ⟨whl u i, ?_, ?_⟩
          · rw [ep, Nat.sub_self]; rfl
          · unfold fX8X3_from_b54 fX8_index
            have c2 : (nI (pc u) = nI pl) = (pc u = pl) := wIeq (by omega) (by omega)
            simp only [un2, le8 (show i < 2 ^ 31 by omega), n8, if_false, s_has _ _ z (show u < 2 ^ 31 by omega) (show i < 31 by omega), Option.bind_some, c, b2i_0, Bool.true_eq_false, hz3, c2, ep, if_true, hwhole z h1 u i hu hsub hi c, ix_8, okN (show u * 8 + i < 2048 by omega) (by decide), cl0 (show u * 8 + i < 2 ^ 31 by omega), bd, nI_1]
        · obtain ⟨k, hk⟩ : ∃ k, pl - pc u = k + 1 := ⟨pl - pc u - 1, by omega⟩
          have hlong := w3_longer (x := z) (l := i) hz2 hs hu hi (fun b => stp u i b (FF st (0 : Int32) stp w3B whl k (u ||| 2 ^ b) b)) hn (by
            intro b hb hbit
            rw [andn_bit] at hbit
            have hub : u.testBit b = false := by
              cases h : u.testBit b
              · rfl
              · rw [h] at hbit; simp at hbit
            have hsb : st.testBit b = true := by
              cases h : st.testBit b
              · rw [h] at hbit; simp at hbit
              · rfl
            have hor := pc_or hu hb hub
            have hval : z.1 25 ((u ||| 2 ^ b) * 8 + b) = FF st (0 : Int32) stp w3B whl k (u ||| 2 ^ b) b := by
              rw [h5 _ (by omega), hT (u ||| 2 ^ b) (by omega) hor.2.2 (andn_or0 hsub hsb) (by rw [Nat.testBit_or, huf, Bool.true_or]) (by omega) b hb (by rw [Nat.testBit_or, Nat.testBit_two_pow_self, Bool.or_true])]
              congr 1
              omega
            rw [hval]
            exact hstep z h1 u i b _ hu hi hb)
          refine ⟨(bits (andn st u)).foldl (fun acc b => w3B acc (stp u i b (FF st (0 : Int32) stp w3B whl k (u ||| 2 ^ b) b))) (0 : Int32), by rw [hk]; rfl, ?_⟩
          · unfold fX8X3_from_b54 fX8_index
            have c2 : (nI (pc u) = nI pl) = (pc u = pl) := wIeq (by omega) (by omega)
            simp only [un2, le8 (show i < 2 ^ 31 by omega), n8, if_false, s_has _ _ z (show u < 2 ^ 31 by omega) (show i < 31 by omega), Option.bind_some, c, b2i_0, Bool.true_eq_false, hz3, c2, ep, hlong, ix_8, okN (show u * 8 + i < 2048 by omega) (by decide), if_true, cl0 (show u * 8 + i < 2 ^ 31 by omega), bd, nI_1]
      obtain ⟨w, hw, hb⟩ := hval
      refine Or.inl ⟨(nI (i + 1), bq_sI z 25 (u * 8 + i) w), hb, rfl, tabE_tr h1 (tabE_to _ _ _), fun l hl hbl => ?_, fun j hj => ?_⟩
      · dsimp only
        rw [sI_s]
        by_cases e : l = i
        · subst e; rw [pk_us, hw]
        · rw [pk_un (by omega)]; exact h4 l (by omega) hbl
      · dsimp only
        rw [sI_s, pk_un (by omega)]; exact h5 j hj) (by
    rintro ⟨v, z⟩ ⟨h0, h1, h4, h5⟩
    dsimp only at h0 h1 h4 h5
    subst h0
    refine ⟨(nI 8, z), ?_, h1, h4, h5⟩
    unfold fX8X3_from_b54
    simp only [un2, le8 (show 8 < 2 ^ 31 by omega), Nat.le_refl, if_true]) n 0 ((0 : Int32), x) (by omega) ⟨rfl, tabE_rf x, fun l hl => by omega, fun _ _ => rfl⟩ (by omega)
  obtain ⟨v, z⟩ := z
  refine ⟨v, z, hz, h4, fun u1 hu1 hu2 hs1 hf1 hp1 l hl hb => ?_⟩
  by_cases e : u1 = u
  · subst e; exact h5 l hl hb
  · dsimp only at h6
    rw [h6 _ (by omega)]
    exact hT u1 (by omega) hu2 hs1 hf1 hp1 l hl hb
theorem w3_from {x : bq_S} {n st pl fs : Nat} {stp : Nat → Nat → Nat → Int32 → Int32} {whl : Nat → Nat → Int32} (h2 : x.1 28 2 = nI st) (h3 : x.1 28 3 = nI pl) (hs : st < 256) (hpl : pl ≤ 8) (hp1 : 1 ≤ pl) (hfs : fs < 8) (hsf : st.testBit fs = true) (hn : 300 ≤ n)
    (hstep : ∀ x1, tabE (bq_sI x 28 4 (nI fs)) x1 → ∀ u l b v, u < 256 → l < 8 → b < 8 → fX3_ofStep (nI u) (nI l) (nI b) v x1 = some (stp u l b v, x1))
    (hwhole : ∀ x1, tabE (bq_sI x 28 4 (nI fs)) x1 → ∀ u l, u < 256 → andn u st = 0 → l < 8 → u.testBit l = true → fX3_ofWhole (nI u) (nI l) x1 = some (whl u l, x1)) :
    ∃ x1, fX8X3_from n (nI fs) x = some (FF st (0 : Int32) stp w3B whl (pl - 1) (2 ^ fs) fs, x1) ∧ tabE (bq_sI x 28 4 (nI fs)) x1 ∧ TB x1 st pl fs 1 (FF st (0 : Int32) stp w3B whl) := by
  have g4 : (bq_sI x 28 4 (nI fs)).1 28 4 = nI fs := by rw [sI_s, pk_us]
  have g2 : (bq_sI x 28 4 (nI fs)).1 28 2 = nI st := by rw [sI_s, pk_un (by decide)]; exact h2
  have g3 : (bq_sI x 28 4 (nI fs)).1 28 3 = nI pl := by rw [sI_s, pk_un (by decide)]; exact h3
  obtain ⟨z, hz, h4, h5⟩ := wh_for (b := fX8X3_from_b9 n) (fun i z => ∃ u, u + i = 255 ∧ z.1 = nI u ∧ tabE (bq_sI x 28 4 (nI fs)) z.2 ∧ TB z.2 st pl fs (u + 1) (FF st (0 : Int32) stp w3B whl)) (fun z => tabE (bq_sI x 28 4 (nI fs)) z.2 ∧ TB z.2 st pl fs 1 (FF st (0 : Int32) stp w3B whl)) 255 (by
    rintro i ⟨v, z⟩ hi ⟨u, hui, h0, h1, hT'⟩
    dsimp only at h0 h1 hT'
    subst h0
    have z2 : z.1 28 2 = nI st := by rw [h1.1 28 (by decide)]; exact g2
    have z3 : z.1 28 3 = nI pl := by rw [h1.1 28 (by decide)]; exact g3
    have z4 : z.1 28 4 = nI fs := by rw [h1.1 28 (by decide)]; exact g4
    have hu8 : u < 256 := by omega
    have c0 : (nI u ≤ (0 : Int32)) = (u ≤ 0) := wIle (b := 0) (by omega) (by decide)
    have n0 : ¬ u ≤ 0 := by omega
    have hpu := pc_le u
    have em : nI u - 1 = nI (u - 1) := nI_m (by omega)
    have en : u - 1 + 1 = u := by omega
    have ea : (nI (andn u st) = (0 : Int32)) = (andn u st = 0) := nI_zero (by have := andn_l8 (b := st) hu8; omega)
    have hT2 : ∀ z1 : bq_S, TB z1 st pl fs u (FF st (0 : Int32) stp w3B whl) → TB z1 st pl fs (u - 1 + 1) (FF st (0 : Int32) stp w3B whl) := fun z1 h => by rw [en]; exact h
    by_cases c1 : andn u st = 0
    · have ea1 : (nI (andn u st) = (0 : Int32)) = True := by rw [ea]; exact eq_true c1
      cases c2 : u.testBit fs with
      | false =>
        refine Or.inl ⟨(nI (u - 1), z), ?_, u - 1, by omega, rfl, h1, hT2 z ?_⟩
        · unfold fX8X3_from_b9
          simp only [un2, c0, n0, if_false, s_bitCount hu8, Option.bind_some, z2, wI_andn, ea1, if_true, z4, s_has _ _ z (show u < 2 ^ 31 by omega) (show fs < 31 by omega), c2, b2i_0, bd, am1, em]
        · intro u1 hu1 a1 a2 a3 a4 l b1 b2
          by_cases e : u1 = u
          · subst e; rw [c2] at a3; exact absurd a3 (by decide)
          · exact hT' u1 (by omega) a1 a2 a3 a4 l b1 b2
      | true =>
        by_cases c3 : pc u ≤ pl
        · obtain ⟨v1, z1, k1, k2, k3⟩ := w3_row (x := z) (n := n) z2 z3 hs hpl (by omega) (fun x1 hx1 => hstep x1 (tabE_tr h1 hx1)) (fun x1 hx1 => hwhole x1 (tabE_tr h1 hx1)) hu8 c1 c2 c3 hT'
          refine Or.inl ⟨(nI (u - 1), z1), ?_, u - 1, by omega, rfl, tabE_tr h1 k2, hT2 z1 k3⟩
          unfold fX8X3_from_b9
          simp only [un2, c0, n0, if_false, s_bitCount hu8, Option.bind_some, z2, wI_andn, ea1, if_true, z4, s_has _ _ z (show u < 2 ^ 31 by omega) (show fs < 31 by omega), c2, b2i_0, Bool.true_eq_false, z3, wIle (show pc u < 2 ^ 31 by omega) (show pl < 2 ^ 31 by omega), c3, k1, bd, am1, em]
        · refine Or.inl ⟨(nI (u - 1), z), ?_, u - 1, by omega, rfl, h1, hT2 z ?_⟩
          · unfold fX8X3_from_b9
            simp only [un2, c0, n0, if_false, s_bitCount hu8, Option.bind_some, z2, wI_andn, ea1, if_true, z4, s_has _ _ z (show u < 2 ^ 31 by omega) (show fs < 31 by omega), c2, b2i_0, Bool.true_eq_false, z3, wIle (show pc u < 2 ^ 31 by omega) (show pl < 2 ^ 31 by omega), c3, bd, am1, em]
          · intro u1 hu1 a1 a2 a3 a4 l b1 b2
            by_cases e : u1 = u
            · subst e; exact absurd a4 c3
            · exact hT' u1 (by omega) a1 a2 a3 a4 l b1 b2
    · refine Or.inl ⟨(nI (u - 1), z), ?_, u - 1, by omega, rfl, h1, hT2 z ?_⟩
      · unfold fX8X3_from_b9
        simp only [un2, c0, n0, if_false, s_bitCount hu8, Option.bind_some, z2, wI_andn, ea, c1, bd, am1, em]
      · intro u1 hu1 a1 a2 a3 a4 l b1 b2
        by_cases e : u1 = u
        · subst e; exact absurd a2 c1
        · exact hT' u1 (by omega) a1 a2 a3 a4 l b1 b2) (by
    rintro ⟨v, z⟩ ⟨u, hui, h0, h1, hT⟩
    dsimp only at h0 h1 hT
    have e0 : u = 0 := by omega
    subst e0
    subst h0
    refine ⟨(nI 0, z), ?_, h1, hT⟩
    unfold fX8X3_from_b9
    have : nI 0 ≤ (0 : Int32) := by decide
    simp only [un2, this, if_true]) n 0 ((255 : Int32), bq_sI x 28 4 (nI fs)) (by omega) ⟨255, by omega, rfl, tabE_rf _, fun u1 hu1 a1 => by omega⟩ (by omega)
  obtain ⟨v, z⟩ := z
  refine ⟨z, ?_, h4, h5⟩
  have z4 : z.1 28 4 = nI fs := by rw [h4.1 28 (by decide)]; exact g4
  obtain ⟨p1, p2, p3⟩ := pc_two hfs
  have hv : z.1 25 (2 ^ fs * 8 + fs) = FF st (0 : Int32) stp w3B whl (pl - 1) (2 ^ fs) fs := by
    have := h5 (2 ^ fs) (Nat.two_pow_pos fs) p2 (andn_two hsf) p3 (by omega) fs hfs p3
    rw [p1] at this; exact this
  have e1 : fX8X3_from n (nI fs) x = (wh n (fX8X3_from_b9 n) ((255 : Int32), bq_sI x 28 4 (nI fs))).bind (fun e47 => un2 e47 (fun v48 x49 => (fX9_bit (x49.1 28 4) x49).bind (fun o50 => un2 o50 (fun v52 x51 => (fX8_index v52 (x51.1 28 4) x51).bind (fun o53 => un2 o53 (fun v55 x54 => if ok_i v55 2048 then some ((x54.1 25 v55.toNatClampNeg), x54) else none)))))) := by unfold fX8X3_from; rfl
  have e2 : fX8_index (nI (2 ^ fs)) (nI fs) z = some (nI (2 ^ fs * 8 + fs), z) := by unfold fX8_index; rw [ix_8]
  rw [e1, hz, Option.bind_some, un2_c, z4, s_bit fs z (by omega), Option.bind_some, un2_c, z4, e2, Option.bind_some, un2_c, if_pos (okN (show 2 ^ fs * 8 + fs < 2048 by omega) (by decide)), cl0 (show 2 ^ fs * 8 + fs < 2 ^ 31 by omega), hv]
