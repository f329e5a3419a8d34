/-! ===== step cut, both ===== -/
noncomputable def qC (L : AL) (s : Nat) (cl : Bool) (u : Nat) : Bool := decide (andn u s = 0) && ((!cl || decide (u ≠ 0)) && decide (pc u + (if cl then 0 else 1) < parts L (andn s u)))
def IsCut (q : Nat → Bool) (e : Nat) : Option Nat → Prop
  | none => ∀ u, u < e → q u = false
  | some c => c < e ∧ q c = true ∧ ∀ u, u < e → q u = true → (pc c < pc u ∨ (pc c = pc u ∧ c ≤ u))
def encC : Option Nat → Int32
  | none => -4
  | some c => nI c
theorem IsCut_eq {q : Nat → Bool} {e : Nat} : ∀ {o o1 : Option Nat}, IsCut q e o → IsCut q e o1 → o = o1
  | none, none, _, _ => rfl
  | none, some c, h, h1 => by
    have := h c h1.1
    rw [h1.2.1] at this
    exact absurd this (by decide)
  | some c, none, h1, h => by
    have := h c h1.1
    rw [h1.2.1] at this
    exact absurd this (by decide)
  | some c, some d, h, h1 => by
    have a := h.2.2 d h1.1 h1.2.1
    have b := h1.2.2 c h.1 h.2.1
    congr 1
    omega
/-- the class: for so many, the first one -/
theorem s_least_in {x : bq_S} {L : AL} (hN : NR x 1 L) (ho : OKL L) {n s m : Nat} (cl : Bool) (hn : 300 ≤ n) (hs : s < 256) (hm : m < 8) (hm1 : cl = true → 1 ≤ m) : ∃ o, wh n (fX1_least_b44 n (nI s) (b2i cl) (nI m) (nI (m + (if cl then 0 else 1)))) ((0 : Int32), x) = some o ∧ ((∃ c, c ≤ s ∧ pc c = m ∧ qC L s cl c = true ∧ (∀ u, u < c → pc u = m → qC L s cl u = false) ∧ o = .inr (nI c, x)) ∨ ((∀ u, u ≤ s → pc u = m → qC L s cl u = false) ∧ ∃ v, o = .inl (v, x))) := by
  refine wh_for (b := fX1_least_b44 n (nI s) (b2i cl) (nI m) (nI (m + (if cl then 0 else 1)))) (fun i z => z = (nI i, x) ∧ ∀ u, u < i → pc u = m → qC L s cl u = false) (fun o => (∃ c, c ≤ s ∧ pc c = m ∧ qC L s cl c = true ∧ (∀ u, u < c → pc u = m → qC L s cl u = false) ∧ o = .inr (nI c, x)) ∨ ((∀ u, u ≤ s → pc u = m → qC L s cl u = false) ∧ ∃ v, o = .inl (v, x))) (s + 1) (by
    rintro i _ hi ⟨rfl, hf⟩
    have n1 : ¬ s < i := by omega
    have hi8 : i < 256 := by omega
    have hpi := pc_le i
    have hpar := cpF_ok (L := L) ho (R := andn s i) (andn_l8 hs) 8 (Nat.le_refl _)
    have hb : m + (if cl then 0 else 1) < 2 ^ 31 := by cases cl <;> simp <;> omega
    have ea : (nI (andn i s) = (0 : Int32)) = (andn i s = 0) := nI_zero (by have := andn_l8 (b := s) hi8; omega)
    have ec : (nI (pc i) = nI m) = (pc i = m) := wIeq (by omega) (by omega)
    have ep : (nI (parts L (andn s i)) ≤ nI (m + (if cl then 0 else 1))) = (parts L (andn s i) ≤ m + (if cl then 0 else 1)) := wIle (by unfold parts; omega) hb
    have z0 : (0 : Int32) = b2i false := rfl
    have z1 : (1 : Int32) = b2i true := rfl
    have j73 : ∀ v : Bool, fX1_least_j73 n (nI s) (b2i cl) (nI m) (nI (m + (if cl then 0 else 1))) (nI i) (b2i v) x = if v = false ∨ parts L (andn s i) ≤ m + (if cl then 0 else 1) then some (.inl (nI (i + 1), x)) else some (.inr (.inr (nI i, x))) := by
      intro v
      unfold fX1_least_j73
      simp only [b2i_0, bd, nI_1, wI_andn, s_partsOf hN (show 20 ≤ n by omega) (andn_l8 hs) ho, Option.bind_some, un2, ep]
      cases v
      · simp
      · simp
    have hbody : fX1_least_b44 n (nI s) (b2i cl) (nI m) (nI (m + (if cl then 0 else 1))) (nI i, x) = if andn i s = 0 ∧ pc i = m ∧ ¬ parts L (andn s i) ≤ m + (if cl then 0 else 1) then some (.inr (.inr (nI i, x))) else some (.inl (nI (i + 1), x)) := by
      unfold fX1_least_b44
      simp only [un2, wIlt (show s < 2 ^ 31 by omega) (show i < 2 ^ 31 by omega), n1, if_false, wI_andn, ea, s_bitCount hi8, Option.bind_some, ec]
      rw [z0, z1, j73, j73]
      by_cases c1 : andn i s = 0
      · by_cases c2 : pc i = m
        · by_cases c3 : parts L (andn s i) ≤ m + (if cl then 0 else 1)
          · simp [c1, c2, c3]
          · simp [c1, c2, c3]
        · simp [c1, c2]
      · simp [c1]
    have hq : (andn i s = 0 ∧ pc i = m ∧ ¬ parts L (andn s i) ≤ m + (if cl then 0 else 1)) ↔ (pc i = m ∧ qC L s cl i = true) := by
      unfold qC
      rw [Bool.and_eq_true, Bool.and_eq_true, decide_eq_true_iff, decide_eq_true_iff]
      constructor
      · rintro ⟨c1, c2, c3⟩
        refine ⟨c2, c1, ?_, by omega⟩
        cases cl with
        | false => rfl
        | true =>
          have h1 := hm1 rfl
          have : i ≠ 0 := fun e => by subst e; rw [show pc 0 = 0 by decide] at c2; omega
          simp [this]
      · rintro ⟨c2, c1, _, c3⟩
        exact ⟨c1, c2, by omega⟩
    by_cases c : andn i s = 0 ∧ pc i = m ∧ ¬ parts L (andn s i) ≤ m + (if cl then 0 else 1)
    · rw [if_pos c] at hbody
      have hq1 := hq.mp c
      exact Or.inr ⟨_, hbody, Or.inl ⟨i, by omega, hq1.1, hq1.2, hf, rfl⟩⟩
    · rw [if_neg c] at hbody
      refine Or.inl ⟨_, hbody, rfl, fun u hu hp => ?_⟩
      by_cases e : u = i
      · subst e
        cases h : qC L s cl u
        · rfl
        · exact absurd (hq.mpr ⟨hp, h⟩) c
      · exact hf u (by omega) hp) (by
    rintro _ ⟨rfl, hf⟩
    refine ⟨.inl (nI (s + 1), x), ?_, Or.inr ⟨fun u hu hp => hf u (by omega) hp, _, rfl⟩⟩
    unfold fX1_least_b44
    simp only [un2, wIlt (show s < 2 ^ 31 by omega) (show s + 1 < 2 ^ 31 by omega), show s < s + 1 by omega, if_true]) n 0 ((0 : Int32), x) (by omega) ⟨rfl, fun u hu => by omega⟩ (by omega)
theorem qC_8 {L : AL} {s u : Nat} (cl : Bool) (hs : s < 256) (hu : u < 256) (hp : 8 ≤ pc u) : qC L s cl u = false := by
  have h1 : ∀ u : Fin 256, 8 ≤ pc u.val → u.val = 255 := by decide +kernel
  have e : u = 255 := h1 ⟨u, hu⟩ hp
  subst e
  have h2 : andn s 255 = 0 := by
    apply Nat.eq_of_testBit_eq
    intro i
    rw [andn_bit, Nat.zero_testBit]
    cases hb : s.testBit i
    · rfl
    · rw [b255 (tb8 hs hb)]; rfl
  unfold qC
  rw [h2, parts_0]
  simp
theorem s_least {x : bq_S} {L : AL} (hc : CL x 1 L) (hN : NR x 1 L) (ho : OKL L) {n s : Nat} (hn : 300 ≤ n) (hs : s < 2 ^ lm L) : ∃ o, fX1_least n (nI s) x = some (encC o, x) ∧ IsCut (qC L s (decide (lri L = 1 ∧ 3 ≤ pc s))) (s + 1) o := by
  have h256 := p8_256 ho.1 hs
  have hp8 := pc_le s
  generalize hcl : decide (lri L = 1 ∧ 3 ≤ pc s) = cl
  have key : ∃ o, wh n (fX1_least_b22 n (nI s) (b2i cl)) (nI (if cl then 1 else 0), x) = some o ∧ ((∃ c, o = .inr (nI c, x) ∧ IsCut (qC L s cl) (s + 1) (some c)) ∨ (∃ v, o = .inl (v, x) ∧ IsCut (qC L s cl) (s + 1) none)) := by
    refine wh_for (b := fX1_least_b22 n (nI s) (b2i cl)) (fun i z => z = (nI i, x) ∧ (cl = true → 1 ≤ i) ∧ ∀ u, u ≤ s → pc u < i → qC L s cl u = false) (fun o => (∃ c, o = .inr (nI c, x) ∧ IsCut (qC L s cl) (s + 1) (some c)) ∨ (∃ v, o = .inl (v, x) ∧ IsCut (qC L s cl) (s + 1) none)) 8 (by
      rintro i _ hi ⟨rfl, h1, hf⟩
      have n8 : ¬ 8 ≤ i := by omega
      obtain ⟨o, k1, k2⟩ := s_least_in (x := x) hN ho (n := n) (s := s) (m := i) cl hn h256 hi h1
      have hbody : fX1_least_b22 n (nI s) (b2i cl) (nI i, x) = fX1_least_j39 n (nI s) (b2i cl) (nI i) (nI (i + (if cl then 0 else 1))) x := by
        unfold fX1_least_b22
        simp only [un2, le8 (show i < 2 ^ 31 by omega), n8, if_false, b2i_0, nI_1]
        cases cl
        · rw [if_pos rfl]; rfl
        · rw [if_neg (by decide)]; rfl
      rw [hbody]
      unfold fX1_least_j39
      rw [k1, Option.bind_some]
      rcases k2 with ⟨c, c1, c2, c3, c4, rfl⟩ | ⟨hnone, v, rfl⟩
      · refine Or.inr ⟨.inr (nI c, x), rfl, Or.inl ⟨c, rfl, by omega, c3, fun u hu hq => ?_⟩⟩
        by_cases e1 : pc u < i
        · rw [hf u (by omega) e1] at hq
          exact absurd hq (by decide)
        · by_cases e2 : pc u = i
          · by_cases e3 : u < c
            · rw [c4 u e3 e2] at hq
              exact absurd hq (by decide)
            · right; omega
          · left; omega
      · refine Or.inl ⟨(nI (i + 1), x), ?_, rfl, fun _ => by omega, fun u hu hp => ?_⟩
        · simp only [Sum.elim_inl, un2, bd, nI_1]
        · by_cases e : pc u = i
          · exact hnone u hu e
          · exact hf u hu (by omega)) (by
      rintro _ ⟨rfl, h1, hf⟩
      refine ⟨.inl (nI 8, x), ?_, Or.inr ⟨_, rfl, fun u hu => ?_⟩⟩
      · unfold fX1_least_b22
        simp only [un2, le8 (show 8 < 2 ^ 31 by omega), Nat.le_refl, if_true]
      · by_cases e : pc u < 8
        · exact hf u (by omega) e
        · exact qC_8 cl h256 (by omega) (by omega)) n (if cl then 1 else 0) (nI (if cl then 1 else 0), x) (by cases cl <;> simp) ⟨rfl, fun h => by rw [h]; decide, fun u hu hp => by
        cases cl with
        | false => simp at hp
        | true =>
          have e0 : pc u = 0 := by simpa using hp
          have : u = 0 := by
            apply Classical.byContradiction
            intro h
            have := pc_ne (show u < 256 by omega) h
            omega
          subst this
          unfold qC
          simp⟩ (by cases cl <;> simp <;> omega)
  obtain ⟨o, k1, k2⟩ := key
  have hj : fX1_least n (nI s) x = fX1_least_j21 n (nI s) (b2i cl) (nI (if cl then 1 else 0)) x := by
    unfold fX1_least
    simp only [s_bitCount h256, Option.bind_some, un2, s_closes hc ho (pc s) (by omega), hcl, b2i_0]
    cases cl
    · rw [if_pos rfl]; rfl
    · rw [if_neg (by decide)]; rfl
  rw [hj]
  unfold fX1_least_j21
  rw [k1, Option.bind_some]
  rcases k2 with ⟨c, rfl, hc2⟩ | ⟨v, rfl, hc2⟩
  · exact ⟨some c, rfl, hc2⟩
  · exact ⟨none, rfl, hc2⟩
/-- the reference -/
theorem m_cut_loop {y : bq_S} {L : AL} (hc : ML y L) (ho : OKL L) {n s : Nat} (cl : Bool) (hn : 300 ≤ n) (hs : s < 2 ^ lm L) : ∃ o w, wh n (fX10_cut_b40 n (nI s) (b2i cl)) ((-4 : Int32), (0 : Int32), y) = some (encC o, w, y) ∧ IsCut (qC L s cl) (s + 1) o := by
  have h256 := p8_256 ho.1 hs
  obtain ⟨z, hz, o, w, rfl, h2⟩ := wh_for (b := fX10_cut_b40 n (nI s) (b2i cl)) (fun i z => ∃ o, z = (encC o, nI i, y) ∧ IsCut (qC L s cl) i o) (fun z => ∃ o w, z = (encC o, w, y) ∧ IsCut (qC L s cl) (s + 1) o) (s + 1) (by
    rintro i _ hi ⟨o, rfl, ho2⟩
    have n1 : ¬ s < i := by omega
    have hi8 : i < 256 := by omega
    have hpi := pc_le i
    have hpar := cpF_ok (L := L) ho (R := andn s i) (andn_l8 h256) 8 (Nat.le_refl _)
    have ea : (nI (andn i s) = (0 : Int32)) = (andn i s = 0) := nI_zero (by have := andn_l8 (b := s) hi8; omega)
    have ei : (nI i = (0 : Int32)) = (i = 0) := nI_zero (by omega)
    have z0 : (0 : Int32) = b2i false := rfl
    have z1 : (1 : Int32) = b2i true := rfl
    let o1 : Option Nat := match o with
      | none => some i
      | some c => if pc i < pc c then some i else some c
    have j97 : ∀ v : Bool, fX10_cut_j97 n (nI s) (b2i cl) (encC o) (nI i) (b2i v) y = some (.inl (encC (if v then o1 else o), nI (i + 1), y)) := by
      intro v
      unfold fX10_cut_j97
      simp only [b2i_0, bd, nI_1]
      cases v with
      | false => rw [if_pos rfl]; rfl
      | true =>
        rw [if_neg (by decide)]
        cases o with
        | none =>
          have : encC none < 0 := by decide
          rw [if_pos this]; rfl
        | some c =>
          have hc8 : c < 256 := by have := ho2.1; omega
          have hpc := pc_le c
          have n0 : ¬ encC (some c) < 0 := nI_pos (show c < 2 ^ 31 by omega)
          rw [if_neg n0]
          simp only [encC, m_size hi8 (show 20 ≤ n by omega), m_size hc8 (show 20 ≤ n by omega), Option.bind_some, un2, wIle (show pc c < 2 ^ 31 by omega) (show pc i < 2 ^ 31 by omega)]
          show _ = some (Sum.inl (encC (if pc i < pc c then some i else some c), nI (i + 1), y))
          by_cases e : pc c ≤ pc i
          · rw [if_pos e, if_neg (by omega)]; rfl
          · rw [if_neg e, if_pos (by omega)]; rfl
    have hb : pc i + (if cl then 0 else 1) < 2 ^ 31 := by cases cl <;> simp <;> omega
    have ep : (nI (parts L (andn s i)) ≤ nI (pc i + (if cl then 0 else 1))) = (parts L (andn s i) ≤ pc i + (if cl then 0 else 1)) := wIle (by unfold parts; omega) hb
    have j64 : fX10_cut_j64 n (nI s) (b2i cl) (encC o) (nI i) y = some (.inl (encC (if pc i + (if cl then 0 else 1) < parts L (andn s i) then o1 else o), nI (i + 1), y)) := by
      have hj : fX10_cut_j64 n (nI s) (b2i cl) (encC o) (nI i) y = if parts L (andn s i) ≤ pc i + (if cl then 0 else 1) then fX10_cut_j97 n (nI s) (b2i cl) (encC o) (nI i) (b2i false) y else fX10_cut_j97 n (nI s) (b2i cl) (encC o) (nI i) (b2i true) y := by
        unfold fX10_cut_j64 fX10_cut_j88
        simp only [wI_andn, m_partsOf hc ho (show 20 ≤ n by omega) (andn_lt _ hs), Option.bind_some, un2, m_size hi8 (show 20 ≤ n by omega), b2i_0]
        have ev : ∀ (X Y : Option ((Int32 × Int32 × bq_S) ⊕ (Int32 × Int32 × bq_S))), (if cl = false then (if nI (parts L (andn s i)) ≤ nI (pc i) + 1 then X else Y) else (if nI (parts L (andn s i)) ≤ nI (pc i) + 0 then X else Y)) = if nI (parts L (andn s i)) ≤ nI (pc i + (if cl then 0 else 1)) then X else Y := by
          intro X Y
          have e0 : nI (pc i) + (0 : Int32) = nI (pc i + 0) := nI_add (pc i) 0
          cases cl
          · rw [if_pos rfl, nI_1]; rfl
          · rw [if_neg (by decide), e0]; rfl
        rw [ev]
        simp only [ep]
        rfl
      rw [hj, j97, j97]
      by_cases c : parts L (andn s i) ≤ pc i + (if cl then 0 else 1)
      · rw [if_pos c, if_neg (show ¬ pc i + (if cl then 0 else 1) < parts L (andn s i) by omega)]; rfl
      · rw [if_neg c, if_pos (show pc i + (if cl then 0 else 1) < parts L (andn s i) by omega)]; rfl
    have hbody : fX10_cut_b40 n (nI s) (b2i cl) (encC o, nI i, y) = some (.inl (encC (if qC L s cl i then o1 else o), nI (i + 1), y)) := by
      unfold fX10_cut_b40
      simp only [un3, wIlt (show s < 2 ^ 31 by omega) (show i < 2 ^ 31 by omega), n1, if_false, wI_andn, ea, b2i_0, ei]
      rw [z0, j97, j64]
      unfold qC
      by_cases c1 : andn i s = 0
      · rw [if_pos c1]
        cases cl with
        | false => simp [c1]
        | true =>
          by_cases c2 : i = 0
          · simp [c2]
          · simp [c1, c2]
      · simp [c1]
    refine Or.inl ⟨_, hbody, _, rfl, ?_⟩
    cases hq : qC L s cl i with
    | false =>
      rw [if_neg (by decide)]
      cases o with
      | none =>
        intro u hu
        by_cases e : u = i
        · rw [e]; exact hq
        · exact ho2 u (by omega)
      | some c =>
        refine ⟨by have := ho2.1; omega, ho2.2.1, fun u hu hqu => ?_⟩
        by_cases e : u = i
        · rw [e, hq] at hqu; exact absurd hqu (by decide)
        · exact ho2.2.2 u (by omega) hqu
    | true =>
      rw [if_pos rfl]
      cases o with
      | none =>
        refine ⟨by omega, hq, fun u hu hqu => ?_⟩
        by_cases e : u = i
        · right; rw [e]; exact ⟨rfl, Nat.le_refl _⟩
        · rw [ho2 u (by omega)] at hqu; exact absurd hqu (by decide)
      | some c =>
        show IsCut (qC L s cl) (i + 1) (if pc i < pc c then some i else some c)
        by_cases e1 : pc i < pc c
        · rw [if_pos e1]
          refine ⟨by omega, hq, fun u hu hqu => ?_⟩
          by_cases e : u = i
          · right; rw [e]; exact ⟨rfl, Nat.le_refl _⟩
          · rcases ho2.2.2 u (by omega) hqu with h | h
            · left; omega
            · left; omega
        · rw [if_neg e1]
          refine ⟨by have := ho2.1; omega, ho2.2.1, fun u hu hqu => ?_⟩
          by_cases e : u = i
          · have := ho2.1
            subst e
            by_cases e2 : pc c < pc u
            · left; exact e2
            · right; omega
          · exact ho2.2.2 u (by omega) hqu) (by
    rintro _ ⟨o, rfl, ho2⟩
    refine ⟨(encC o, nI (s + 1), y), ?_, o, nI (s + 1), rfl, ho2⟩
    unfold fX10_cut_b40
    simp only [un3, wIlt (show s < 2 ^ 31 by omega) (show s + 1 < 2 ^ 31 by omega), show s < s + 1 by omega, if_true]) n 0 ((-4 : Int32), (0 : Int32), y) (by omega) ⟨none, rfl, fun u hu => by omega⟩ (by omega)
  exact ⟨o, w, hz, h2⟩
theorem st_cut {n : Nat} (hn : 300 ≤ n) : bs_cut Rl n := by
  rintro x y ⟨A, ho, hx, hy⟩ p1
  unfold fX9_cut fX10_cut
  simp only [s_isSet hx.1 ho.1 p1, m_isSet hy.1 ho.1 p1, Option.bind_some, un2, b2i_0]
  cases hS : isS (lm A.1) p1 with
  | false => exact ⟨-1, x, y, by simp, by simp, A, ho, hx, hy⟩
  | true =>
    obtain ⟨s, hs, rfl⟩ := isS_of ho.1.1 hS
    have h256 := p8_256 ho.1.1 hs
    have hp8 := pc_le s
    obtain ⟨o, k1, k2⟩ := s_least hx.1 hx.2.1 ho.1 hn hs
    obtain ⟨o2, w, j1, j2⟩ := m_cut_loop hy.1 ho.1 (n := n) (decide (lri A.1 = 1 ∧ 3 ≤ pc s)) hn hs
    have eo : o = o2 := IsCut_eq k2 j2
    subst eo
    have h7 : y.1 4 (0 : Int32).toNatClampNeg = nI (lri A.1) := hy.1.2.2.2.2.2.2.1
    have e1 : (nI (lri A.1) = (1 : Int32)) = (lri A.1 = 1) := wIeq (b := 1) (by have := ho.1.2.2.2.2.2.2.1; omega) (by decide)
    have e2 : (nI (pc s) ≤ (2 : Int32)) = (pc s ≤ 2) := wIle (b := 2) (by omega) (by decide)
    have hj : ∀ v, v = b2i (decide (lri A.1 = 1 ∧ 3 ≤ pc s)) → fX10_cut_j33 n (nI s) v y = some (encC o, y) := by
      rintro _ rfl
      unfold fX10_cut_j33
      rw [j1, Option.bind_some]
      rfl
    refine ⟨encC o, x, y, ?_, ?_, A, ho, hx, hy⟩
    · simp only [Bool.true_eq_false, if_false, k1, Option.bind_some]
    · simp only [Bool.true_eq_false, if_false, h7, e1, m_size h256 (show 20 ≤ n by omega), Option.bind_some, e2]
      by_cases c1 : lri A.1 = 1
      · rw [if_pos c1]
        by_cases c2 : pc s ≤ 2
        · rw [if_pos c2]
          exact hj _ (by rw [decide_eq_false (by omega)]; rfl)
        · rw [if_neg c2]
          exact hj _ (by rw [decide_eq_true (by omega)]; rfl)
      · rw [if_neg c1]
        exact hj _ (by rw [decide_eq_false (fun h => c1 h.1)]; rfl)
