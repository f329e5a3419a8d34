/-! ===== Counts: total, trace, find ===== -/
theorem c0_total {x : bq_S} {L : AL} {st pl : Nat} {cl : Bool} {fi la : Nat} {th : Int32} {n : Nat} (hc : CW x L st pl cl fi la th) (ho : OKL L) (hst : st < 2 ^ lm L) (hfi : fi < 256) (hla : la < 256) (hpl : pl ≤ 8) (hp1 : 1 ≤ pl) (hn : 300 ≤ n) : ∃ x1, fX0_total n x = some (nI (AQ st fi (tch L) (WW L cl la th) (pl - 1)).length, x1) ∧ fr0 x x1 := by
  have h256 : st < 256 := p8_256 ho.1 hst
  have hsf : st &&& fi < 2 ^ 31 := and_lt31 (by omega)
  obtain ⟨z, hz, h1, h2⟩ := wh_for (b := fX0_total_b13 n) (fun i z => z.1 = nI (((List.range i).filter (st &&& fi).testBit).flatMap (fun b => (QQ st (tch L) (WW L cl la th b) (pl - 1) (2 ^ b) b).map (fun r => b :: r))).length ∧ z.2.1 = nI i ∧ fr0 x z.2.2) (fun z => z.1 = nI (AQ st fi (tch L) (WW L cl la th) (pl - 1)).length ∧ fr0 x z.2.2) 8 (by
    rintro i ⟨v, w, z⟩ hi ⟨h0, h1, h2⟩
    dsimp only at h0 h1 h2
    subst h0 h1
    have n8 : ¬ 8 ≤ i := by omega
    have hcz := CW_fr h2 hc
    have hbody : fX0_total_b13 n (nI (((List.range i).filter (st &&& fi).testBit).flatMap (fun b => (QQ st (tch L) (WW L cl la th b) (pl - 1) (2 ^ b) b).map (fun r => b :: r))).length, nI i, z) = if (st &&& fi).testBit i = false then some (.inl (nI (((List.range i).filter (st &&& fi).testBit).flatMap (fun b => (QQ st (tch L) (WW L cl la th b) (pl - 1) (2 ^ b) b).map (fun r => b :: r))).length, nI (i + 1), z)) else (fX8X0_from n (nI i) z).bind (fun o11 => un2 o11 (fun v13 x12 => some (.inl (nI (((List.range i).filter (st &&& fi).testBit).flatMap (fun b => (QQ st (tch L) (WW L cl la th b) (pl - 1) (2 ^ b) b).map (fun r => b :: r))).length + v13, nI (i + 1), x12)))) := by
      unfold fX0_total_b13
      simp only [un3, le8 (show i < 2 ^ 31 by omega), n8, if_false, hcz.2.2.1, hcz.2.2.2.2.2.1, wI_and, s_has _ _ z hsf (show i < 31 by omega), Option.bind_some, un2, b2i_0, bd, nI_1]
    cases c : (st &&& fi).testBit i with
    | false =>
      rw [c, if_pos rfl] at hbody
      refine Or.inl ⟨_, hbody, ?_, rfl, h2⟩
      dsimp only
      rw [List.range_succ, List.filter_append]
      have : [i].filter (st &&& fi).testBit = [] := by simp [c]
      rw [this, List.append_nil]
    | true =>
      rw [c, if_neg (by decide)] at hbody
      have hsi : st.testBit i = true := by
        rw [Nat.testBit_and] at c
        cases h : st.testBit i
        · rw [h] at c; simp at c
        · rfl
      obtain ⟨x1, k1, k2, k3, k4⟩ := c0_from hcz ho hst hla hpl hp1 hi hsi hn
      rw [k1, Option.bind_some, un2_c] at hbody
      refine Or.inl ⟨_, hbody, ?_, rfl, fr0_tr h2 k2⟩
      dsimp only
      rw [List.range_succ, List.filter_append]
      have : [i].filter (st &&& fi).testBit = [i] := by simp [c]
      rw [this, List.flatMap_append, List.length_append, nI_add]
      congr 2
      simp) (by
    rintro ⟨v, w, z⟩ ⟨h0, h1, h2⟩
    dsimp only at h0 h1 h2
    subst h0 h1
    refine ⟨(nI (AQ st fi (tch L) (WW L cl la th) (pl - 1)).length, nI 8, z), ?_, rfl, h2⟩
    unfold fX0_total_b13
    simp only [un3, le8 (show 8 < 2 ^ 31 by omega), Nat.le_refl, if_true]
    rfl) n 0 ((0 : Int32), (0 : Int32), x) (by omega) ⟨rfl, rfl, fr0_rf x⟩ (by omega)
  obtain ⟨v, w, z⟩ := z
  dsimp only at h1 h2
  subst h1
  refine ⟨z, ?_, h2⟩
  unfold fX0_total
  have e0 : (nI pl = (0 : Int32)) = (pl = 0) := nI_zero (by omega)
  have n0 : ¬ pl = 0 := by omega
  simp only [hc.2.2.2.1, e0, n0, if_false, hz, Option.bind_some, un3]
theorem get_app1 {α : Type} {a b : List α} {i : Nat} (h : i < a.length) : (a ++ b)[i]? = a[i]? := List.getElem?_append_left h
theorem get_app2 {α : Type} {a b : List α} {i : Nat} (h : a.length ≤ i) : (a ++ b)[i]? = b[i - a.length]? := List.getElem?_append_right h
/-- the next book of the row i -/
theorem c0_pick {x : bq_S} {L : AL} {st pl : Nat} {cl : Bool} {fi la fs : Nat} {th : Int32} {n : Nat} (hc : CW x L st pl cl fi la th) (ho : OKL L) (hst : st < 2 ^ lm L) (hT : TB x st pl fs 1 (fun k u l => nI (QQ st (tch L) (WW L cl la th fs) k u l).length)) {p : List Nat} {u l k : Nat} (hp : CRow x 42 p) (hl : gt p (p.length - 1) = l) (hl8 : l < 8) (hp1 : 1 ≤ p.length) (hu : u < 256) (hsub : andn u st = 0) (huf : u.testBit fs = true) (hpu : pc u = p.length) (hk : p.length + (k + 1) = pl) (hpl : pl ≤ 8) :
    ∀ d j idx f, j + d = 8 → d < f → idx < ((rst (andn st u) j).flatMap (fun b => if tch L l b then (QQ st (tch L) (WW L cl la th fs) k (u ||| 2 ^ b) b).map (fun r => b :: r) else [])).length → ∃ b idx1, b < 8 ∧ (andn st u).testBit b = true ∧ idx1 < (if tch L l b then (QQ st (tch L) (WW L cl la th fs) k (u ||| 2 ^ b) b).map (fun r => b :: r) else []).length ∧ wh f (fX0_trace_b33 n 42 8 (nI u) (nI p.length)) (nI idx, nI j, x) = some (nI idx1, nI b, bq_sI x 42 p.length (nI b)) ∧ ((rst (andn st u) j).flatMap (fun b => if tch L l b then (QQ st (tch L) (WW L cl la th fs) k (u ||| 2 ^ b) b).map (fun r => b :: r) else []))[idx]? = (if tch L l b then (QQ st (tch L) (WW L cl la th fs) k (u ||| 2 ^ b) b).map (fun r => b :: r) else [])[idx1]? := by
  have h256 : st < 256 := p8_256 ho.1 hst
  have ha : andn st u < 256 := andn_l8 h256
  generalize hG : (fun b => if tch L l b then (QQ st (tch L) (WW L cl la th fs) k (u ||| 2 ^ b) b).map (fun r => b :: r) else []) = G
  have hGb : ∀ b, (if tch L l b then (QQ st (tch L) (WW L cl la th fs) k (u ||| 2 ^ b) b).map (fun r => b :: r) else []) = G b := fun b => by rw [← hG]
  simp only [hGb]
  have hGlen : ∀ b, (G b).length < 2 ^ 31 := fun b => by
    have h := QQ_len st (tch L) (WW L cl la th fs) k (u ||| 2 ^ b) b
    have h2 : 8 ^ k ≤ 8 ^ 8 := Nat.pow_le_pow_right (by decide) (by omega)
    have h3 : (8 : Nat) ^ 8 < 2 ^ 31 := by decide
    rw [← hG]
    dsimp only
    cases tch L l b
    · simp
    · rw [if_pos rfl, List.length_map]; omega
  have honBy : ∀ b, b < 8 → (andn st u).testBit b = true → fX8X0_onBy (nI u) (nI l) (nI b) x = some (nI (G b).length, x) := by
    intro b hb hbit
    rw [andn_bit] at hbit
    have hub : u.testBit b = false := by
      cases h : u.testBit b
      · rfl
      · rw [h] at hbit; simp at hbit
    have hsb : st.testBit b = true := by
      cases h : st.testBit b
      · rw [h] at hbit; simp at hbit
      · rfl
    have hor := pc_or hu hb hub
    have hval := hT (u ||| 2 ^ b) (by omega) hor.2.2 (andn_or0 hsub hsb) (by rw [Nat.testBit_or, huf, Bool.true_or]) (by omega) b hb (by rw [Nat.testBit_or, Nat.testBit_two_pow_self, Bool.or_true])
    dsimp only at hval
    rw [show pl - pc (u ||| 2 ^ b) = k by omega] at hval
    have e2 : fX8_index (nI (u ||| 2 ^ b)) (nI b) x = some (nI ((u ||| 2 ^ b) * 8 + b), x) := by unfold fX8_index; rw [ix_8]
    unfold fX8X0_onBy
    rw [s_bit b x (by omega), Option.bind_some, un2_c, wI_or, e2, Option.bind_some, un2_c, if_pos (okN (show (u ||| 2 ^ b) * 8 + b < 2048 by omega) (by decide)), cl0 (show (u ||| 2 ^ b) * 8 + b < 2 ^ 31 by omega), hval, c0_step hc.2.1 u l b _ hl8 hb, Option.bind_some, un2_c, ← hG]
    dsimp only
    cases tch L l b with
    | false => rfl
    | true => rw [if_pos rfl, if_pos rfl, List.length_map]
  have hrow : x.1 42 (p.length - 1) = nI l := by rw [hp _ (by omega), hl]
  intro d
  induction d with
  | zero =>
    intro j idx f hj hf hidx
    have : j = 8 := by omega
    subst this
    rw [rst_8] at hidx
    simp at hidx
  | succ d ih =>
    intro j idx f hj hf hidx
    obtain ⟨f, rfl⟩ : ∃ g, f = g + 1 := ⟨f - 1, by omega⟩
    have n8 : ¬ 8 ≤ j := by omega
    rw [rst_s (by omega)] at hidx ⊢
    have e0 : fX0_trace_b33 n 42 8 (nI u) (nI p.length) (nI idx, nI j, x) = if (andn st u).testBit j = false then some (.inl (nI idx, nI (j + 1), x)) else (fX8X0_onBy (nI u) (nI l) (nI j) x).bind (fun o27 => un2 o27 (fun v29 x28 => if v29 ≤ nI idx then some (.inl (nI idx - v29, nI (j + 1), x28)) else some (.inr (nI idx, nI j, bq_sI x28 42 p.length (nI j))))) := by
      unfold fX0_trace_b33
      simp only [un3, le8 (show j < 2 ^ 31 by omega), n8, if_false, hc.2.2.1, wI_andn, s_has _ _ x (show andn st u < 2 ^ 31 by omega) (show j < 31 by omega), Option.bind_some, un2, b2i_0, bd, nI_1, nI_m (show 0 < p.length by omega), okN (show p.length - 1 < 8 by omega) (by decide), okN (show p.length < 8 by omega) (by decide), if_true, cl0 (show p.length - 1 < 2 ^ 31 by omega), cl0 (show p.length < 2 ^ 31 by omega), hrow]
    cases c : (andn st u).testBit j with
    | false =>
      rw [c, if_pos rfl] at e0
      rw [c, if_neg (by decide)] at hidx
      rw [if_neg (by decide), wh_c e0]
      exact ih (j + 1) idx f (by omega) (by omega) hidx
    | true =>
      rw [c, if_neg (by decide), honBy j (by omega) c, Option.bind_some, un2_c] at e0
      rw [c, if_pos rfl, List.flatMap_cons, List.length_append] at hidx
      rw [if_pos rfl, List.flatMap_cons]
      have hGj := hGlen j
      by_cases c2 : (G j).length ≤ idx
      · have hlen8 : ((rst (andn st u) (j + 1)).flatMap G).length < 2 ^ 31 := by
          have h1 : ∀ b ∈ rst (andn st u) (j + 1), (G b).length ≤ 8 ^ 7 := fun b _ => by
            have h := QQ_len st (tch L) (WW L cl la th fs) k (u ||| 2 ^ b) b
            have h2 : 8 ^ k ≤ 8 ^ 7 := Nat.pow_le_pow_right (by decide) (by omega)
            rw [← hG]
            dsimp only
            cases tch L l b
            · simp
            · rw [if_pos rfl, List.length_map]; omega
          have h2 := flat_len h1
          have h3 : (rst (andn st u) (j + 1)).length ≤ 8 := by
            have := List.length_filter_le (andn st u).testBit (List.range' (j + 1) (8 - (j + 1)))
            rw [List.length_range'] at this
            unfold rst; omega
          have h4 : (rst (andn st u) (j + 1)).length * 8 ^ 7 ≤ 8 * 8 ^ 7 := Nat.mul_le_mul_right _ h3
          have h5 : (8 : Nat) * 8 ^ 7 < 2 ^ 30 := by decide
          omega
        have hGj7 : (G j).length ≤ 8 ^ 8 := by
          have h := QQ_len st (tch L) (WW L cl la th fs) k (u ||| 2 ^ j) j
          have h2 : 8 ^ k ≤ 8 ^ 8 := Nat.pow_le_pow_right (by decide) (by omega)
          rw [← hG]
          dsimp only
          cases tch L l j
          · simp
          · rw [if_pos rfl, List.length_map]; omega
        have h88 : (8 : Nat) ^ 8 < 2 ^ 30 := by decide
        have hidx31 : idx < 2 ^ 32 := by omega
        rw [get_app2 c2]
        by_cases c3 : idx < 2 ^ 31
        · have le : nI (G j).length ≤ nI idx := by rw [wIle hGj c3]; exact c2
          rw [if_pos le, pk_sub c2] at e0
          rw [wh_c e0]
          exact ih (j + 1) (idx - (G j).length) f (by omega) (by omega) (by omega)
        · exfalso
          have h1 : ∀ b ∈ rst (andn st u) (j + 1), (G b).length ≤ 8 ^ 7 := fun b _ => by
            have h := QQ_len st (tch L) (WW L cl la th fs) k (u ||| 2 ^ b) b
            have h2 : 8 ^ k ≤ 8 ^ 7 := Nat.pow_le_pow_right (by decide) (by omega)
            rw [← hG]
            dsimp only
            cases tch L l b
            · simp
            · rw [if_pos rfl, List.length_map]; omega
          have h2 := flat_len h1
          have h3 : (rst (andn st u) (j + 1)).length ≤ 8 := by
            have := List.length_filter_le (andn st u).testBit (List.range' (j + 1) (8 - (j + 1)))
            rw [List.length_range'] at this
            unfold rst; omega
          have h4 : (rst (andn st u) (j + 1)).length * 8 ^ 7 ≤ 8 * 8 ^ 7 := Nat.mul_le_mul_right _ h3
          have h5 : (8 : Nat) * 8 ^ 7 < 2 ^ 30 := by decide
          omega
      · have lt : ¬ nI (G j).length ≤ nI idx := by rw [wIle hGj (by omega)]; exact c2
        rw [if_neg lt] at e0
        refine ⟨j, idx, by omega, c, by omega, wh_e e0, ?_⟩
        rw [get_app1 (by omega)]
theorem c0_trace {x : bq_S} {L : AL} {st pl : Nat} {cl : Bool} {fi la fs : Nat} {th : Int32} {n : Nat} (hc : CW x L st pl cl fi la th) (ho : OKL L) (hst : st < 2 ^ lm L) (hpl : pl ≤ 8) (hn : 20 ≤ n) (hfs : fs < 8) (hT : TB x st pl fs 1 (fun k u l => nI (QQ st (tch L) (WW L cl la th fs) k u l).length)) :
    ∀ k f idx (p : List Nat) (u l : Nat) (x1 : bq_S), lineC x x1 → CRow x1 42 p → gt p (p.length - 1) = l → l < 8 → 1 ≤ p.length → u < 256 → andn u st = 0 → u.testBit fs = true → pc u = p.length → p.length + k = pl → k < f → ∀ r, (QQ st (tch L) (WW L cl la th fs) k u l)[idx]? = some r → ∃ a b c x2, wh f (fX0_trace_b21 n 42 8) (nI idx, nI u, nI p.length, x1) = some (a, b, c, x2) ∧ CRow x2 42 (p ++ r) ∧ lineC x x2 := by
  intro k
  induction k with
  | zero =>
    intro f idx p u l x1 hx1 hp hl hl8 hp1 hu hsub huf hpu hk hf r hr
    obtain ⟨f, rfl⟩ : ∃ g, f = g + 1 := ⟨f - 1, by omega⟩
    have hr0 : r = [] := by
      unfold QQ at hr
      cases hW : WW L cl la th fs u l
      · rw [hW] at hr; simp at hr
      · rw [hW, if_pos rfl] at hr
        cases idx with
        | zero => simpa using hr.symm
        | succ i => simp at hr
    subst hr0
    refine ⟨nI idx, nI u, nI p.length, x1, wh_e ?_, by rw [List.append_nil]; exact hp, hx1⟩
    · unfold fX0_trace_b21
      have e3 : x1.1 26 3 = nI pl := by rw [hx1.1 26 (by decide)]; exact hc.2.2.2.1
      have hle : pl ≤ p.length := by omega
      simp only [un4, e3, wIle (show pl < 2 ^ 31 by omega) (show p.length < 2 ^ 31 by omega), hle, if_true]
  | succ k ih =>
    intro f idx p u l x1 hx1 hp hl hl8 hp1 hu hsub huf hpu hk hf r hr
    obtain ⟨f, rfl⟩ : ∃ g, f = g + 1 := ⟨f - 1, by omega⟩
    have hc1 : CW x1 L st pl cl fi la th := by
      obtain ⟨c1, c2, c3, c4, c5, c6, c7, c8⟩ := hc
      have e26 := hx1.1 26 (by decide)
      exact ⟨CL_of (fun c a b => hx1.1 c (by omega)) c1, NR_of (hx1.1 7 (by decide)) c2, by rw [e26]; exact c3, by rw [e26]; exact c4, by rw [e26]; exact c5, by rw [e26]; exact c6, by rw [e26]; exact c7, by rw [e26]; exact c8⟩
    have hT1 : TB x1 st pl fs 1 (fun k u l => nI (QQ st (tch L) (WW L cl la th fs) k u l).length) := fun u a1 a2 a3 a4 a5 l b1 b2 => by
      rw [hx1.1 25 (by decide)]; exact hT u a1 a2 a3 a4 a5 l b1 b2
    have hidx : idx < (QQ st (tch L) (WW L cl la th fs) (k + 1) u l).length := (List.getElem?_eq_some_iff.mp hr).1
    have hQ : QQ st (tch L) (WW L cl la th fs) (k + 1) u l = (rst (andn st u) 0).flatMap (fun b => if tch L l b then (QQ st (tch L) (WW L cl la th fs) k (u ||| 2 ^ b) b).map (fun r => b :: r) else []) := by rw [rst_0]; rfl
    rw [hQ] at hr hidx
    obtain ⟨b, idx1, b1, b2, b3, b4, b5⟩ := c0_pick (n := n) hc1 ho hst hT1 hp hl hl8 hp1 hu hsub huf hpu hk hpl 8 0 idx n (by omega) (by omega) hidx
    rw [b5] at hr
    have hTb : tch L l b = true := by
      cases h : tch L l b
      · rw [h] at b3; simp at b3
      · rfl
    rw [hTb, if_pos rfl, List.getElem?_map] at hr
    obtain ⟨r1, hr1, rfl⟩ : ∃ r1, (QQ st (tch L) (WW L cl la th fs) k (u ||| 2 ^ b) b)[idx1]? = some r1 ∧ b :: r1 = r := by
      cases h : (QQ st (tch L) (WW L cl la th fs) k (u ||| 2 ^ b) b)[idx1]? with
      | none => rw [h] at hr; simp at hr
      | some r1 => rw [h] at hr; exact ⟨r1, rfl, by simpa using hr⟩
    rw [andn_bit] at b2
    have hub : u.testBit b = false := by
      cases h : u.testBit b
      · rfl
      · rw [h] at b2; simp at b2
    have hsb : st.testBit b = true := by
      cases h : st.testBit b
      · rw [h] at b2; simp at b2
      · rfl
    have hor := pc_or hu b1 hub
    have hx2 : lineC x (bq_sI x1 42 p.length (nI b)) := ⟨fun c hc => by rw [sI_n _ _ _ hc]; exact hx1.1 c hc, hx1.2⟩
    have hbody : fX0_trace_b21 n 42 8 (nI idx, nI u, nI p.length, x1) = some (.inl (nI idx1, nI (u ||| 2 ^ b), nI (p ++ [b]).length, bq_sI x1 42 p.length (nI b))) := by
      have e3 : x1.1 26 3 = nI pl := hc1.2.2.2.1
      have hle : ¬ pl ≤ p.length := by omega
      have b4' : wh n (fX0_trace_b33 n 42 8 (nI u) (nI p.length)) (nI idx, (0 : Int32), x1) = some (nI idx1, nI b, bq_sI x1 42 p.length (nI b)) := b4
      unfold fX0_trace_b21
      simp only [un4, e3, wIle (show pl < 2 ^ 31 by omega) (show p.length < 2 ^ 31 by omega), hle, if_false]
      rw [b4', Option.bind_some]
      have e42 : (bq_sI x1 42 p.length (nI b)).1 42 p.length = nI b := by rw [sI_s, pk_us]
      unfold fX0_trace_j99
      simp only [un3, okN (show p.length < 8 by omega) (by decide), if_true, cl0 (show p.length < 2 ^ 31 by omega), e42, s_bit b _ (show b < 31 by omega), Option.bind_some, un2, wI_or, bd, nI_1, List.length_append, List.length_cons, List.length_nil, Nat.zero_add]
    obtain ⟨a1, a2, a3, x2, k1, k2, k3⟩ := ih f idx1 (p ++ [b]) (u ||| 2 ^ b) b (bq_sI x1 42 p.length (nI b)) hx2 (CRow_app hp) (by rw [List.length_append, List.length_cons, List.length_nil, Nat.zero_add, Nat.add_sub_cancel]; exact gt_app1) b1 (by simp) hor.2.2 (andn_or0 hsub hsb) (by rw [Nat.testBit_or, huf, Bool.true_or]) (by rw [hor.1, hpu]; simp) (by simp; omega) (by omega) r1 hr1
    refine ⟨a1, a2, a3, x2, by rw [wh_c hbody]; exact k1, ?_, k3⟩
    have : p ++ [b] ++ r1 = p ++ b :: r1 := by simp
    rw [this] at k2; exact k2

def fr1 (x x1 : bq_S) : Prop := (∀ c, c ≠ 25 → c ≠ 26 → c ≠ 42 → x1.1 c = x.1 c) ∧ (∀ k, k ≠ 4 → x1.1 26 k = x.1 26 k) ∧ x1.2 = x.2
theorem AQ_rst (st fi : Nat) (T : Nat → Nat → Bool) (W : Nat → Nat → Nat → Bool) (k : Nat) : AQ st fi T W k = (rst (st &&& fi) 0).flatMap (fun b => (QQ st T (W b) k (2 ^ b) b).map (fun r => b :: r)) := by rw [rst_0]; rfl
theorem c0_find {x : bq_S} {L : AL} {st pl : Nat} {cl : Bool} {fi la : Nat} {th : Int32} {n : Nat} (hc : CW x L st pl cl fi la th) (ho : OKL L) (hst : st < 2 ^ lm L) (hfi : fi < 256) (hla : la < 256) (hpl : pl ≤ 8) (hp1 : 1 ≤ pl) (hn : 300 ≤ n) {i : Nat} (hi31 : i < 2 ^ 31) :
    ∃ x1, fX0_find n (nI i) 42 8 x = some (b2i (AQ st fi (tch L) (WW L cl la th) (pl - 1))[i]?.isSome, x1) ∧ fr1 x x1 ∧ ∀ r, (AQ st fi (tch L) (WW L cl la th) (pl - 1))[i]? = some r → CRow x1 42 r := by
  have h256 : st < 256 := p8_256 ho.1 hst
  have hsf : st &&& fi < 2 ^ 31 := and_lt31 (by omega)
  rw [AQ_rst]
  generalize hG : (fun b => (QQ st (tch L) (WW L cl la th b) (pl - 1) (2 ^ b) b).map (fun r => b :: r)) = G
  have hGl : ∀ b, (G b).length = (QQ st (tch L) (WW L cl la th b) (pl - 1) (2 ^ b) b).length := fun b => by rw [← hG]; simp
  have hGlen : ∀ b, (G b).length < 2 ^ 31 := fun b => by
    have h := QQ_len st (tch L) (WW L cl la th b) (pl - 1) (2 ^ b) b
    have h2 : 8 ^ (pl - 1) ≤ 8 ^ 8 := Nat.pow_le_pow_right (by decide) (by omega)
    have h3 : (8 : Nat) ^ 8 < 2 ^ 31 := by decide
    rw [hGl]; omega
  have key : ∀ d j idx f (z : bq_S), j + d = 8 → d < f → idx < 2 ^ 31 → fr0 x z → ∃ o, wh f (fX0_find_b5 n 42 8) (nI idx, nI j, z) = some o ∧ ((((rst (st &&& fi) j).flatMap G)[idx]? = none ∧ ∃ a b x1, o = .inl (a, b, x1) ∧ fr0 x x1) ∨ (∃ r x1, ((rst (st &&& fi) j).flatMap G)[idx]? = some r ∧ o = .inr ((1 : Int32), x1) ∧ fr1 x x1 ∧ CRow x1 42 r)) := by
    intro d
    induction d with
    | zero =>
      intro j idx f z hj hf hidx hz
      obtain ⟨f, rfl⟩ : ∃ g, f = g + 1 := ⟨f - 1, by omega⟩
      have : j = 8 := by omega
      subst this
      refine ⟨.inl (nI idx, nI 8, z), wh_e ?_, Or.inl ⟨by rw [rst_8]; simp, nI idx, nI 8, z, rfl, hz⟩⟩
      unfold fX0_find_b5
      simp only [un3, le8 (show 8 < 2 ^ 31 by omega), Nat.le_refl, if_true]
    | succ d ih =>
      intro j idx f z hj hf hidx hz
      obtain ⟨f, rfl⟩ : ∃ g, f = g + 1 := ⟨f - 1, by omega⟩
      have n8 : ¬ 8 ≤ j := by omega
      have hcz := CW_fr hz hc
      rw [rst_s (by omega)]
      have e0 : fX0_find_b5 n 42 8 (nI idx, nI j, z) = if (st &&& fi).testBit j = false then some (.inl (nI idx, nI (j + 1), z)) else (fX8X0_from n (nI j) z).bind (fun o12 => un2 o12 (fun v14 x13 => if v14 ≤ nI idx then some (.inl (nI idx - v14, nI (j + 1), x13)) else (fX0_trace n (nI idx) 42 8 x13).bind (fun x19 => some (.inr (.inr ((1 : Int32), x19)))))) := by
        unfold fX0_find_b5
        simp only [un3, le8 (show j < 2 ^ 31 by omega), n8, if_false, hcz.2.2.1, hcz.2.2.2.2.2.1, wI_and, s_has _ _ z hsf (show j < 31 by omega), Option.bind_some, un2, b2i_0, bd, nI_1]
      cases c : (st &&& fi).testBit j with
      | false =>
        rw [c, if_pos rfl] at e0
        rw [if_neg (by decide), wh_c e0]
        exact ih (j + 1) idx f z (by omega) (by omega) hidx hz
      | true =>
        have hsi : st.testBit j = true := by
          rw [Nat.testBit_and] at c
          cases h : st.testBit j
          · rw [h] at c; simp at c
          · rfl
        obtain ⟨z1, k1, k2, k3, k4⟩ := c0_from hcz ho hst hla hpl hp1 (show j < 8 by omega) hsi hn
        rw [c, if_neg (by decide), k1, Option.bind_some, un2_c, ← hGl] at e0
        rw [if_pos rfl, List.flatMap_cons]
        have hz1 := fr0_tr hz k2
        by_cases c2 : (G j).length ≤ idx
        · have le : nI (G j).length ≤ nI idx := by rw [wIle (hGlen j) hidx]; exact c2
          rw [if_pos le, pk_sub c2] at e0
          rw [wh_c e0, get_app2 c2]
          exact ih (j + 1) (idx - (G j).length) f z1 (by omega) (by omega) (by omega) hz1
        · have lt : ¬ nI (G j).length ≤ nI idx := by rw [wIle (hGlen j) hidx]; exact c2
          rw [if_neg lt] at e0
          have hlt : idx < (QQ st (tch L) (WW L cl la th j) (pl - 1) (2 ^ j) j).length := by rw [← hGl]; omega
          obtain ⟨p1, p2, p3⟩ := pc_two (show j < 8 by omega)
          have hline0 : lineC z1 (bq_sI z1 42 0 (nI j)) := ⟨fun c hc => sI_n _ _ _ hc, rfl⟩
          obtain ⟨a1, a2, a3, z2, t1, t2, t3⟩ := c0_trace (CW_fr k2 hcz) ho hst hpl (show 20 ≤ n by omega) (show j < 8 by omega) k4 (pl - 1) n idx [j] (2 ^ j) j (bq_sI z1 42 0 (nI j)) hline0 (by
            intro i hi
            have : i = 0 := by simpa using hi
            subst this
            rw [sI_s, pk_us]; rfl) rfl (by omega) (by simp) p2 (andn_two hsi) p3 (by rw [p1]; rfl) (by simp; omega) (by omega) _ (List.getElem?_eq_getElem hlt)
          have et : fX0_trace n (nI idx) 42 8 z1 = some z2 := by
            unfold fX0_trace
            have t1' : wh n (fX0_trace_b21 n 42 8) (nI idx, nI (2 ^ j), (1 : Int32), bq_sI z1 42 0 (nI j)) = some (a1, a2, a3, z2) := t1
            have ok0 : ok_i (0 : Int32) 8 = true := by decide
            have c00 : (0 : Int32).toNatClampNeg = 0 := rfl
            rw [k3, s_bit j z1 (by omega), Option.bind_some, un2_c, if_pos ok0, c00, k3]
            simp only [bd]
            rw [t1', Option.bind_some]
            rfl
          rw [et, Option.bind_some] at e0
          refine ⟨.inr ((1 : Int32), z2), wh_e e0, Or.inr ⟨_, z2, ?_, rfl, ?_, t2⟩⟩
          · rw [get_app1 (by omega), ← hG]
            dsimp only
            rw [List.getElem?_map, List.getElem?_eq_getElem hlt]
            rfl
          · exact ⟨fun c a b d => by rw [t3.1 c d, hz1.1 c a b], fun k hk => by rw [t3.1 26 (by decide), hz1.2.1 k hk], by rw [t3.2, hz1.2.2]⟩
  obtain ⟨o, ho1, ho2⟩ := key 8 0 i n x (by omega) (by omega) hi31 (fr0_rf x)
  have ho1' : wh n (fX0_find_b5 n 42 8) (nI i, (0 : Int32), x) = some o := ho1
  rcases ho2 with ⟨h1, a, b, x1, rfl, h2⟩ | ⟨r, x1, h1, rfl, h2, h3⟩
  · refine ⟨x1, ?_, ⟨fun c a b _ => h2.1 c a b, h2.2.1, h2.2.2⟩, fun r hr => by rw [h1] at hr; exact absurd hr (by simp)⟩
    unfold fX0_find
    rw [ho1', h1, Option.bind_some]
    rfl
  · refine ⟨x1, ?_, h2, fun r1 hr => by rw [h1] at hr; cases hr; exact h3⟩
    unfold fX0_find
    rw [ho1', h1, Option.bind_some]
    rfl
