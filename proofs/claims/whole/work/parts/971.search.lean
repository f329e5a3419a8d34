/-! ===== moves: the search ===== -/
def SX (x : bq_S) (L : AL) (s st al : Nat) : Prop := CL x 1 L ∧ NR x 1 L ∧ x.1 29 3 = nI s ∧ x.1 29 4 = nI st ∧ x.1 29 5 = nI (pc s) ∧ x.1 29 6 = nI al
def fr5 (x x1 : bq_S) : Prop := (∀ c, c ≠ 30 → c ≠ 31 → x1.1 c = x.1 c) ∧ x1.2 = x.2
theorem fr5_rf (x : bq_S) : fr5 x x := ⟨fun _ _ _ => rfl, rfl⟩
theorem fr5_tr {x y z : bq_S} (h1 : fr5 x y) (h2 : fr5 y z) : fr5 x z := ⟨fun c a b => (h2.1 c a b).trans (h1.1 c a b), h2.2.trans h1.2⟩
theorem SX_fr {x x1 : bq_S} {L : AL} {s st al : Nat} (h : fr5 x x1) (hc : SX x L s st al) : SX x1 L s st al := by
  obtain ⟨c1, c2, c3, c4, c5, c6⟩ := hc
  have e := h.1 29 (by decide) (by decide)
  exact ⟨CL_of (fun c a b => h.1 c (by omega) (by omega)) c1, NR_of (h.1 7 (by decide) (by decide)) c2, by rw [e]; exact c3, by rw [e]; exact c4, by rw [e]; exact c5, by rw [e]; exact c6⟩
/-- what the row and the chain hold -/
def PX (x : bq_S) (H p : List Nat) : Prop := CRow x 30 p ∧ ∀ j, j < p.length → x.1 31 j = nI (chv H p j)
theorem gt_l {p q : List Nat} {i : Nat} (h : i < p.length) : gt (p ++ q) i = gt p i := by
  rw [gt_get (by simp; omega), gt_get h, List.getElem_append_left h]
theorem mvp_app {H p q : List Nat} {k : Nat} (h : k ≤ p.length) : mvp H (p ++ q) k = mvp H p k := mvp_congr (fun i hi => gt_l (by omega))
theorem mv_ge {H p q : List Nat} : mvp H p p.length ≤ mv H (p ++ q) := by
  unfold mv
  rw [← mvp_app (q := q) (Nat.le_refl p.length), List.length_append]
  exact mvp_mono H (p ++ q) q.length
theorem bd_c {α β : Type} (e : α) (f : α → β) : bd e f = f e := rfl
theorem s_j77 {x x16 x21 : bq_S} {n pl u lg j cv E sd st al : Nat} (rec : Int32 → Int32 → Int32 → bq_S → Option (Int32 × bq_S)) (hpl : pl < 8) (hj : j < 8) (h16 : bq_sI x 30 pl (nI j) = x16) (hch : fX5_chainAt n (nI pl) x16 = some (nI cv, x16)) (h21 : bq_sI x16 31 pl (nI cv) = x21) (e31 : x21.1 31 pl = nI cv) (hlong : (if nI lg < nI cv then nI cv else nI lg) = nI E) (h4 : x21.1 29 4 = nI st) (h6 : x21.1 29 6 = nI al) (hand : (u ||| 2 ^ j) &&& st < 256) (hsd : pc ((u ||| 2 ^ j) &&& st) = sd) (hE : E ≤ sd) (hs8 : sd ≤ 8) (hal : al < 8) : fX5_search_j77 n rec (nI pl) (nI u) (nI lg) (nI j) x = if al < sd - E then some (.inl (nI (j + 1), x21)) else (rec (nI (pl + 1)) (nI (u ||| 2 ^ j)) (nI E) x21).bind (fun o36 => un2 o36 (fun v38 x37 => if v38 = 0 then bd (nI j + (1 : Int32)) (fun v40 => some (.inl (v40, x37))) else some (.inr (.inr ((1 : Int32), x37))))) := by
  have hcmp : (nI al < nI (sd - E)) = (al < sd - E) := wIlt (by omega) (by omega)
  have ok := okN (show pl < 8 by omega) (by decide)
  have cl := cl0 (show pl < 2 ^ 31 by omega)
  unfold fX5_search_j77
  rw [if_pos ok, bd_c, cl, h16, hch, Option.bind_some, un2_c, if_pos ok, bd_c, h21, if_pos ok, bd_c, e31, hlong, s_bit j x21 (show j < 31 by omega), Option.bind_some, un2_c, wI_or, h4, wI_and, s_bitCount hand, Option.bind_some, un2_c, hsd, h6, pk_sub hE]
  by_cases c : al < sd - E
  · rw [if_pos (hcmp.mpr c), if_pos c, bd_c, nI_1]
  · rw [if_neg (fun h => c (hcmp.mp h)), if_neg c, s_bit j x21 (show j < 31 by omega), Option.bind_some, un2_c, wI_or, nI_1]
theorem s_b27 {z : bq_S} {L : AL} {n pl u lg j s l : Nat} (rec : Int32 → Int32 → Int32 → bq_S → Option (Int32 × bq_S)) (hN : NR z 1 L) (hj : j < 8) (h3 : z.1 29 3 = nI s) (ha : andn s u < 256) (hpl : pl ≤ 8) (hl : 1 ≤ pl → z.1 30 (pl - 1) = nI l ∧ l < 8) : fX5_search_b27 n rec (nI pl) (nI u) (nI lg) (nI j, z) = if (andn s u).testBit j = false then some (.inl (nI (j + 1), z)) else if 1 ≤ pl ∧ tch L l j = false then some (.inl (nI (j + 1), z)) else fX5_search_j77 n rec (nI pl) (nI u) (nI lg) (nI j) z := by
  have n8 : ¬ (8 : Int32) ≤ nI j := by rw [le8 (show j < 2 ^ 31 by omega)]; omega
  have e0 : (nI pl ≤ (0 : Int32)) = (pl ≤ 0) := wIle (b := 0) (by omega) (by decide)
  unfold fX5_search_b27
  rw [un2_c, if_neg n8, h3, wI_andn, s_has _ _ z (show andn s u < 2 ^ 31 by omega) (show j < 31 by omega), Option.bind_some, un2_c]
  cases (andn s u).testBit j with
  | false =>
    rw [if_pos (show b2i false = 0 from rfl), if_pos (show false = false from rfl), bd_c, nI_1]
  | true =>
    rw [if_neg (show ¬ b2i true = 0 by decide), if_neg (show ¬ true = false by decide)]
    by_cases c : pl ≤ 0
    · rw [if_pos (e0.mpr c), if_neg (fun h => by omega)]
    · obtain ⟨l1, l2⟩ := hl (by omega)
      rw [if_neg (fun h => c (e0.mp h)), nI_m (show 0 < pl by omega), if_pos (okN (show pl - 1 < 8 by omega) (by decide)), cl0 (show pl - 1 < 2 ^ 31 by omega), l1, s_touches hN l j l2 hj, Option.bind_some, un2_c]
      cases tch L l j with
      | false => rw [if_pos (show b2i false = 0 from rfl), if_pos ⟨by omega, rfl⟩, bd_c, nI_1]
      | true => rw [if_neg (show ¬ b2i true = 0 by decide), if_neg (fun h => absurd h.2 (by decide))]
theorem s_search {n s st al : Nat} {L : AL} (ho : OKL L) (hs : s < 2 ^ lm L) (hst : st < 256) (hstd : ∀ c, s.testBit c = true → st.testBit c = decide (c ∈ lhl L)) (hal : al < 8) (hn : 20 ≤ n) : ∀ (k d : Nat) (p : List Nat) (x : bq_S), k < d → SX x L s st al → p.length + k = pc s → p.Nodup → (∀ c ∈ p, s.testBit c = true) → PX x (lhl L) p → mvp (lhl L) p p.length ≤ al →
    ∃ fd x1, fX5_search n d (nI p.length) (nI (setOf p)) (nI (EE (lhl L) p p.length (lhl L).length)) x = some (b2i fd, x1) ∧ fr5 x x1 ∧ (fd = true → ∃ q, (arrL k (bits (andn s (setOf p)))).find? (fun q => okM L al (p ++ q)) = some q ∧ CRow x1 30 (p ++ q)) ∧ (fd = false → (∀ q ∈ arrL k (bits (andn s (setOf p))), okM L al (p ++ q) = false) ∧ PX x1 (lhl L) p) := by
  have h256 := p8_256 ho.1 hs
  have hp8 := pc_le s
  have hh := hall8 ho
  intro k
  induction k with
  | zero =>
    intro d p x hd hx hk hnd hsub hP hmv
    obtain ⟨d, rfl⟩ : ∃ e, d = e + 1 := ⟨d - 1, by omega⟩
    have h8 : ∀ c ∈ p, c < 8 := fun c hc => tb8 h256 (hsub c hc)
    have e5 : x.1 29 5 = nI p.length := by rw [hx.2.2.2.2.1]; congr 1; omega
    have hl := s_isLawful hx.1 hx.2.1 ho (n := n) hn (show p.length ≤ 8 by omega) h8 hP.1
    have hok : okM L al (p ++ []) = lawB (tch L) (decide (lri L = 1)) p := by
      unfold okM
      rw [List.append_nil, decide_eq_true (show mv (lhl L) p ≤ al from hmv), Bool.and_true]
    refine ⟨lawB (tch L) (decide (lri L = 1)) p, x, ?_, fr5_rf x, fun h => ⟨[], ?_, by rw [List.append_nil]; exact hP.1⟩, fun h => ⟨fun q hq => ?_, hP⟩⟩
    · show fX5_search_r n (fX5_search n d) _ _ _ x = _
      unfold fX5_search_r
      have n1 : ¬ nI p.length < nI p.length := nI_nlt (Nat.le_refl _) (by omega)
      rw [e5, if_neg n1, hl, Option.bind_some]
      simp only [un2, b2i_01, if_true]
    · show [[]].find? _ = some []
      rw [List.find?_cons, hok, h]
    · have : q = [] := by simpa [arrL] using hq
      rw [this, hok]; exact h
  | succ k ih =>
    intro d p x hd hx hk hnd hsub hP hmv
    obtain ⟨d, rfl⟩ : ∃ e, d = e + 1 := ⟨d - 1, by omega⟩
    have h8 : ∀ c ∈ p, c < 8 := fun c hc => tb8 h256 (hsub c hc)
    have hu8 : setOf p < 256 := setOf_lt (m := 8) h8
    have hEp : EE (lhl L) p p.length (lhl L).length ≤ 8 := by
      have := EE_sd (H := lhl L) (r := p) (b := p.length) (Nat.le_refl _)
      have := sdF_le (lhl L) p p.length
      omega
    obtain ⟨u, hu⟩ : ∃ u, u = setOf p := ⟨_, rfl⟩
    rw [← hu] at hu8 ⊢
    obtain ⟨lg, hlg⟩ : ∃ g, g = EE (lhl L) p p.length (lhl L).length := ⟨_, rfl⟩
    rw [← hlg] at hEp ⊢
    have key : ∃ o, wh n (fX5_search_b27 n (fX5_search n d) (nI p.length) (nI u) (nI lg)) ((0 : Int32), x) = some o ∧ ((∃ b q x1, o = .inr ((1 : Int32), x1) ∧ fr5 x x1 ∧ (arrL (k + 1) (bits (andn s u))).find? (fun q => okM L al (p ++ q)) = some (b :: q) ∧ CRow x1 30 (p ++ b :: q)) ∨ (∃ v x1, o = .inl (v, x1) ∧ fr5 x x1 ∧ PX x1 (lhl L) p ∧ ∀ q ∈ arrL (k + 1) (bits (andn s u)), okM L al (p ++ q) = false)) := by
      refine wh_for (b := fX5_search_b27 n (fX5_search n d) (nI p.length) (nI u) (nI lg)) (fun j z => z.1 = nI j ∧ fr5 x z.2 ∧ PX z.2 (lhl L) p ∧ ∀ b ∈ bits (andn s u), b < j → ∀ q ∈ arrL k (bits (andn s (u ||| 2 ^ b))), okM L al (p ++ b :: q) = false) (fun o => (∃ b q x1, o = .inr ((1 : Int32), x1) ∧ fr5 x x1 ∧ (arrL (k + 1) (bits (andn s u))).find? (fun q => okM L al (p ++ q)) = some (b :: q) ∧ CRow x1 30 (p ++ b :: q)) ∨ (∃ v x1, o = .inl (v, x1) ∧ fr5 x x1 ∧ PX x1 (lhl L) p ∧ ∀ q ∈ arrL (k + 1) (bits (andn s u)), okM L al (p ++ q) = false)) 8 (by
        rintro j ⟨v, z⟩ hj ⟨h0, h1, h2, h3⟩
        dsimp only at h0 h1 h2 h3
        subst h0
        have n8 : ¬ 8 ≤ j := by omega
        have hz := SX_fr h1 hx
        have ha : andn s u < 256 := andn_l8 h256
        have e0 : (nI p.length ≤ (0 : Int32)) = (p.length ≤ 0) := wIle (b := 0) (by omega) (by decide)
        -- going on without j
        have skip : (∀ q ∈ arrL k (bits (andn s (u ||| 2 ^ j))), (andn s u).testBit j = true → okM L al (p ++ j :: q) = false) → ∀ b ∈ bits (andn s u), b < j + 1 → ∀ q ∈ arrL k (bits (andn s (u ||| 2 ^ b))), okM L al (p ++ b :: q) = false := by
          intro hh b hb hlt q hq
          by_cases e : b = j
          · subst e; exact hh q hq (bits_mem.mp hb).2
          · exact h3 b hb (by omega) q hq
        have hb27 := s_b27 (L := L) (n := n) (pl := p.length) (u := u) (lg := lg) (j := j) (s := s) (l := gt p (p.length - 1)) (fX5_search n d) hz.2.1 hj hz.2.2.1 ha (by omega) (fun h => ⟨h2.1 (p.length - 1) (by omega), h8 _ (gt_mem (by omega))⟩)
        cases hbit : (andn s u).testBit j with
        | false =>
          rw [hbit, if_pos rfl] at hb27
          exact Or.inl ⟨_, hb27, rfl, h1, h2, skip (fun q _ h => absurd (hbit.symm.trans h) (by decide))⟩
        | true =>
          rw [hbit, if_neg (by decide)] at hb27
          obtain ⟨hsj, huj⟩ := tb_andn hbit
          have hjp : j ∉ p := fun h => by
            rw [hu, setOf_bit, decide_eq_true h] at huj
            exact absurd huj (by decide)
          have harr : ∀ q ∈ arrL k (bits (andn s (u ||| 2 ^ j))), (p ++ j :: q).length ≤ 8 := fun q hq => by
            rw [List.length_append, List.length_cons, (arr_mem.mp hq).1]; omega
          by_cases hT : 1 ≤ p.length ∧ tch L (gt p (p.length - 1)) j = false
          · rw [if_pos hT] at hb27
            refine Or.inl ⟨_, hb27, rfl, h1, h2, skip (fun q hq _ => ?_)⟩
            cases hok : okM L al (p ++ j :: q)
            · rfl
            · unfold okM at hok
              rw [Bool.and_eq_true] at hok
              have := law_adj (harr q hq) hok.1 (i := p.length - 1) (by simp; omega)
              rw [gt_l (by omega), show p.length - 1 + 1 = p.length by omega, gt_mid, if_neg (by omega), if_pos rfl, hT.2] at this
              exact absurd this (by decide)
          · rw [if_neg hT] at hb27
            -- the book is put
            have hl1 : (p ++ [j]).length = p.length + 1 := by simp
            have hnd1 : (p ++ [j]).Nodup := by
              rw [List.nodup_append]
              refine ⟨hnd, by simp, fun a ha b hb e => ?_⟩
              rw [List.mem_singleton.mp hb] at e
              rw [e] at ha; exact hjp ha
            have hsub1 : ∀ c ∈ p ++ [j], s.testBit c = true := fun c hc => by
              rcases List.mem_append.mp hc with h | h
              · exact hsub c h
              · rw [List.mem_singleton.mp h]; exact hsj
            have h81 : ∀ c ∈ p ++ [j], c < 8 := fun c hc => tb8 h256 (hsub1 c hc)
            have hset1 : setOf (p ++ [j]) = u ||| 2 ^ j := by rw [setOf_app1, hu]
            have hpg : ∀ i, i < p.length → gt (p ++ [j]) i = gt p i := fun i hi => gt_l hi
            obtain ⟨x16, hx16⟩ : ∃ w, w = bq_sI z 30 p.length (nI j) := ⟨_, rfl⟩
            have f16 : fr5 z x16 := by rw [hx16]; exact ⟨fun c a b => sI_n _ _ _ a, rfl⟩
            have hR16 : CRow x16 30 (p ++ [j]) := by rw [hx16]; exact CRow_app h2.1
            have hC16 : ∀ i, i < p.length → x16.1 31 i = nI (chv (lhl L) (p ++ [j]) i) := fun i hi => by
              rw [hx16, sI_n _ _ _ (by decide), h2.2 i hi]
              congr 1
              exact chv_congr (fun t ht => (hpg t (by omega)).symm)
            have hch := s_chainAt (SX_fr f16 hz).1 ho (n := n) (k := p.length) (r := p ++ [j]) hn (by omega) (by omega) h81 hR16 hC16
            have hcv : chv (lhl L) (p ++ [j]) p.length ≤ 9 := by
              have h1 := EE_sd (H := lhl L) (r := p ++ [j]) (b := p.length) (ps_le (lhl L) (gt (p ++ [j]) p.length))
              have h2 := sdF_le (lhl L) (p ++ [j]) p.length
              unfold chv
              split <;> omega
            obtain ⟨x21, hx21⟩ : ∃ w, w = bq_sI x16 31 p.length (nI (chv (lhl L) (p ++ [j]) p.length)) := ⟨_, rfl⟩
            have f21 : fr5 z x21 := by rw [hx21]; exact fr5_tr f16 ⟨fun c a b => sI_n _ _ _ b, rfl⟩
            have hP21 : PX x21 (lhl L) (p ++ [j]) := by
              refine ⟨fun i hi => ?_, fun i hi => ?_⟩
              · rw [hx21, sI_n _ _ _ (by decide)]; exact hR16 i hi
              · rw [hx21, sI_s]
                by_cases e : i = p.length
                · subst e; rw [pk_us]
                · rw [pk_un e]; exact hC16 i (by omega)
            have e31 : x21.1 31 p.length = nI (chv (lhl L) (p ++ [j]) p.length) := hP21.2 p.length (by omega)
            have hz21 := SX_fr f21 hz
            have hlong : (if nI lg < nI (chv (lhl L) (p ++ [j]) p.length) then nI (chv (lhl L) (p ++ [j]) p.length) else nI lg) = nI (EE (lhl L) (p ++ [j]) (p.length + 1) (lhl L).length) := by
              have e1 : lg = EE (lhl L) (p ++ [j]) p.length (lhl L).length := by
                rw [hlg]; exact EE_congr (fun t ht => (hpg t ht).symm)
              rw [EE_chv, ← e1]
              have ee : (nI lg < nI (chv (lhl L) (p ++ [j]) p.length)) = (lg < chv (lhl L) (p ++ [j]) p.length) := wIlt (by omega) (by omega)
              simp only [ee]
              by_cases c : lg < chv (lhl L) (p ++ [j]) p.length
              · rw [if_pos c, if_pos c]
              · rw [if_neg c, if_neg c]
            have hcount : pc ((u ||| 2 ^ j) &&& st) = sdF (lhl L) (p ++ [j]) (p.length + 1) := by
              have := pc_sd (H := lhl L) (r := p ++ [j]) (st := st) hnd1 h81 hst (fun c hc => hstd c (hsub1 c hc)) (p.length + 1) (by omega)
              rw [← this, ← hset1]
              unfold setOf
              rw [hl1]
            have hand : (u ||| 2 ^ j) &&& st < 256 := Nat.lt_of_le_of_lt Nat.and_le_right hst
            have hEs := EE_sd (H := lhl L) (r := p ++ [j]) (b := p.length + 1) (Nat.le_refl _)
            have hsd := sdF_le (lhl L) (p ++ [j]) (p.length + 1)
            have hsubn : nI (sdF (lhl L) (p ++ [j]) (p.length + 1)) - nI (EE (lhl L) (p ++ [j]) (p.length + 1) (lhl L).length) = nI (mvp (lhl L) (p ++ [j]) (p.length + 1)) := pk_sub hEs
            have hmvl : mvp (lhl L) (p ++ [j]) (p.length + 1) ≤ 8 := by unfold mvp; omega
            have hcmp : (nI al < nI (mvp (lhl L) (p ++ [j]) (p.length + 1))) = (al < mvp (lhl L) (p ++ [j]) (p.length + 1)) := wIlt (by omega) (by omega)
            have hrow : (bq_sI z 30 p.length (nI j)) = x16 := hx16.symm
            have hj77 := s_j77 (n := n) (pl := p.length) (u := u) (lg := lg) (j := j) (x := z) (fX5_search n d) (by omega) hj hrow hch hx21.symm e31 hlong hz21.2.2.2.1 hz21.2.2.2.2.2 hand hcount hEs (by omega) hal
            rw [hj77] at hb27
            by_cases c : al < mvp (lhl L) (p ++ [j]) (p.length + 1)
            · rw [if_pos (show al < sdF (lhl L) (p ++ [j]) (p.length + 1) - EE (lhl L) (p ++ [j]) (p.length + 1) (lhl L).length from c)] at hb27
              refine Or.inl ⟨_, hb27, rfl, fr5_tr h1 f21, ⟨fun i hi => ?_, fun i hi => ?_⟩, skip (fun q hq _ => ?_)⟩
              · dsimp only
                rw [hP21.1 i (by omega), hpg i hi]
              · dsimp only
                rw [hP21.2 i (by omega)]
                congr 1
                exact chv_congr (fun t ht => hpg t (by omega))
              · have hge := mv_ge (H := lhl L) (p := p ++ [j]) (q := q)
                rw [hl1, List.append_assoc, List.singleton_append] at hge
                unfold okM
                rw [decide_eq_false (show ¬ mv (lhl L) (p ++ j :: q) ≤ al by omega), Bool.and_false]
            · rw [if_neg (show ¬ al < sdF (lhl L) (p ++ [j]) (p.length + 1) - EE (lhl L) (p ++ [j]) (p.length + 1) (lhl L).length from c)] at hb27
              obtain ⟨fd, x1, k1, k2, k3, k4⟩ := ih d (p ++ [j]) x21 (by omega) hz21 (by omega) hnd1 hsub1 hP21 (by rw [hl1]; omega)
              rw [hl1, hset1] at k1
              rw [hset1] at k3 k4
              rw [k1, Option.bind_some, un2_c] at hb27
              have hap : ∀ q : List Nat, p ++ [j] ++ q = p ++ j :: q := fun q => by rw [List.append_assoc]; rfl
              cases fd with
              | true =>
                obtain ⟨q, q1, q2⟩ := k3 rfl
                simp only [hap] at q1 q2
                rw [if_neg (show ¬ b2i true = 0 by decide)] at hb27
                refine Or.inr ⟨_, hb27, Or.inl ⟨j, q, x1, rfl, fr5_tr h1 (fr5_tr f21 k2), ?_, q2⟩⟩
                unfold arrL
                refine find_flat (bits_asc _) (bits_mem.mpr ⟨hj, hbit⟩) ?_ ?_
                · intro c hc hcj t ht
                  obtain ⟨t', ht', rfl⟩ := List.mem_map.mp ht
                  rw [← bits_rm, ← andn_or] at ht'
                  exact h3 c hc hcj t' ht'
                · rw [← bits_rm, ← andn_or, List.find?_map]
                  have e : ((fun q => okM L al (p ++ q)) ∘ fun r => j :: r) = fun q => okM L al (p ++ j :: q) := rfl
                  rw [e, q1]; rfl
              | false =>
                obtain ⟨q1, q2⟩ := k4 rfl
                rw [if_pos (show b2i false = 0 from rfl), bd_c, nI_1] at hb27
                refine Or.inl ⟨_, hb27, rfl, fr5_tr h1 (fr5_tr f21 k2), ⟨fun i hi => ?_, fun i hi => ?_⟩, skip (fun q hq _ => ?_)⟩
                · dsimp only
                  rw [q2.1 i (by omega), hpg i hi]
                · dsimp only
                  rw [q2.2 i (by omega)]
                  congr 1
                  exact chv_congr (fun t ht => hpg t (by omega))
                · have := q1 q hq
                  rw [hap] at this
                  exact this) (by
        rintro ⟨v, z⟩ ⟨h0, h1, h2, h3⟩
        dsimp only at h0 h1 h2 h3
        subst h0
        refine ⟨.inl (nI 8, z), ?_, Or.inr ⟨_, z, rfl, h1, h2, fun q hq => ?_⟩⟩
        · unfold fX5_search_b27
          simp only [un2, le8 (show 8 < 2 ^ 31 by omega), Nat.le_refl, if_true]
        · obtain ⟨b, hb, t, ht, rfl⟩ := arr_cons.mp hq
          exact h3 b hb (bits_mem.mp hb).1 t ht) n 0 ((0 : Int32), x) (by omega) ⟨rfl, fr5_rf x, hP, fun b _ h => by omega⟩ (by omega)
    obtain ⟨o, ho1, ho2⟩ := key
    have e5 : x.1 29 5 = nI (pc s) := hx.2.2.2.2.1
    have hlt : nI p.length < nI (pc s) := by rw [wIlt (by omega) (by omega)]; omega
    have hr : fX5_search n (d + 1) (nI p.length) (nI u) (nI lg) x = Sum.elim (fun z : Int32 × bq_S => un2 z (fun v48 x49 => some ((0 : Int32), x49))) (fun z => some z) o := by
      show fX5_search_r n (fX5_search n d) _ _ _ x = _
      unfold fX5_search_r
      rw [e5, if_pos hlt, ho1, Option.bind_some]
    rcases ho2 with ⟨b, q, x1, rfl, g1, g2, g3⟩ | ⟨v, x1, rfl, g1, g2, g3⟩
    · exact ⟨true, x1, hr, g1, fun _ => ⟨b :: q, g2, g3⟩, fun h => by cases h⟩
    · exact ⟨false, x1, hr, g1, fun h => (by cases h), fun _ => ⟨g3, g2⟩⟩
