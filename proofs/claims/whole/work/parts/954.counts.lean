/-! ===== Counts: total, find ===== -/
/-- what Counts is asked -/
def CW (x : bq_S) (L : AL) (st pl : Nat) (cl : Bool) (fi la : Nat) (th : Int32) : Prop := CL x 1 L ∧ NR x 1 L ∧ x.1 26 2 = nI st ∧ x.1 26 3 = nI pl ∧ x.1 26 5 = b2i cl ∧ x.1 26 6 = nI fi ∧ x.1 26 7 = nI la ∧ x.1 26 8 = th
def fr0 (x x1 : bq_S) : Prop := (∀ c, c ≠ 25 → c ≠ 26 → x1.1 c = x.1 c) ∧ (∀ k, k ≠ 4 → x1.1 26 k = x.1 26 k) ∧ x1.2 = x.2
theorem fr0_rf (x : bq_S) : fr0 x x := ⟨fun _ _ _ => rfl, fun _ _ => rfl, rfl⟩
theorem fr0_tr {x y z : bq_S} (h1 : fr0 x y) (h2 : fr0 y z) : fr0 x z := ⟨fun c a b => (h2.1 c a b).trans (h1.1 c a b), fun k a => (h2.2.1 k a).trans (h1.2.1 k a), h2.2.2.trans h1.2.2⟩
theorem NR_of {x x1 : bq_S} {L : AL} (h : x1.1 7 = x.1 7) (hN : NR x 1 L) : NR x1 1 L := fun i hi => by rw [show 1 + 6 = 7 from rfl, h]; exact hN i hi
theorem CW_fr {x x1 : bq_S} {L : AL} {st pl : Nat} {cl : Bool} {fi la : Nat} {th : Int32} (h : fr0 x x1) (hc : CW x L st pl cl fi la th) : CW x1 L st pl cl fi la th := by
  obtain ⟨c1, c2, c3, c4, c5, c6, c7, c8⟩ := hc
  exact ⟨CL_of (fun c a b => h.1 c (by omega) (by omega)) c1, NR_of (h.1 7 (by decide) (by decide)) c2, by rw [h.2.1 _ (by decide)]; exact c3, by rw [h.2.1 _ (by decide)]; exact c4, by rw [h.2.1 _ (by decide)]; exact c5, by rw [h.2.1 _ (by decide)]; exact c6, by rw [h.2.1 _ (by decide)]; exact c7, by rw [h.2.1 _ (by decide)]; exact c8⟩
def WW (L : AL) (cl : Bool) (la : Nat) (th : Int32) (fs u l : Nat) : Bool := la.testBit l && ((!cl || tch L l fs) && (decide (th = -1) || decide (nI (thS L u) = th)))
theorem fr0_tab {x x1 : bq_S} {fs : Nat} (h : tabE (bq_sI x 26 4 (nI fs)) x1) : fr0 x x1 := ⟨fun c a b => by rw [h.1 c a, sI_n _ _ _ b], fun k hk => by rw [h.1 26 (by decide), sI_s, pk_un hk], h.2⟩
theorem c0_step {x : bq_S} {L : AL} (hN : NR x 1 L) (u l b : Nat) (v : Int32) (hl : l < 8) (hb : b < 8) : fX0_ofStep (nI u) (nI l) (nI b) v x = some (if tch L l b then v else 0, x) := by
  unfold fX0_ofStep
  simp only [s_touches hN l b hl hb, Option.bind_some, un2, b2i_0]
  cases tch L l b <;> simp
theorem c0_whole {x : bq_S} {L : AL} {st pl : Nat} {cl : Bool} {fi la fs : Nat} {th : Int32} {n : Nat} (hc : CW x L st pl cl fi la th) (ho : OKL L) (h4 : x.1 26 4 = nI fs) (hfs : fs < 8) (hla : la < 256) (hn : 20 ≤ n) {u l : Nat} (hu : u < 2 ^ lm L) (hl : l < 8) : fX0_ofWhole n (nI u) (nI l) x = some (if WW L cl la th fs u l then 1 else 0, x) := by
  obtain ⟨c1, c2, c3, c4, c5, c6, c7, c8⟩ := hc
  have j35 : fX0_ofWhole_j35 n (nI u) x = some (if (decide (th = -1) || decide (nI (thS L u) = th)) then 1 else 0, x) := by
    unfold fX0_ofWhole_j35
    simp only [c8, s_thicknessOf c1 ho hu hn, Option.bind_some, un2]
    by_cases e : th = -1
    · simp [e]
    · by_cases e2 : nI (thS L u) = th
      · simp [e2]
      · simp [e, e2]
  unfold fX0_ofWhole WW
  simp only [c7, s_has _ _ x (show la < 2 ^ 31 by omega) (show l < 31 by omega), Option.bind_some, un2, b2i_0, c5, h4, s_touches c2 l fs hl hfs, j35]
  cases la.testBit l
  · simp
  · cases cl
    · simp
    · cases tch L l fs <;> simp
theorem sub_lt {u st k : Nat} (h : st < 2 ^ k) (hs : andn u st = 0) : u < 2 ^ k := by
  apply Nat.lt_of_not_le
  intro hle
  obtain ⟨i, hi, hb⟩ := Nat.exists_ge_and_testBit_of_ge_two_pow hle
  have h2 := andn_sub hs hb
  rw [Nat.testBit_lt_two_pow (Nat.lt_of_lt_of_le h (Nat.pow_le_pow_right (by decide) hi))] at h2
  exact absurd h2 (by decide)
/-- the ways on, and their number -/
theorem c0_from {x : bq_S} {L : AL} {st pl : Nat} {cl : Bool} {fi la fs : Nat} {th : Int32} {n : Nat} (hc : CW x L st pl cl fi la th) (ho : OKL L) (hst : st < 2 ^ lm L) (hla : la < 256) (hpl : pl ≤ 8) (hp1 : 1 ≤ pl) (hfs : fs < 8) (hsf : st.testBit fs = true) (hn : 300 ≤ n) : ∃ x1, fX8X0_from n (nI fs) x = some (nI (QQ st (tch L) (WW L cl la th fs) (pl - 1) (2 ^ fs) fs).length, x1) ∧ fr0 x x1 ∧ x1.1 26 4 = nI fs ∧ TB x1 st pl fs 1 (fun k u l => nI (QQ st (tch L) (WW L cl la th fs) k u l).length) := by
  have h256 : st < 256 := p8_256 ho.1 hst
  have hF : FF st 0 (fun _ l b v => if tch L l b then v else 0) w0B (fun u l => if WW L cl la th fs u l then 1 else 0) = fun k u l => nI (QQ st (tch L) (WW L cl la th fs) k u l).length := by
    funext k u l
    exact FF_len st (tch L) (WW L cl la th fs) k u l
  obtain ⟨x1, k1, k2, k3⟩ := w0_from (x := x) (n := n) (stp := fun _ l b v => if tch L l b then v else 0) (whl := fun u l => if WW L cl la th fs u l then 1 else 0) hc.2.2.1 hc.2.2.2.1 h256 hpl hp1 hfs hsf hn (by
    intro x1 hx1 u l b v hu hl hb
    exact c0_step (CW_fr (fr0_tab hx1) hc).2.1 u l b v hl hb) (by
    intro x1 hx1 u l hu hsub hl hb
    refine c0_whole (CW_fr (fr0_tab hx1) hc) ho ?_ hfs hla (by omega) ?_ hl
    · rw [hx1.1 26 (by decide), sI_s, pk_us]
    · exact sub_lt hst hsub)
  rw [hF] at k1 k3
  refine ⟨x1, k1, fr0_tab k2, ?_, k3⟩
  rw [k2.1 26 (by decide), sI_s, pk_us]
