/-! ===== learnNear, and the calls that change books and laws ===== -/
theorem le8 {i : Nat} (h : i < 2 ^ 31) : ((8 : Int32) ≤ nI i) = (8 ≤ i) := wIle (a := 8) (by decide) h
theorem learn_in {x : bq_S} {q : Nat} {L : AL} (hc : CL x q L) (ho : OKL L) {b n : Nat} (hb : b < 8) (hn : 20 ≤ n) : wh n (fX4_learnNear_b12 n q (nI b)) ((0 : Int32), (0 : Int32), x) = some (nI (nearS L b), nI 8, x) := by
  obtain ⟨z, hz, rfl⟩ := wh_for (b := fX4_learnNear_b12 n q (nI b)) (fun i v => v = (nI (mks (tch L b) i), nI i, x)) (fun z => z = (nI (nearS L b), nI 8, x)) 8 (by
    rintro i _ hi rfl
    refine Or.inl ⟨_, ?_, rfl⟩
    unfold fX4_learnNear_b12
    have h1 : ¬ 8 ≤ i := by omega
    simp only [un3, le8 (show i < 2 ^ 31 by omega), h1, if_false, s_areTwo hc ho, are2_n (show b < 2 ^ 31 by omega) (show i < 2 ^ 31 by omega), Option.bind_some, un2, b2i_0, bd, nI_1, s_mayTouch hc ho b i hb hi, s_bit i x (by omega), wI_or, mks, tch]
    by_cases e1 : b < lm L <;> by_cases e2 : i < lm L <;> by_cases e3 : b = i <;> simp [e1, e2, e3]
    cases mayT L b i <;> simp) (by
    rintro _ rfl
    refine ⟨_, ?_, rfl⟩
    unfold fX4_learnNear_b12
    simp only [un3, le8 (show 8 < 2 ^ 31 by omega), Nat.le_refl, if_true, nearS]) n 0 _ (by omega) rfl (by omega)
  exact hz
theorem s_learn {x : bq_S} {q : Nat} {L : AL} (hc : CL x q L) (ho : OKL L) {n : Nat} (hn : 20 ≤ n) : ∃ x1, fX4_learnNear n q x = some x1 ∧ (∀ c, c ≠ q + 6 → x1.1 c = x.1 c) ∧ x1.2 = x.2 ∧ NR x1 q L := by
  have hcl : ∀ z : bq_S, (∀ c, c ≠ q + 6 → z.1 c = x.1 c) → CL z q L := fun z hz => CL_of (fun c h1 h2 => hz c (by omega)) hc
  obtain ⟨z, hz, h1, h2, h3⟩ := wh_for (b := fX4_learnNear_b2 n q) (fun i v => v.1 = nI i ∧ (∀ c, c ≠ q + 6 → v.2.1 c = x.1 c) ∧ v.2.2 = x.2 ∧ ∀ j, j < i → v.2.1 (q + 6) j = nI (nearS L j)) (fun z => (∀ c, c ≠ q + 6 → z.2.1 c = x.1 c) ∧ z.2.2 = x.2 ∧ NR z.2 q L) 8 (by
    rintro i ⟨v, z⟩ hi ⟨h0, h1, h2, h3⟩
    dsimp only at h0 h1 h2 h3
    subst h0
    refine Or.inl ⟨(nI (i + 1), bq_sI z (q + 6) i (nI (nearS L i))), ?_, rfl, ?_, ?_, ?_⟩
    · unfold fX4_learnNear_b2
      have h8 : ¬ 8 ≤ i := by omega
      simp only [un2, le8 (show i < 2 ^ 31 by omega), h8, if_false, learn_in (hcl z h1) ho hi hn, Option.bind_some, un3, okN hi (by decide), if_true, bd, nI_1, cl0 (show i < 2 ^ 31 by omega)]
    · intro c hcne
      dsimp only
      rw [sI_n _ _ _ hcne]; exact h1 c hcne
    · exact h2
    · intro j hj
      dsimp only
      rw [sI_s]
      by_cases e : j = i
      · subst e; exact pk_us
      · rw [pk_un e]; exact h3 j (by omega)) (by
    rintro ⟨v, z⟩ ⟨h0, h1, h2, h3⟩
    dsimp only at h0 h1 h2 h3
    subst h0
    refine ⟨(nI 8, z), ?_, h1, h2, h3⟩
    unfold fX4_learnNear_b2
    simp only [un2, le8 (show 8 < 2 ^ 31 by omega), Nat.le_refl, if_true]) n 0 ((0 : Int32), x) (by omega) ⟨rfl, fun _ _ => rfl, rfl, fun j hj => by omega⟩ (by omega)
  obtain ⟨v, z⟩ := z
  refine ⟨z, ?_, h1, h2, h3⟩
  unfold fX4_learnNear
  rw [hz]
  rfl
/-! a library in its new shape makes the new state -/
theorem CR_lib {x x1 : bq_S} {A : AS} {L : AL} (hc : CR x A) (h : ∀ c, c = 0 ∨ 8 ≤ c → x1.1 c = x.1 c) (h2 : x1.2 = x.2) (hL : CL x1 1 L) (hN : NR x1 1 L) : CR x1 (L, A.2) := by
  obtain ⟨_, _, c3, c4, c5⟩ := hc
  refine ⟨hL, hN, ?_, ?_, ?_⟩
  · show CI x1 A.2.1
    revert c3
    generalize A.2.1 = o
    intro c3
    cases o with
    | none => show x1.1 0 11 = 0; rw [h 0 (by omega)]; exact c3
    | some L => exact ⟨by rw [h 0 (by omega)]; exact c3.1, CL_of (fun c h1 h3 => h c (by omega)) c3.2⟩
  · show CT x1 A.2.2.1
    exact ⟨by rw [h 22 (by omega)]; exact c4.1, fun i hi => by rw [h 23 (by omega)]; exact c4.2 i hi⟩
  · intro s hs
    rw [h _ (by omega), h2]
    exact c5 s hs
theorem MR_lib {y y1 : bq_S} {A : AS} {L : AL} (hc : MR y A) (h0 : ∀ k, k = 9 ∨ k = 21 → y1.1 0 k = y.1 0 k) (h : ∀ c, 6 ≤ c → y1.1 c = y.1 c) (h2 : y1.2 = y.2) (hL : ML y1 L) : MR y1 (L, A.2) := by
  obtain ⟨_, c3, c4, c5⟩ := hc
  refine ⟨hL, ?_, ?_, ?_⟩
  · show MIo y1 A.2.1
    revert c3
    generalize A.2.1 = o
    intro c3
    cases o with
    | none => show y1.1 0 21 = 0; rw [h0 21 (by omega)]; exact c3
    | some L =>
      refine ⟨by rw [h0 21 (by omega)]; exact c3.1, ?_⟩
      unfold MI; rw [h 13 (by omega)]; exact c3.2
  · exact ⟨by rw [h0 9 (by omega)]; exact c4.1, fun i hi => by rw [h 6 (by omega)]; exact c4.2 i hi⟩
  · intro s hs
    rw [h 14 (by omega), h 15 (by omega), h2]
    exact c5 s hs
theorem OKS_lib {A : AS} {L : AL} (h : OKS A) (hL : OKL L) : OKS (L, A.2) := ⟨hL, h.2.1, h.2.2.1, h.2.2.2⟩
/-- a change of the library on both sides -/
theorem Rl_lib {x y x1 y1 : bq_S} {A : AS} {L : AL} (ho : OKS A) (hx : CR x A) (hy : MR y A) (hoL : OKL L) (cx : ∀ c, c = 0 ∨ 8 ≤ c → x1.1 c = x.1 c) (cx2 : x1.2 = x.2) (cL : CL x1 1 L) (cN : NR x1 1 L) (cy0 : ∀ k, k = 9 ∨ k = 21 → y1.1 0 k = y.1 0 k) (cy : ∀ c, 6 ≤ c → y1.1 c = y.1 c) (cy2 : y1.2 = y.2) (mL : ML y1 L) : Rl x1 y1 :=
  ⟨(L, A.2), OKS_lib ho hoL, CR_lib hx cx cx2 cL cN, MR_lib hy cy0 cy cy2 mL⟩
/-- learnNear behind a change -/
theorem learn_lib {x x1 : bq_S} {L : AL} {n : Nat} (hn : 20 ≤ n) (hoL : OKL L) (hL : CL x1 1 L) (cx : ∀ c, c = 0 ∨ 8 ≤ c → x1.1 c = x.1 c) (cx2 : x1.2 = x.2) : ∃ x2, fX4_learnNear n 1 x1 = some x2 ∧ (∀ c, c = 0 ∨ 8 ≤ c → x2.1 c = x.1 c) ∧ x2.2 = x.2 ∧ CL x2 1 L ∧ NR x2 1 L ∧ (∀ c, c ≠ 7 → x2.1 c = x1.1 c) := by
  obtain ⟨x2, h1, h2, h3, h4⟩ := s_learn hL hoL hn
  exact ⟨x2, h1, fun c hc => (h2 c (by omega)).trans (cx c hc), h3.trans cx2, CL_of (fun c a b => h2 c (by omega)) hL, h4, fun c hc => h2 c hc⟩
-- touch
theorem st_touch (n : Nat) : bs_touch Rl n := by
  rintro x y ⟨A, ho, hx, hy⟩ p1 p2
  unfold fX9_touch fX10_touch
  rw [s_areTwo hx.1 ho.1, m_areTwo hy.1 ho.1]
  cases h : are2 (lm A.1) p1 p2 with
  | false => exact ⟨-1, x, y, by simp [un2, b2i], by simp [un2, b2i], A, ho, hx, hy⟩
  | true =>
    obtain ⟨a, b, ha, hb, hab, rfl, rfl⟩ := are2_of (mem8 ho.1) h
    have h8 := ho.1.1
    refine ⟨b2i (mayT A.1 a b), x, y, ?_, ?_, A, ho, hx, hy⟩
    · simp only [Option.bind_some, un2, b2i_0, s_touches hx.2.1 a b (by omega) (by omega), tch_may ha hb hab]
      cases mayT A.1 a b <;> simp [b2i]
    · simp only [Option.bind_some, un2, b2i_0, m_mayTouch hy.1 ho.1 a b ha hb]
      cases mayT A.1 a b <;> simp [b2i]
