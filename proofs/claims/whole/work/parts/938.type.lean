/-! ===== type ===== -/
def byC (w : Int64) (k : Nat) : Int32 := ((w.toUInt64 >>> (((8 : Int32) * nI k).toInt64.toUInt64 &&& Int64.toUInt64 63)).toInt64.toInt32 &&& (255 : Int32))
def byN (w : Int64) (k : Nat) : Nat := w.toBitVec.toNat / 2 ^ (8 * k) % 256
theorem byC_N (w : Int64) {k : Nat} (hk : k < 8) : byC w k = nI (byN w k) := by
  unfold byC byN
  rw [pk_and _ 8 (by decide)]
  congr 1
  have hs : ∀ k : Fin 8, ((((8 : Int32) * nI k.val).toInt64.toUInt64 &&& Int64.toUInt64 63).toBitVec % 64).toNat = 8 * k.val := by decide
  have h1 : (w.toUInt64 >>> (((8 : Int32) * nI k).toInt64.toUInt64 &&& Int64.toUInt64 63)).toBitVec.toNat = w.toBitVec.toNat / 2 ^ (8 * k) := by
    rw [UInt64.toBitVec_shiftRight, BitVec.ushiftRight_eq', BitVec.toNat_ushiftRight, hs ⟨k, hk⟩, Nat.shiftRight_eq_div_pow]
    rfl
  have h2 : (w.toUInt64 >>> (((8 : Int32) * nI k).toInt64.toUInt64 &&& Int64.toUInt64 63)).toInt64.toInt32.toBitVec.toNat = (w.toUInt64 >>> (((8 : Int32) * nI k).toInt64.toUInt64 &&& Int64.toUInt64 63)).toBitVec.toNat % 2 ^ 32 := by
    rw [Int64.toBitVec_toInt32]
    rw [BitVec.signExtend_eq_setWidth_of_le _ (by decide), BitVec.toNat_setWidth]
    rfl
  rw [h2, h1]
  rw [Nat.mod_mod_of_dvd _ (by decide : 2 ^ 8 ∣ 2 ^ 32)]
def byM (w : Int64) (k : Nat) : Int64 := (w >>> (((8 : Int32) * nI k).toInt64 &&& 63)) &&& (255 : Int64)
theorem byM_N (w : Int64) {k : Nat} (hk : k < 8) : byM w k = lN (byN w k) := by
  unfold byM byN
  apply Int64.toBitVec_inj.mp
  have hs : ∀ k : Fin 8, ((((8 : Int32) * nI k.val).toInt64 &&& 63).toBitVec.smod 64).toNat = 8 * k.val := by decide
  apply BitVec.eq_of_getLsbD_eq
  intro i hi
  have h255 : (255 : Int64).toBitVec.getLsbD i = decide (i < 8) := by
    have : ∀ i : Fin 64, (255 : Int64).toBitVec.getLsbD i.val = decide (i.val < 8) := by decide
    exact this ⟨i, hi⟩
  have hN : (lN (w.toBitVec.toNat / 2 ^ (8 * k) % 256)).toBitVec = BitVec.ofNat 64 (w.toBitVec.toNat / 2 ^ (8 * k) % 256) := by
    unfold lN; exact Int64.toBitVec_ofNat'
  rw [hN, Int64.toBitVec_and, BitVec.getLsbD_and, h255, BitVec.getLsbD_ofNat, Int64.toBitVec_shiftRight, BitVec.sshiftRight_eq', BitVec.getLsbD_sshiftRight, hs ⟨k, hk⟩]
  have h8 : (w.toBitVec.toNat / 2 ^ (8 * k) % 256).testBit i = (decide (i < 8) && w.toBitVec.getLsbD (8 * k + i)) := by
    rw [show (256 : Nat) = 2 ^ 8 from rfl, Nat.testBit_mod_two_pow, Nat.testBit_div_two_pow, BitVec.getLsbD, Nat.add_comm]
  rw [h8]
  by_cases h : i < 8
  · have h1 : 8 * k + i < 64 := by omega
    have h2 : ¬ 64 ≤ i := by omega
    simp [h, h1, h2, hi]
  · simp [h]
theorem byN_lt (w : Int64) (k : Nat) : byN w k < 256 := Nat.mod_lt _ (by decide)
theorem s_byte (w : Int64) {k : Nat} (hk : k < 8) (x : bq_S) : fX7_byteOf w (nI k) x = some (nI (byN w k), x) := by
  have := byC_N w hk
  unfold byC at this
  unfold fX7_byteOf
  rw [this]
/-- can all of the k lowest bytes stand on the tape -/
def canH (w : Int64) (k : Nat) : Bool := (List.range k).all (fun j => decide (32 ≤ byN w j ∧ byN w j ≤ 126))
theorem canH_s (w : Int64) (k : Nat) : canH w (k + 1) = (canH w k && decide (32 ≤ byN w k ∧ byN w k ≤ 126)) := by
  unfold canH
  rw [List.range_succ, List.all_append]
  simp
theorem canH_of {w : Int64} {k : Nat} (h : canH w k = true) {j : Nat} (hj : j < k) : 32 ≤ byN w j ∧ byN w j ≤ 126 := by
  have := List.all_eq_true.mp h j (List.mem_range.mpr hj)
  simpa using this
theorem canH_not {w : Int64} {k j : Nat} (hj : j < k) (h : ¬ (32 ≤ byN w j ∧ byN w j ≤ 126)) : canH w k = false := by
  cases e : canH w k with
  | false => rfl
  | true => exact absurd (canH_of e hj) h
theorem s_canHold (w : Int64) {k n : Nat} (hk : k ≤ 8) (hn : 20 ≤ n) (x : bq_S) : fX7_canHold n w (nI k) x = some (b2i (canH w k), x) := by
  obtain ⟨z, hz, hq⟩ := wh_for (b := fX7_canHold_b2 n w (nI k)) (fun i v => v = (nI i, x) ∧ canH w i = true) (fun z => (∃ v, z = .inl (v, x) ∧ canH w k = true) ∨ (z = .inr (0, x) ∧ canH w k = false)) k (by
    rintro i _ hi ⟨rfl, hc⟩
    have n1 : ¬ k ≤ i := by omega
    have hb := byN_lt w i
    have e1 : (nI (byN w i) < (32 : Int32)) = (byN w i < 32) := wIlt (b := 32) (by omega) (by decide)
    have e2 : (nI (byN w i) ≤ (126 : Int32)) = (byN w i ≤ 126) := wIle (b := 126) (by omega) (by decide)
    unfold fX7_canHold_b2
    simp only [un2, wIle (show k < 2 ^ 31 by omega) (show i < 2 ^ 31 by omega), n1, if_false, s_byte w (show i < 8 by omega), Option.bind_some, e1, e2, bd, nI_1]
    by_cases a : byN w i < 32
    · exact Or.inr ⟨.inr (0, x), by simp [a], Or.inr ⟨rfl, canH_not hi (by omega)⟩⟩
    · by_cases b : byN w i ≤ 126
      · refine Or.inl ⟨(nI (i + 1), x), by simp [a, b], rfl, ?_⟩
        rw [canH_s, hc]
        simp; omega
      · exact Or.inr ⟨.inr (0, x), by simp [a, b], Or.inr ⟨rfl, canH_not hi (by omega)⟩⟩) (by
    rintro _ ⟨rfl, hc⟩
    refine ⟨.inl (nI k, x), ?_, Or.inl ⟨nI k, rfl, hc⟩⟩
    unfold fX7_canHold_b2
    simp only [un2, wIle (show k < 2 ^ 31 by omega) (show k < 2 ^ 31 by omega), Nat.le_refl, if_true]) n 0 ((0 : Int32), x) (by omega) ⟨rfl, rfl⟩ (by omega)
  unfold fX7_canHold
  rw [hz]
  rcases hq with ⟨v, rfl, h⟩ | ⟨rfl, h⟩
  · simp [h, un2, b2i]
  · simp [h, b2i]
theorem m_canHold (w : Int64) {k n : Nat} (hk : k ≤ 8) (hn : 20 ≤ n) (y : bq_S) : ∃ z, wh n (fX10_type_b17 n w (nI k)) ((0 : Int32), y) = some z ∧ ((∃ v, z = .inl (v, y) ∧ canH w k = true) ∨ (z = .inr (-1, y) ∧ canH w k = false)) := by
  exact wh_for (b := fX10_type_b17 n w (nI k)) (fun i v => v = (nI i, y) ∧ canH w i = true) (fun z => (∃ v, z = .inl (v, y) ∧ canH w k = true) ∨ (z = .inr (-1, y) ∧ canH w k = false)) k (by
    rintro i _ hi ⟨rfl, hc⟩
    have n1 : ¬ k ≤ i := by omega
    have hb := byN_lt w i
    have hm := byM_N w (show i < 8 by omega)
    unfold byM at hm
    unfold fX10_type_b17
    simp only [un2, wIle (show k < 2 ^ 31 by omega) (show i < 2 ^ 31 by omega), n1, if_false, hm, m_in, Option.bind_some, b2i_0, bd, nI_1, pk_lT (show byN w i < 2 ^ 63 by omega)]
    by_cases a : 32 ≤ byN w i ∧ byN w i ≤ 126
    · refine Or.inl ⟨(nI (i + 1), y), ?_, rfl, ?_⟩
      · have : decide ((32 : Int64).toInt ≤ (byN w i : Int) ∧ (byN w i : Int) ≤ (126 : Int64).toInt) = true := by
          apply decide_eq_true; simp; omega
        simp only [this, Bool.true_eq_false, if_false]
      · rw [canH_s, hc]
        simp; omega
    · refine Or.inr ⟨.inr (-1, y), ?_, Or.inr ⟨rfl, canH_not hi a⟩⟩
      have : decide ((32 : Int64).toInt ≤ (byN w i : Int) ∧ (byN w i : Int) ≤ (126 : Int64).toInt) = false := by
        apply decide_eq_false; simp; omega
      simp only [this, if_true]) (by
    rintro _ ⟨rfl, hc⟩
    refine ⟨.inl (nI k, y), ?_, Or.inl ⟨nI k, rfl, hc⟩⟩
    unfold fX10_type_b17
    simp only [un2, wIle (show k < 2 ^ 31 by omega) (show k < 2 ^ 31 by omega), Nat.le_refl, if_true]) n 0 ((0 : Int32), y) (by omega) ⟨rfl, rfl⟩ (by omega)
/-- the k lowest bytes, the highest first -/
def byts (w : Int64) : Nat → List Nat
  | 0 => []
  | k + 1 => byN w k :: byts w k
theorem byts_len (w : Int64) : ∀ k, (byts w k).length = k
  | 0 => rfl
  | k + 1 => by simp [byts, byts_len w k]
theorem byts_mem {w : Int64} : ∀ {k c : Nat}, canH w k = true → c ∈ byts w k → 32 ≤ c ∧ c ≤ 126
  | 0, c, _, h => by simp [byts] at h
  | k + 1, c, hc, h => by
    rcases List.mem_cons.mp h with rfl | h
    · exact canH_of hc (by omega)
    · rw [canH_s, Bool.and_eq_true] at hc
      exact byts_mem hc.1 h
theorem nar_b {c : Nat} (h1 : 32 ≤ c) (h2 : c ≤ 126) : vp_nar .byte (nI c).toInt8.toInt32 = nI c := by
  have : ∀ c : Fin 127, vp_nar .byte (nI c.val).toInt8.toInt32 = nI c.val := by decide +kernel
  exact this ⟨c, by omega⟩
theorem getD_app {a b : List Nat} {i : Nat} : (a ++ b).getD i 0 = if i < a.length then a.getD i 0 else b.getD (i - a.length) 0 := by
  by_cases h : i < a.length
  · simp [List.getD, List.getElem?_append_left h, h]
  · rw [if_neg h]; simp [List.getD, List.getElem?_append_right (by omega : a.length ≤ i)]
theorem CT_app {x : bq_S} {t : List Nat} {c : Nat} (h : CT x t) : CT (bq_sI (bq_sI x 23 t.length (nI c)) 22 2 (nI (t.length + 1))) (t ++ [c]) := by
  refine ⟨?_, fun i hi => ?_⟩
  · rw [sI_s, pk_us, List.length_append]; rfl
  · rw [sI_n _ _ _ (by decide), sI_s, getD_app]
    rw [List.length_append] at hi
    by_cases e : i = t.length
    · subst e; rw [pk_us]; simp
    · rw [pk_un e, if_pos (by simp at hi; omega)]; exact h.2 i (by simp at hi; omega)
theorem MT_app {y : bq_S} {t : List Nat} {c : Nat} (h : MT y t) : MT (bq_sI (bq_sI y 6 t.length (nI c)) 0 9 (nI (t.length + 1))) (t ++ [c]) := by
  refine ⟨?_, fun i hi => ?_⟩
  · rw [sI_s, pk_us, List.length_append]; rfl
  · rw [sI_n _ _ _ (by decide), sI_s, getD_app]
    rw [List.length_append] at hi
    by_cases e : i = t.length
    · subst e; rw [pk_us]; simp
    · rw [pk_un e, if_pos (by simp at hi; omega)]; exact h.2 i (by simp at hi; omega)
theorem s_append {w : Int64} {n : Nat} : ∀ (k : Nat), k ≤ 8 → ∀ (f : Nat), k < f → ∀ (x : bq_S) (t : List Nat), CT x t → canH w k = true → t.length + k ≤ 60 → ∃ x1, wh f (fX7_append_b5 n w) (nI k - 1, x) = some (-1, x1) ∧ CT x1 (t ++ byts w k) ∧ x1.2 = x.2 ∧ (∀ c, c ≠ 22 → c ≠ 23 → x1.1 c = x.1 c) := by
  intro k
  induction k with
  | zero =>
    intro _ f hf x t ht _ _
    obtain ⟨f, rfl⟩ : ∃ g, f = g + 1 := ⟨f - 1, by omega⟩
    refine ⟨x, ?_, by simpa [byts] using ht, rfl, fun _ _ _ => rfl⟩
    apply wh_e
    unfold fX7_append_b5
    have : nI 0 - 1 = (-1 : Int32) := by decide
    simp [un2, this]
  | succ k ih =>
    intro hk f hf x t ht hc hl
    obtain ⟨f, rfl⟩ : ∃ g, f = g + 1 := ⟨f - 1, by omega⟩
    have hck := hc
    rw [canH_s, Bool.and_eq_true] at hck
    obtain ⟨b1, b2⟩ := canH_of hc (j := k) (by omega)
    have hstep : fX7_append_b5 n w (nI (k + 1) - 1, x) = some (.inl (nI k - 1, bq_sI (bq_sI x 23 t.length (nI (byN w k))) 22 2 (nI (t.length + 1)))) := by
      unfold fX7_append_b5
      have n0 : ¬ nI k < 0 := nI_pos (by omega)
      have e3 : (bq_sI x 23 t.length (nI (byN w k))).1 22 2 = nI t.length := by rw [sI_n _ _ _ (by decide), ht.1]
      have e4 : nI k + (-1 : Int32) = nI k - 1 := by rw [Int32.sub_eq_add_neg]
      simp only [un2, nI_pred, n0, if_false, s_byte w (show k < 8 by omega), Option.bind_some, ht.1, okN (show t.length < 60 by omega) (by decide), if_true, bd, cl0 (show t.length < 2 ^ 31 by omega), nar_b b1 b2, e3, nI_1, e4]
    obtain ⟨x1, h1, h2, h3, h4⟩ := ih (by omega) f (by omega) _ _ (CT_app (c := byN w k) ht) hck.1 (by simp; omega)
    refine ⟨x1, ?_, ?_, h3, fun c q1 q2 => ?_⟩
    · rw [wh_c hstep]; exact h1
    · rw [List.append_assoc] at h2; exact h2
    · rw [h4 c q1 q2, sI_n _ _ _ q1, sI_n _ _ _ q2]
theorem m_append {w : Int64} {n : Nat} : ∀ (k : Nat), k ≤ 8 → ∀ (f : Nat), k < f → ∀ (y : bq_S) (t : List Nat), MT y t → canH w k = true → t.length + k ≤ 60 → ∃ y1, wh f (fX10_type_b73 n w) (nI k - 1, y) = some (-1, y1) ∧ MT y1 (t ++ byts w k) ∧ y1.2 = y.2 ∧ (∀ c, c ≠ 0 → c ≠ 6 → y1.1 c = y.1 c) ∧ ∀ j, j ≠ 9 → y1.1 0 j = y.1 0 j := by
  intro k
  induction k with
  | zero =>
    intro _ f hf y t ht _ _
    obtain ⟨f, rfl⟩ : ∃ g, f = g + 1 := ⟨f - 1, by omega⟩
    refine ⟨y, ?_, by simpa [byts] using ht, rfl, fun _ _ _ => rfl, fun _ _ => rfl⟩
    apply wh_e
    unfold fX10_type_b73
    have : nI 0 - 1 = (-1 : Int32) := by decide
    simp [un2, this]
  | succ k ih =>
    intro hk f hf y t ht hc hl
    obtain ⟨f, rfl⟩ : ∃ g, f = g + 1 := ⟨f - 1, by omega⟩
    have hck := hc
    rw [canH_s, Bool.and_eq_true] at hck
    obtain ⟨b1, b2⟩ := canH_of hc (j := k) (by omega)
    have hm := byM_N w (show k < 8 by omega)
    unfold byM at hm
    have hstep : fX10_type_b73 n w (nI (k + 1) - 1, y) = some (.inl (nI k - 1, bq_sI (bq_sI y 6 t.length (nI (byN w k))) 0 9 (nI (t.length + 1)))) := by
      unfold fX10_type_b73
      have n0 : ¬ nI k < 0 := nI_pos (by omega)
      have e3 : (bq_sI y 6 t.length (nI (byN w k))).1 0 9 = nI t.length := by rw [sI_n _ _ _ (by decide), ht.1]
      have e4 : nI k + (-1 : Int32) = nI k - 1 := by rw [Int32.sub_eq_add_neg]
      simp only [un2, nI_pred, n0, if_false, ht.1, okN (show t.length < 60 by omega) (by decide), if_true, bd, cl0 (show t.length < 2 ^ 31 by omega), hm, lN_i, e3, nI_1, e4]
    obtain ⟨x1, h1, h2, h3, h4, h5⟩ := ih (by omega) f (by omega) _ _ (MT_app (c := byN w k) ht) hck.1 (by simp; omega)
    refine ⟨x1, ?_, ?_, h3, fun c q1 q2 => ?_, fun j hj => ?_⟩
    · rw [wh_c hstep]; exact h1
    · rw [List.append_assoc] at h2; exact h2
    · rw [h4 c q1 q2, sI_n _ _ _ q1, sI_n _ _ _ q2]
    · rw [h5 j hj, sI_s, pk_un hj, sI_n _ _ _ (by decide)]
theorem Rl_tape {x y x1 y1 : bq_S} {A : AS} {t : List Nat} (ho : OKS A) (hx : CR x A) (hy : MR y A) (hok : t.length ≤ 60 ∧ ∀ c ∈ t, 32 ≤ c ∧ c ≤ 126) (cx : ∀ c, c ≤ 14 ∨ 34 ≤ c → x1.1 c = x.1 c) (cx2 : x1.2 = x.2) (cT : CT x1 t) (cy : ∀ c, c ≠ 0 → c ≤ 5 ∨ 13 ≤ c → y1.1 c = y.1 c) (cy0 : ∀ j, j = 0 ∨ j = 4 ∨ j = 6 ∨ j = 21 → y1.1 0 j = y.1 0 j) (cy2 : y1.2 16 = y.2 16) (mT : MT y1 t) : Rl x1 y1 := by
  obtain ⟨a1, a2, a3, a4, a5⟩ := hx
  obtain ⟨⟨m1, m2, m3, m4, m5, m6, m7, m8, m9⟩, b2, b3, b4⟩ := hy
  refine ⟨(A.1, A.2.1, t, A.2.2.2), ⟨ho.1, ho.2.1, hok, ho.2.2.2⟩, ⟨CL_of (fun c _ _ => cx c (by omega)) a1, fun i hi => by rw [cx _ (by omega)]; exact a2 i hi, ?_, cT, fun s hs => by rw [cx _ (by omega), cx2]; exact a5 s hs⟩, ⟨⟨by rw [cy0 0 (by omega)]; exact m1, by rw [cy0 4 (by omega)]; exact m2, by rw [cy0 6 (by omega)]; exact m3, fun i hi => by rw [cy 1 (by omega) (by omega)]; exact m4 i hi, fun i hi => by rw [cy 2 (by omega) (by omega)]; exact m5 i hi, fun i hi => by rw [cy 3 (by omega) (by omega)]; exact m6 i hi, by rw [cy 4 (by omega) (by omega)]; exact m7, by rw [cy 4 (by omega) (by omega)]; exact m8, fun i hi => by rw [cy 5 (by omega) (by omega)]; exact m9 i hi⟩, ?_, mT, fun s hs => by rw [cy 14 (by omega) (by omega), cy 15 (by omega) (by omega), cy2]; exact b4 s hs⟩⟩
  · show CI x1 A.2.1
    revert a3
    generalize A.2.1 = o
    intro c3
    cases o with
    | none => show x1.1 0 11 = 0; rw [cx 0 (by omega)]; exact c3
    | some L => exact ⟨by rw [cx 0 (by omega)]; exact c3.1, CL_of (fun c h1 h3 => cx c (by omega)) c3.2⟩
  · show MIo y1 A.2.1
    revert b2
    generalize A.2.1 = o
    intro c3
    cases o with
    | none => show y1.1 0 21 = 0; rw [cy0 21 (by omega)]; exact c3
    | some L =>
      refine ⟨by rw [cy0 21 (by omega)]; exact c3.1, ?_⟩
      unfold MI; rw [cy 13 (by omega) (by omega)]; exact c3.2
theorem st_type {n : Nat} (hn : 20 ≤ n) : bs_type Rl n := by
  rintro x y ⟨A, ho, hx, hy⟩ p1 p3
  unfold fX9_type fX10_type
  have g1 : (p3 < (1 : Int32)) = (p3.toInt < 1) := propext Int32.lt_iff_toInt_lt
  have g2 : ((8 : Int32) < p3) = (8 < p3.toInt) := propext Int32.lt_iff_toInt_lt
  simp only [g1, g2, m_in, Option.bind_some, un2, b2i_0, Int32.toInt_toInt64]
  by_cases h : 1 ≤ p3.toInt ∧ p3.toInt ≤ 8
  · obtain ⟨k, hk, rfl⟩ := vp_in_of (x := p3) (n := 9) (vp_in_iff.mpr (by omega)) (by decide)
    have hk1 := h.1
    rw [nI_toInt (by omega)] at hk1
    have n1 : ¬ (nI k).toInt < 1 := by omega
    have n2 : ¬ 8 < (nI k).toInt := by omega
    have n3 : decide ((1 : Int64).toInt ≤ (nI k).toInt ∧ (nI k).toInt ≤ (8 : Int64).toInt) = true := by
      apply decide_eq_true; simp; omega
    simp only [n1, n2, n3, if_false, s_canHold p1 (show k ≤ 8 by omega) hn x, Option.bind_some, b2i_0, Bool.true_eq_false]
    obtain ⟨z, hz, hq⟩ := m_canHold p1 (show k ≤ 8 by omega) hn y
    rw [hz]
    have hl := ho.2.2.1.1
    have ct : x.1 22 2 = nI A.2.2.1.length := hx.2.2.2.1.1
    have mt : y.1 0 9 = nI A.2.2.1.length := hy.2.2.1.1
    rcases hq with ⟨v, rfl, hc⟩ | ⟨rfl, hc⟩
    · have e60 : (nI A.2.2.1.length + nI k ≤ (60 : Int32)) = (A.2.2.1.length + k ≤ 60) := by rw [nI_add]; exact wIle (b := 60) (by omega) (by decide)
      simp only [hc, Bool.true_eq_false, if_false, Option.bind_some, Sum.elim_inl, ct, mt, e60]
      by_cases hf : A.2.2.1.length + k ≤ 60
      · obtain ⟨x1, a1, a2, a3, a4⟩ := s_append (w := p1) (n := n) k (by omega) n (by omega) x A.2.2.1 hx.2.2.2.1 hc hf
        obtain ⟨y1, b1, b2, b3, b4, b5⟩ := m_append (w := p1) (n := n) k (by omega) n (by omega) y A.2.2.1 hy.2.2.1 hc hf
        refine ⟨nI (A.2.2.1.length + k), x1, y1, ?_, ?_, ?_⟩
        · unfold fX7_append
          simp only [hf, if_true, bd, a1, Option.bind_some, un2, a2.1, List.length_append, byts_len]
        · simp only [hf, if_true, bd, b1, Option.bind_some, b2.1, List.length_append, byts_len]
        · refine Rl_tape (t := A.2.2.1 ++ byts p1 k) ho hx hy ⟨by rw [List.length_append, byts_len]; exact hf, fun c hc2 => ?_⟩ (fun c hc => a4 c (by omega) (by omega)) a3 a2 (fun c h1 h2 => b4 c h1 (by omega)) (fun j hj => b5 j (by omega)) (by rw [b3]) b2
          rcases List.mem_append.mp hc2 with q | q
          · exact ho.2.2.1.2 c q
          · exact byts_mem hc q
      · exact ⟨-3, x, y, by simp [hf], by simp [hf], A, ho, hx, hy⟩
    · exact ⟨-1, x, y, by simp [hc], by simp, A, ho, hx, hy⟩
  · have n3 : decide ((1 : Int64).toInt ≤ p3.toInt ∧ p3.toInt ≤ (8 : Int64).toInt) = false := by
      apply decide_eq_false; simp; omega
    refine ⟨-1, x, y, ?_, by simp only [n3, if_true], A, ho, hx, hy⟩
    by_cases a : p3.toInt < 1
    · simp [a]
    · have : 8 < p3.toInt := by omega
      simp [a, this]
