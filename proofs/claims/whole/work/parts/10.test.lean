def fX9_bit (p0 : Int32) (x0 : bq_S) : Option (Int32 × bq_S) :=
  some (((1 : Int32) <<< (p0 &&& 31)), x0)
theorem dX9_bit_0 : decode cX9_bit 0 = .ok (.iconst 1, 1) := by decide +kernel
theorem dX9_bit_1 : decode cX9_bit 1 = .ok (.iload_n 0, 1) := by decide +kernel
theorem dX9_bit_2 : decode cX9_bit 2 = .ok (.ishl, 1) := by decide +kernel
theorem dX9_bit_3 : decode cX9_bit 3 = .ok (.ireturn, 1) := by decide +kernel
set_option maxHeartbeats 4000000 in
set_option maxRecDepth 100000 in
theorem cX9_bit_k {l : Launch} {D : va_G} {a : Nat → Nat} {k : Nat → ClassId} {p0 : Int32} {x0 xz : bq_S} {rz : Int32} (h : fX9_bit  p0 x0 = some (rz, xz)) : bq_M l D bq_cl (bq_ty k) (bq_wC a k) yX9_bit cX9_bit 1 (some .int) { frames := 0, cells := 0, slots := 0, locals := 0 } [.int p0] x0 (some rz) xz := by
  refine bq_ofW RX9 [(0, .int p0)] (by decide +kernel) rfl (Nat.le_of_ble_eq_true rfl) rfl (bq_adC a k) ?_
  intro p e s m below meth c A Q ls S hK hD hA hR hS hP hl
  have hx := S.1; have hb := S.2.1; have hml := S.2.2.1; have hown := S.2.2.2.1; have hts := S.2.2.2.2
  have hret : ∀ z, some z = some (rz, xz) → (rz, xz) = z := fun z h => (Option.some.inj h).symm
  unfold fX9_bit at h
  refine lv_iconst (v := (1 : Int32)) hx hb dX9_bit_0 (by decide) ?_
  refine lv_iload_n hx hb dX9_bit_1 rfl (lv_at hl 0 rfl) ?_
  refine lv_ishl hx hb dX9_bit_2 ?_
  obtain ⟨e1, e2⟩ := Prod.mk.inj (hret _ h)
  exact hR _ _ _ _ _ (congrArg some e1) rfl (by rw [e2]; exact hP) hS dX9_bit_3
def fX9_has (p0 : Int32) (p1 : Int32) (x0 : bq_S) : Option (Int32 × bq_S) :=
  if (p0 &&& ((1 : Int32) <<< (p1 &&& 31))) = 0 then
  some ((0 : Int32), x0)
  else
  some ((1 : Int32), x0)
theorem dX9_has_0 : decode cX9_has 0 = .ok (.iload_n 0, 1) := by decide +kernel
theorem dX9_has_1 : decode cX9_has 1 = .ok (.iconst 1, 1) := by decide +kernel
theorem dX9_has_2 : decode cX9_has 2 = .ok (.iload_n 1, 1) := by decide +kernel
theorem dX9_has_3 : decode cX9_has 3 = .ok (.ishl, 1) := by decide +kernel
theorem dX9_has_4 : decode cX9_has 4 = .ok (.iand, 1) := by decide +kernel
theorem dX9_has_5 : decode cX9_has 5 = .ok (.ifCond .eq 7, 3) := by decide +kernel
theorem dX9_has_8 : decode cX9_has 8 = .ok (.iconst 1, 1) := by decide +kernel
theorem dX9_has_9 : decode cX9_has 9 = .ok (.goto 4, 3) := by decide +kernel
theorem dX9_has_12 : decode cX9_has 12 = .ok (.iconst 0, 1) := by decide +kernel
theorem dX9_has_13 : decode cX9_has 13 = .ok (.ireturn, 1) := by decide +kernel
set_option maxHeartbeats 4000000 in
set_option maxRecDepth 100000 in
theorem cX9_has_k {l : Launch} {D : va_G} {a : Nat → Nat} {k : Nat → ClassId} {p0 : Int32} {p1 : Int32} {x0 xz : bq_S} {rz : Int32} (h : fX9_has  p0 p1 x0 = some (rz, xz)) : bq_M l D bq_cl (bq_ty k) (bq_wC a k) yX9_has cX9_has 2 (some .boolean) { frames := 0, cells := 0, slots := 0, locals := 0 } [.int p0, .int p1] x0 (some rz) xz := by
  refine bq_ofW RX9 [(0, .int p0), (1, .int p1)] (by decide +kernel) rfl (Nat.le_of_ble_eq_true rfl) rfl (bq_adC a k) ?_
  intro p e s m below meth c A Q ls S hK hD hA hR hS hP hl
  have hx := S.1; have hb := S.2.1; have hml := S.2.2.1; have hown := S.2.2.2.1; have hts := S.2.2.2.2
  have hret : ∀ z, some z = some (rz, xz) → (rz, xz) = z := fun z h => (Option.some.inj h).symm
  unfold fX9_has at h
  refine lv_iload_n hx hb dX9_has_0 rfl (lv_at hl 0 rfl) ?_
  refine lv_iconst (v := (1 : Int32)) hx hb dX9_has_1 (by decide) ?_
  refine lv_iload_n hx hb dX9_has_2 rfl (lv_at hl 1 rfl) ?_
  refine lv_ishl hx hb dX9_has_3 ?_
  refine lv_iand hx hb dX9_has_4 ?_
  refine lv_if_eq (tgt := 12) hx hb dX9_has_5 (by decide) (fun c1 => ?_) (fun c1 => ?_)
  · replace h := (if_pos c1).symm.trans h
    refine lv_iconst (v := (0 : Int32)) hx hb dX9_has_12 (by decide) ?_
    obtain ⟨e1, e2⟩ := Prod.mk.inj (hret _ h)
    exact hR _ _ _ _ _ (congrArg some e1) rfl (by rw [e2]; exact hP) hS dX9_has_13
  · replace h := (if_neg c1).symm.trans h
    refine lv_iconst (v := (1 : Int32)) hx hb dX9_has_8 (by decide) ?_
    refine lv_goto (tgt := 13) hx hb dX9_has_9 (by decide) ?_
    obtain ⟨e1, e2⟩ := Prod.mk.inj (hret _ h)
    exact hR _ _ _ _ _ (congrArg some e1) rfl (by rw [e2]; exact hP) hS dX9_has_13
def fX4_isBook (q0 : Nat) (p1 : Int64) (x0 : bq_S) : Option (Int32 × bq_S) :=
  if (lg_cmp p1 (0 : Int64)) < 0 then
  some ((0 : Int32), x0)
  else
  if 0 ≤ (lg_cmp p1 (x0.1 q0 0).toInt64) then
  some ((0 : Int32), x0)
  else
  some ((1 : Int32), x0)
theorem dX4_isBook_0 : decode cX4_isBook 0 = .ok (.lload_n 1, 1) := by decide +kernel
theorem dX4_isBook_1 : decode cX4_isBook 1 = .ok (.lconst 0, 1) := by decide +kernel
theorem dX4_isBook_2 : decode cX4_isBook 2 = .ok (.lcmp, 1) := by decide +kernel
theorem dX4_isBook_3 : decode cX4_isBook 3 = .ok (.ifCond .lt 17, 3) := by decide +kernel
theorem dX4_isBook_6 : decode cX4_isBook 6 = .ok (.lload_n 1, 1) := by decide +kernel
theorem dX4_isBook_7 : decode cX4_isBook 7 = .ok (.aload_n 0, 1) := by decide +kernel
theorem dX4_isBook_8 : decode cX4_isBook 8 = .ok (.getfield 9, 3) := by decide +kernel
theorem dX4_isBook_11 : decode cX4_isBook 11 = .ok (.i2l, 1) := by decide +kernel
theorem dX4_isBook_12 : decode cX4_isBook 12 = .ok (.lcmp, 1) := by decide +kernel
theorem dX4_isBook_13 : decode cX4_isBook 13 = .ok (.ifCond .ge 7, 3) := by decide +kernel
theorem dX4_isBook_16 : decode cX4_isBook 16 = .ok (.iconst 1, 1) := by decide +kernel
theorem dX4_isBook_17 : decode cX4_isBook 17 = .ok (.goto 4, 3) := by decide +kernel
theorem dX4_isBook_20 : decode cX4_isBook 20 = .ok (.iconst 0, 1) := by decide +kernel
theorem dX4_isBook_21 : decode cX4_isBook 21 = .ok (.ireturn, 1) := by decide +kernel
set_option maxHeartbeats 4000000 in
set_option maxRecDepth 100000 in
theorem cX4_isBook_k_1 {l : Launch} {D : va_G} {a : Nat → Nat} {k : Nat → ClassId} {p1 : Int64} {x0 xz : bq_S} {rz : Int32} (h : fX4_isBook  1 p1 x0 = some (rz, xz)) : bq_M l D bq_cl (bq_ty k) (bq_wC a k) yX4_isBook cX4_isBook 3 (some .boolean) { frames := 0, cells := 0, slots := 0, locals := 0 } [.ref (a 1), .long p1] x0 (some rz) xz := by
  refine bq_ofW RX4 [(0, .ref (a 1)), (1, .long p1)] (by decide +kernel) rfl (Nat.le_of_ble_eq_true rfl) rfl (bq_adC a k) ?_
  intro p e s m below meth c A Q ls S hK hD hA hR hS hP hl
  have hx := S.1; have hb := S.2.1; have hml := S.2.2.1; have hown := S.2.2.2.1; have hts := S.2.2.2.2
  have hret : ∀ z, some z = some (rz, xz) → (rz, xz) = z := fun z h => (Option.some.inj h).symm
  unfold fX4_isBook at h
  refine lv_lload_n hx hb dX4_isBook_0 rfl (lv_at hl 1 rfl) ?_
  refine lv_lconst (v := (0 : Int64)) hx hb dX4_isBook_1 (by decide) ?_
  refine W.lcmp hx hb dX4_isBook_2 ?_
  refine lv_if_lt (tgt := 20) hx hb dX4_isBook_3 (by decide) (fun c1 => ?_) (fun c1 => ?_)
  · replace h := (if_pos c1).symm.trans h
    refine lv_iconst (v := (0 : Int32)) hx hb dX4_isBook_20 (by decide) ?_
    obtain ⟨e1, e2⟩ := Prod.mk.inj (hret _ h)
    exact hR _ _ _ _ _ (congrArg some e1) rfl (by rw [e2]; exact hP) hS dX4_isBook_21
  · replace h := (if_neg c1).symm.trans h
    refine lv_lload_n hx hb dX4_isBook_6 rfl (lv_at hl 1 rfl) ?_
    refine lv_aload_n hx hb dX4_isBook_7 rfl (lv_at hl 0 rfl) ?_
    refine bq_get (q0 := 1) S hK hP fl_X4_9_X4_0 rfl rfl rfl dX4_isBook_8 ?_
    refine lv_i2l hx hb dX4_isBook_11 rfl ?_
    refine W.lcmp hx hb dX4_isBook_12 ?_
    refine lv_if_ge (tgt := 20) hx hb dX4_isBook_13 (by decide) (fun c2 => ?_) (fun c2 => ?_)
    · replace h := (if_pos c2).symm.trans h
      refine lv_iconst (v := (0 : Int32)) hx hb dX4_isBook_20 (by decide) ?_
      obtain ⟨e1, e2⟩ := Prod.mk.inj (hret _ h)
      exact hR _ _ _ _ _ (congrArg some e1) rfl (by rw [e2]; exact hP) hS dX4_isBook_21
    · replace h := (if_neg c2).symm.trans h
      refine lv_iconst (v := (1 : Int32)) hx hb dX4_isBook_16 (by decide) ?_
      refine lv_goto (tgt := 21) hx hb dX4_isBook_17 (by decide) ?_
      obtain ⟨e1, e2⟩ := Prod.mk.inj (hret _ h)
      exact hR _ _ _ _ _ (congrArg some e1) rfl (by rw [e2]; exact hP) hS dX4_isBook_21
def fX4_areTwo (q0 : Nat) (p1 : Int32) (p2 : Int32) (x0 : bq_S) : Option (Int32 × bq_S) :=
  (fX4_isBook q0 p1.toInt64 x0).bind (fun q1 => un2 q1 (fun v3 x2 =>
  if v3 = 0 then
  some ((0 : Int32), x2)
  else
  (fX4_isBook q0 p2.toInt64 x2).bind (fun q5 => un2 q5 (fun v7 x6 =>
  if v7 = 0 then
  some ((0 : Int32), x6)
  else
  if p1 = p2 then
  some ((0 : Int32), x6)
  else
  some ((1 : Int32), x6)))))
theorem dX4_areTwo_0 : decode cX4_areTwo 0 = .ok (.aload_n 0, 1) := by decide +kernel
theorem dX4_areTwo_1 : decode cX4_areTwo 1 = .ok (.iload_n 1, 1) := by decide +kernel
theorem dX4_areTwo_2 : decode cX4_areTwo 2 = .ok (.i2l, 1) := by decide +kernel
theorem dX4_areTwo_3 : decode cX4_areTwo 3 = .ok (.invokevirtual 80, 3) := by decide +kernel
theorem dX4_areTwo_6 : decode cX4_areTwo 6 = .ok (.ifCond .eq 21, 3) := by decide +kernel
theorem dX4_areTwo_9 : decode cX4_areTwo 9 = .ok (.aload_n 0, 1) := by decide +kernel
theorem dX4_areTwo_10 : decode cX4_areTwo 10 = .ok (.iload_n 2, 1) := by decide +kernel
theorem dX4_areTwo_11 : decode cX4_areTwo 11 = .ok (.i2l, 1) := by decide +kernel
theorem dX4_areTwo_12 : decode cX4_areTwo 12 = .ok (.invokevirtual 80, 3) := by decide +kernel
theorem dX4_areTwo_15 : decode cX4_areTwo 15 = .ok (.ifCond .eq 12, 3) := by decide +kernel
theorem dX4_areTwo_18 : decode cX4_areTwo 18 = .ok (.iload_n 1, 1) := by decide +kernel
theorem dX4_areTwo_19 : decode cX4_areTwo 19 = .ok (.iload_n 2, 1) := by decide +kernel
theorem dX4_areTwo_20 : decode cX4_areTwo 20 = .ok (.if_icmp .eq 7, 3) := by decide +kernel
theorem dX4_areTwo_23 : decode cX4_areTwo 23 = .ok (.iconst 1, 1) := by decide +kernel
theorem dX4_areTwo_24 : decode cX4_areTwo 24 = .ok (.goto 4, 3) := by decide +kernel
theorem dX4_areTwo_27 : decode cX4_areTwo 27 = .ok (.iconst 0, 1) := by decide +kernel
theorem dX4_areTwo_28 : decode cX4_areTwo 28 = .ok (.ireturn, 1) := by decide +kernel
set_option maxHeartbeats 4000000 in
set_option maxRecDepth 100000 in
theorem cX4_areTwo_k_1 {l : Launch} {D : va_G} {a : Nat → Nat} {k : Nat → ClassId} {p1 : Int32} {p2 : Int32} {x0 xz : bq_S} {rz : Int32} (h : fX4_areTwo  1 p1 p2 x0 = some (rz, xz)) : bq_M l D bq_cl (bq_ty k) (bq_wC a k) yX4_areTwo cX4_areTwo 3 (some .boolean) { frames := 1, cells := 0, slots := 0, locals := 22 } [.ref (a 1), .int p1, .int p2] x0 (some rz) xz := by
  refine bq_ofW RX4 [(0, .ref (a 1)), (1, .int p1), (2, .int p2)] (by decide +kernel) rfl (Nat.le_of_ble_eq_true rfl) rfl (bq_adC a k) ?_
  intro p e s m below meth c A Q ls S hK hD hA hR hS hP hl
  have hx := S.1; have hb := S.2.1; have hml := S.2.2.1; have hown := S.2.2.2.1; have hts := S.2.2.2.2
  have hret : ∀ z, some z = some (rz, xz) → (rz, xz) = z := fun z h => (Option.some.inj h).symm
  unfold fX4_areTwo at h
  refine lv_aload_n hx hb dX4_areTwo_0 rfl (lv_at hl 0 rfl) ?_
  refine lv_iload_n hx hb dX4_areTwo_1 rfl (lv_at hl 1 rfl) ?_
  refine lv_i2l hx hb dX4_areTwo_2 rfl ?_
  obtain ⟨q1, hq1, h⟩ := Option.bind_eq_some_iff.mp h
  obtain ⟨v3, x2⟩ := q1
  replace h := un2_e h
  refine bq_callVi (q0 := 1) (As := [.long _]) S hK hD hA hP hS (cX4_isBook_k_1 hq1) hd_yX4_isBook ml_X4_80 in_yX4_isBook sl_X4_X4_yX4_isBook ⟨rfl, rfl⟩ ⟨by decide, by decide⟩ rfl rfl rfl hl.1 rfl (Nat.le_of_ble_eq_true rfl) ⟨Nat.zero_le _, Nat.zero_le _⟩ dX4_areTwo_3 (fun H locs hP hS => ?_)
  refine lv_if_eq (tgt := 27) hx hb dX4_areTwo_6 (by decide) (fun c4 => ?_) (fun c4 => ?_)
  · replace h := (if_pos c4).symm.trans h
    refine lv_iconst (v := (0 : Int32)) hx hb dX4_areTwo_27 (by decide) ?_
    obtain ⟨e1, e2⟩ := Prod.mk.inj (hret _ h)
    exact hR _ _ _ _ _ (congrArg some e1) rfl (by rw [e2]; exact hP) hS dX4_areTwo_28
  · replace h := (if_neg c4).symm.trans h
    refine lv_aload_n hx hb dX4_areTwo_9 rfl (lv_at hl 0 rfl) ?_
    refine lv_iload_n hx hb dX4_areTwo_10 rfl (lv_at hl 2 rfl) ?_
    refine lv_i2l hx hb dX4_areTwo_11 rfl ?_
    obtain ⟨q5, hq5, h⟩ := Option.bind_eq_some_iff.mp h
    obtain ⟨v7, x6⟩ := q5
    replace h := un2_e h
    refine bq_callVi (q0 := 1) (As := [.long _]) S hK hD hA hP hS (cX4_isBook_k_1 hq5) hd_yX4_isBook ml_X4_80 in_yX4_isBook sl_X4_X4_yX4_isBook ⟨rfl, rfl⟩ ⟨by decide, by decide⟩ rfl rfl rfl hl.1 rfl (Nat.le_of_ble_eq_true rfl) ⟨Nat.zero_le _, Nat.zero_le _⟩ dX4_areTwo_12 (fun H locs hP hS => ?_)
    refine lv_if_eq (tgt := 27) hx hb dX4_areTwo_15 (by decide) (fun c8 => ?_) (fun c8 => ?_)
    · replace h := (if_pos c8).symm.trans h
      refine lv_iconst (v := (0 : Int32)) hx hb dX4_areTwo_27 (by decide) ?_
      obtain ⟨e1, e2⟩ := Prod.mk.inj (hret _ h)
      exact hR _ _ _ _ _ (congrArg some e1) rfl (by rw [e2]; exact hP) hS dX4_areTwo_28
    · replace h := (if_neg c8).symm.trans h
      refine lv_iload_n hx hb dX4_areTwo_18 rfl (lv_at hl 1 rfl) ?_
      refine lv_iload_n hx hb dX4_areTwo_19 rfl (lv_at hl 2 rfl) ?_
      refine lv_icmp_eq (tgt := 27) hx hb dX4_areTwo_20 (by decide) (fun c9 => ?_) (fun c9 => ?_)
      · replace h := (if_pos c9).symm.trans h
        refine lv_iconst (v := (0 : Int32)) hx hb dX4_areTwo_27 (by decide) ?_
        obtain ⟨e1, e2⟩ := Prod.mk.inj (hret _ h)
        exact hR _ _ _ _ _ (congrArg some e1) rfl (by rw [e2]; exact hP) hS dX4_areTwo_28
      · replace h := (if_neg c9).symm.trans h
        refine lv_iconst (v := (1 : Int32)) hx hb dX4_areTwo_23 (by decide) ?_
        refine lv_goto (tgt := 28) hx hb dX4_areTwo_24 (by decide) ?_
        obtain ⟨e1, e2⟩ := Prod.mk.inj (hret _ h)
        exact hR _ _ _ _ _ (congrArg some e1) rfl (by rw [e2]; exact hP) hS dX4_areTwo_28
def fX4_mayTouch (q0 : Nat) (p1 : Int32) (p2 : Int32) (x0 : bq_S) : Option (Int32 × bq_S) :=
  if ok_i p1 8 then
  (fX9_has (x0.1 (q0 + 3) p1.toNatClampNeg) p2 x0).bind (fun q2 => un2 q2 (fun v4 x3 =>
  if v4 = 0 then
  (fX9_has (x3.1 q0 1) p1 x3).bind (fun q6 => un2 q6 (fun v8 x7 =>
  if v8 = 0 then
  (fX9_has (x7.1 q0 1) p2 x7).bind (fun q10 => un2 q10 (fun v12 x11 =>
  if v12 = 0 then
  if ok_i p1 8 then
  (fX9_has (x11.1 (q0 + 2) p1.toNatClampNeg) p2 x11).bind (fun q15 => un2 q15 (fun v17 x16 =>
  if v17 = 0 then
  if ok_i p2 8 then
  (fX9_has (x16.1 (q0 + 2) p2.toNatClampNeg) p1 x16).bind (fun q20 => un2 q20 (fun v22 x21 =>
  if v22 = 0 then
  if (x21.1 (q0 + 4) (1 : Int32).toNatClampNeg) = (1 : Int32) then
  if ok_i p1 8 then
  if ok_i p2 8 then
  if ((x21.1 (q0 + 2) p1.toNatClampNeg) &&& (x21.1 (q0 + 2) p2.toNatClampNeg)) = 0 then
  some ((0 : Int32), x21)
  else
  some ((1 : Int32), x21)
  else none
  else none
  else
  some ((0 : Int32), x21)
  else
  some ((1 : Int32), x21)))
  else none
  else
  some ((1 : Int32), x16)))
  else none
  else
  some ((1 : Int32), x11)))
  else
  some ((1 : Int32), x7)))
  else
  some ((0 : Int32), x3)))
  else none
theorem dX4_mayTouch_0 : decode cX4_mayTouch 0 = .ok (.aload_n 0, 1) := by decide +kernel
theorem dX4_mayTouch_1 : decode cX4_mayTouch 1 = .ok (.getfield 28, 3) := by decide +kernel
theorem dX4_mayTouch_4 : decode cX4_mayTouch 4 = .ok (.iload_n 1, 1) := by decide +kernel
theorem dX4_mayTouch_5 : decode cX4_mayTouch 5 = .ok (.iaload, 1) := by decide +kernel
theorem dX4_mayTouch_6 : decode cX4_mayTouch 6 = .ok (.iload_n 2, 1) := by decide +kernel
theorem dX4_mayTouch_7 : decode cX4_mayTouch 7 = .ok (.invokestatic 62, 3) := by decide +kernel
theorem dX4_mayTouch_10 : decode cX4_mayTouch 10 = .ok (.ifCond .eq 5, 3) := by decide +kernel
theorem dX4_mayTouch_13 : decode cX4_mayTouch 13 = .ok (.iconst 0, 1) := by decide +kernel
theorem dX4_mayTouch_14 : decode cX4_mayTouch 14 = .ok (.ireturn, 1) := by decide +kernel
theorem dX4_mayTouch_15 : decode cX4_mayTouch 15 = .ok (.aload_n 0, 1) := by decide +kernel
theorem dX4_mayTouch_16 : decode cX4_mayTouch 16 = .ok (.getfield 15, 3) := by decide +kernel
theorem dX4_mayTouch_19 : decode cX4_mayTouch 19 = .ok (.iload_n 1, 1) := by decide +kernel
theorem dX4_mayTouch_20 : decode cX4_mayTouch 20 = .ok (.invokestatic 62, 3) := by decide +kernel
theorem dX4_mayTouch_23 : decode cX4_mayTouch 23 = .ok (.ifCond .ne 14, 3) := by decide +kernel
theorem dX4_mayTouch_26 : decode cX4_mayTouch 26 = .ok (.aload_n 0, 1) := by decide +kernel
theorem dX4_mayTouch_27 : decode cX4_mayTouch 27 = .ok (.getfield 15, 3) := by decide +kernel
theorem dX4_mayTouch_30 : decode cX4_mayTouch 30 = .ok (.iload_n 2, 1) := by decide +kernel
theorem dX4_mayTouch_31 : decode cX4_mayTouch 31 = .ok (.invokestatic 62, 3) := by decide +kernel
theorem dX4_mayTouch_34 : decode cX4_mayTouch 34 = .ok (.ifCond .eq 5, 3) := by decide +kernel
theorem dX4_mayTouch_37 : decode cX4_mayTouch 37 = .ok (.iconst 1, 1) := by decide +kernel
theorem dX4_mayTouch_38 : decode cX4_mayTouch 38 = .ok (.ireturn, 1) := by decide +kernel
theorem dX4_mayTouch_39 : decode cX4_mayTouch 39 = .ok (.aload_n 0, 1) := by decide +kernel
theorem dX4_mayTouch_40 : decode cX4_mayTouch 40 = .ok (.getfield 25, 3) := by decide +kernel
theorem dX4_mayTouch_43 : decode cX4_mayTouch 43 = .ok (.iload_n 1, 1) := by decide +kernel
theorem dX4_mayTouch_44 : decode cX4_mayTouch 44 = .ok (.iaload, 1) := by decide +kernel
theorem dX4_mayTouch_45 : decode cX4_mayTouch 45 = .ok (.iload_n 2, 1) := by decide +kernel
theorem dX4_mayTouch_46 : decode cX4_mayTouch 46 = .ok (.invokestatic 62, 3) := by decide +kernel
theorem dX4_mayTouch_49 : decode cX4_mayTouch 49 = .ok (.ifCond .ne 16, 3) := by decide +kernel
theorem dX4_mayTouch_52 : decode cX4_mayTouch 52 = .ok (.aload_n 0, 1) := by decide +kernel
theorem dX4_mayTouch_53 : decode cX4_mayTouch 53 = .ok (.getfield 25, 3) := by decide +kernel
theorem dX4_mayTouch_56 : decode cX4_mayTouch 56 = .ok (.iload_n 2, 1) := by decide +kernel
theorem dX4_mayTouch_57 : decode cX4_mayTouch 57 = .ok (.iaload, 1) := by decide +kernel
theorem dX4_mayTouch_58 : decode cX4_mayTouch 58 = .ok (.iload_n 1, 1) := by decide +kernel
theorem dX4_mayTouch_59 : decode cX4_mayTouch 59 = .ok (.invokestatic 62, 3) := by decide +kernel
theorem dX4_mayTouch_62 : decode cX4_mayTouch 62 = .ok (.ifCond .eq 5, 3) := by decide +kernel
theorem dX4_mayTouch_65 : decode cX4_mayTouch 65 = .ok (.iconst 1, 1) := by decide +kernel
theorem dX4_mayTouch_66 : decode cX4_mayTouch 66 = .ok (.ireturn, 1) := by decide +kernel
theorem dX4_mayTouch_67 : decode cX4_mayTouch 67 = .ok (.aload_n 0, 1) := by decide +kernel
theorem dX4_mayTouch_68 : decode cX4_mayTouch 68 = .ok (.getfield 31, 3) := by decide +kernel
theorem dX4_mayTouch_71 : decode cX4_mayTouch 71 = .ok (.iconst 1, 1) := by decide +kernel
theorem dX4_mayTouch_72 : decode cX4_mayTouch 72 = .ok (.iaload, 1) := by decide +kernel
theorem dX4_mayTouch_73 : decode cX4_mayTouch 73 = .ok (.iconst 1, 1) := by decide +kernel
theorem dX4_mayTouch_74 : decode cX4_mayTouch 74 = .ok (.if_icmp .ne 23, 3) := by decide +kernel
theorem dX4_mayTouch_77 : decode cX4_mayTouch 77 = .ok (.aload_n 0, 1) := by decide +kernel
theorem dX4_mayTouch_78 : decode cX4_mayTouch 78 = .ok (.getfield 25, 3) := by decide +kernel
theorem dX4_mayTouch_81 : decode cX4_mayTouch 81 = .ok (.iload_n 1, 1) := by decide +kernel
theorem dX4_mayTouch_82 : decode cX4_mayTouch 82 = .ok (.iaload, 1) := by decide +kernel
theorem dX4_mayTouch_83 : decode cX4_mayTouch 83 = .ok (.aload_n 0, 1) := by decide +kernel
theorem dX4_mayTouch_84 : decode cX4_mayTouch 84 = .ok (.getfield 25, 3) := by decide +kernel
theorem dX4_mayTouch_87 : decode cX4_mayTouch 87 = .ok (.iload_n 2, 1) := by decide +kernel
theorem dX4_mayTouch_88 : decode cX4_mayTouch 88 = .ok (.iaload, 1) := by decide +kernel
theorem dX4_mayTouch_89 : decode cX4_mayTouch 89 = .ok (.iand, 1) := by decide +kernel
theorem dX4_mayTouch_90 : decode cX4_mayTouch 90 = .ok (.ifCond .eq 7, 3) := by decide +kernel
theorem dX4_mayTouch_93 : decode cX4_mayTouch 93 = .ok (.iconst 1, 1) := by decide +kernel
theorem dX4_mayTouch_94 : decode cX4_mayTouch 94 = .ok (.goto 4, 3) := by decide +kernel
theorem dX4_mayTouch_97 : decode cX4_mayTouch 97 = .ok (.iconst 0, 1) := by decide +kernel
theorem dX4_mayTouch_98 : decode cX4_mayTouch 98 = .ok (.ireturn, 1) := by decide +kernel
set_option maxHeartbeats 4000000 in
set_option maxRecDepth 100000 in
theorem cX4_mayTouch_k_1 {l : Launch} {D : va_G} {a : Nat → Nat} {k : Nat → ClassId} {p1 : Int32} {p2 : Int32} {x0 xz : bq_S} {rz : Int32} (h : fX4_mayTouch  1 p1 p2 x0 = some (rz, xz)) : bq_M l D bq_cl (bq_ty k) (bq_wC a k) yX4_mayTouch cX4_mayTouch 3 (some .boolean) { frames := 1, cells := 0, slots := 0, locals := 21 } [.ref (a 1), .int p1, .int p2] x0 (some rz) xz := by
  refine bq_ofW RX4 [(0, .ref (a 1)), (1, .int p1), (2, .int p2)] (by decide +kernel) rfl (Nat.le_of_ble_eq_true rfl) rfl (bq_adC a k) ?_
  intro p e s m below meth c A Q ls S hK hD hA hR hS hP hl
  have hx := S.1; have hb := S.2.1; have hml := S.2.2.1; have hown := S.2.2.2.1; have hts := S.2.2.2.2
  have hret : ∀ z, some z = some (rz, xz) → (rz, xz) = z := fun z h => (Option.some.inj h).symm
  unfold fX4_mayTouch at h
  refine lv_aload_n hx hb dX4_mayTouch_0 rfl (lv_at hl 0 rfl) ?_
  refine bq_get (q0 := 1) S hK hP fl_X4_28_X4_5 rfl rfl rfl dX4_mayTouch_1 ?_
  refine lv_iload_n hx hb dX4_mayTouch_4 rfl (lv_at hl 1 rfl) ?_
  obtain ⟨g1, h⟩ := bq_gd h
  refine va_iald (D := D) hx hb hK hP 4 0 rfl rfl g1 dX4_mayTouch_5 ?_
  refine lv_iload_n hx hb dX4_mayTouch_6 rfl (lv_at hl 2 rfl) ?_
  obtain ⟨q2, hq2, h⟩ := Option.bind_eq_some_iff.mp h
  obtain ⟨v4, x3⟩ := q2
  replace h := un2_e h
  refine bq_callSNi (As := [.int _, .int _]) S hK hD hA hP hS (cX9_has_k hq2) hd_yX9_has mn_X4_62 st_yX9_has ⟨rfl, rfl⟩ ⟨by decide, by decide⟩ rfl hl.1 rfl (Nat.le_of_ble_eq_true rfl) ⟨Nat.zero_le _, Nat.zero_le _⟩ dX4_mayTouch_7 (fun H locs hP hS => ?_)
  refine lv_if_eq (tgt := 15) hx hb dX4_mayTouch_10 (by decide) (fun c5 => ?_) (fun c5 => ?_)
  · replace h := (if_pos c5).symm.trans h
    refine lv_aload_n hx hb dX4_mayTouch_15 rfl (lv_at hl 0 rfl) ?_
    refine bq_get (q0 := 1) S hK hP fl_X4_15_X4_1 rfl rfl rfl dX4_mayTouch_16 ?_
    refine lv_iload_n hx hb dX4_mayTouch_19 rfl (lv_at hl 1 rfl) ?_
    obtain ⟨q6, hq6, h⟩ := Option.bind_eq_some_iff.mp h
    obtain ⟨v8, x7⟩ := q6
    replace h := un2_e h
    refine bq_callSNi (As := [.int _, .int _]) S hK hD hA hP hS (cX9_has_k hq6) hd_yX9_has mn_X4_62 st_yX9_has ⟨rfl, rfl⟩ ⟨by decide, by decide⟩ rfl hl.1 rfl (Nat.le_of_ble_eq_true rfl) ⟨Nat.zero_le _, Nat.zero_le _⟩ dX4_mayTouch_20 (fun H locs hP hS => ?_)
    refine lv_if_ne (tgt := 37) hx hb dX4_mayTouch_23 (by decide) (fun c9 => ?_) (fun c9 => ?_)
    · replace h := (if_neg c9).symm.trans h
      refine lv_iconst (v := (1 : Int32)) hx hb dX4_mayTouch_37 (by decide) ?_
      obtain ⟨e1, e2⟩ := Prod.mk.inj (hret _ h)
      exact hR _ _ _ _ _ (congrArg some e1) rfl (by rw [e2]; exact hP) hS dX4_mayTouch_38
    · replace h := (if_pos c9).symm.trans h
      refine lv_aload_n hx hb dX4_mayTouch_26 rfl (lv_at hl 0 rfl) ?_
      refine bq_get (q0 := 1) S hK hP fl_X4_15_X4_1 rfl rfl rfl dX4_mayTouch_27 ?_
      refine lv_iload_n hx hb dX4_mayTouch_30 rfl (lv_at hl 2 rfl) ?_
      obtain ⟨q10, hq10, h⟩ := Option.bind_eq_some_iff.mp h
      obtain ⟨v12, x11⟩ := q10
      replace h := un2_e h
      refine bq_callSNi (As := [.int _, .int _]) S hK hD hA hP hS (cX9_has_k hq10) hd_yX9_has mn_X4_62 st_yX9_has ⟨rfl, rfl⟩ ⟨by decide, by decide⟩ rfl hl.1 rfl (Nat.le_of_ble_eq_true rfl) ⟨Nat.zero_le _, Nat.zero_le _⟩ dX4_mayTouch_31 (fun H locs hP hS => ?_)
      refine lv_if_eq (tgt := 39) hx hb dX4_mayTouch_34 (by decide) (fun c13 => ?_) (fun c13 => ?_)
      · replace h := (if_pos c13).symm.trans h
        refine lv_aload_n hx hb dX4_mayTouch_39 rfl (lv_at hl 0 rfl) ?_
        refine bq_get (q0 := 1) S hK hP fl_X4_25_X4_4 rfl rfl rfl dX4_mayTouch_40 ?_
        refine lv_iload_n hx hb dX4_mayTouch_43 rfl (lv_at hl 1 rfl) ?_
        obtain ⟨g14, h⟩ := bq_gd h
        refine va_iald (D := D) hx hb hK hP 3 0 rfl rfl g14 dX4_mayTouch_44 ?_
        refine lv_iload_n hx hb dX4_mayTouch_45 rfl (lv_at hl 2 rfl) ?_
        obtain ⟨q15, hq15, h⟩ := Option.bind_eq_some_iff.mp h
        obtain ⟨v17, x16⟩ := q15
        replace h := un2_e h
        refine bq_callSNi (As := [.int _, .int _]) S hK hD hA hP hS (cX9_has_k hq15) hd_yX9_has mn_X4_62 st_yX9_has ⟨rfl, rfl⟩ ⟨by decide, by decide⟩ rfl hl.1 rfl (Nat.le_of_ble_eq_true rfl) ⟨Nat.zero_le _, Nat.zero_le _⟩ dX4_mayTouch_46 (fun H locs hP hS => ?_)
        refine lv_if_ne (tgt := 65) hx hb dX4_mayTouch_49 (by decide) (fun c18 => ?_) (fun c18 => ?_)
        · replace h := (if_neg c18).symm.trans h
          refine lv_iconst (v := (1 : Int32)) hx hb dX4_mayTouch_65 (by decide) ?_
          obtain ⟨e1, e2⟩ := Prod.mk.inj (hret _ h)
          exact hR _ _ _ _ _ (congrArg some e1) rfl (by rw [e2]; exact hP) hS dX4_mayTouch_66
        · replace h := (if_pos c18).symm.trans h
          refine lv_aload_n hx hb dX4_mayTouch_52 rfl (lv_at hl 0 rfl) ?_
          refine bq_get (q0 := 1) S hK hP fl_X4_25_X4_4 rfl rfl rfl dX4_mayTouch_53 ?_
          refine lv_iload_n hx hb dX4_mayTouch_56 rfl (lv_at hl 2 rfl) ?_
          obtain ⟨g19, h⟩ := bq_gd h
          refine va_iald (D := D) hx hb hK hP 3 0 rfl rfl g19 dX4_mayTouch_57 ?_
          refine lv_iload_n hx hb dX4_mayTouch_58 rfl (lv_at hl 1 rfl) ?_
          obtain ⟨q20, hq20, h⟩ := Option.bind_eq_some_iff.mp h
          obtain ⟨v22, x21⟩ := q20
          replace h := un2_e h
          refine bq_callSNi (As := [.int _, .int _]) S hK hD hA hP hS (cX9_has_k hq20) hd_yX9_has mn_X4_62 st_yX9_has ⟨rfl, rfl⟩ ⟨by decide, by decide⟩ rfl hl.1 rfl (Nat.le_of_ble_eq_true rfl) ⟨Nat.zero_le _, Nat.zero_le _⟩ dX4_mayTouch_59 (fun H locs hP hS => ?_)
          refine lv_if_eq (tgt := 67) hx hb dX4_mayTouch_62 (by decide) (fun c23 => ?_) (fun c23 => ?_)
          · replace h := (if_pos c23).symm.trans h
            refine lv_aload_n hx hb dX4_mayTouch_67 rfl (lv_at hl 0 rfl) ?_
            refine bq_get (q0 := 1) S hK hP fl_X4_31_X4_6 rfl rfl rfl dX4_mayTouch_68 ?_
            refine lv_iconst (v := (1 : Int32)) hx hb dX4_mayTouch_71 (by decide) ?_
            refine va_iald (D := D) hx hb hK hP 5 0 rfl rfl (bq_inl rfl) dX4_mayTouch_72 ?_
            refine lv_iconst (v := (1 : Int32)) hx hb dX4_mayTouch_73 (by decide) ?_
            refine lv_icmp_ne (tgt := 97) hx hb dX4_mayTouch_74 (by decide) (fun c24 => ?_) (fun c24 => ?_)
            · replace h := (if_neg c24).symm.trans h
              refine lv_iconst (v := (0 : Int32)) hx hb dX4_mayTouch_97 (by decide) ?_
              obtain ⟨e1, e2⟩ := Prod.mk.inj (hret _ h)
              exact hR _ _ _ _ _ (congrArg some e1) rfl (by rw [e2]; exact hP) hS dX4_mayTouch_98
            · replace h := (if_pos c24).symm.trans h
              refine lv_aload_n hx hb dX4_mayTouch_77 rfl (lv_at hl 0 rfl) ?_
              refine bq_get (q0 := 1) S hK hP fl_X4_25_X4_4 rfl rfl rfl dX4_mayTouch_78 ?_
              refine lv_iload_n hx hb dX4_mayTouch_81 rfl (lv_at hl 1 rfl) ?_
              obtain ⟨g25, h⟩ := bq_gd h
              refine va_iald (D := D) hx hb hK hP 3 0 rfl rfl g25 dX4_mayTouch_82 ?_
              refine lv_aload_n hx hb dX4_mayTouch_83 rfl (lv_at hl 0 rfl) ?_
              refine bq_get (q0 := 1) S hK hP fl_X4_25_X4_4 rfl rfl rfl dX4_mayTouch_84 ?_
              refine lv_iload_n hx hb dX4_mayTouch_87 rfl (lv_at hl 2 rfl) ?_
              obtain ⟨g26, h⟩ := bq_gd h
              refine va_iald (D := D) hx hb hK hP 3 0 rfl rfl g26 dX4_mayTouch_88 ?_
              refine lv_iand hx hb dX4_mayTouch_89 ?_
              refine lv_if_eq (tgt := 97) hx hb dX4_mayTouch_90 (by decide) (fun c27 => ?_) (fun c27 => ?_)
              · replace h := (if_pos c27).symm.trans h
                refine lv_iconst (v := (0 : Int32)) hx hb dX4_mayTouch_97 (by decide) ?_
                obtain ⟨e1, e2⟩ := Prod.mk.inj (hret _ h)
                exact hR _ _ _ _ _ (congrArg some e1) rfl (by rw [e2]; exact hP) hS dX4_mayTouch_98
              · replace h := (if_neg c27).symm.trans h
                refine lv_iconst (v := (1 : Int32)) hx hb dX4_mayTouch_93 (by decide) ?_
                refine lv_goto (tgt := 98) hx hb dX4_mayTouch_94 (by decide) ?_
                obtain ⟨e1, e2⟩ := Prod.mk.inj (hret _ h)
                exact hR _ _ _ _ _ (congrArg some e1) rfl (by rw [e2]; exact hP) hS dX4_mayTouch_98
          · replace h := (if_neg c23).symm.trans h
            refine lv_iconst (v := (1 : Int32)) hx hb dX4_mayTouch_65 (by decide) ?_
            obtain ⟨e1, e2⟩ := Prod.mk.inj (hret _ h)
            exact hR _ _ _ _ _ (congrArg some e1) rfl (by rw [e2]; exact hP) hS dX4_mayTouch_66
      · replace h := (if_neg c13).symm.trans h
        refine lv_iconst (v := (1 : Int32)) hx hb dX4_mayTouch_37 (by decide) ?_
        obtain ⟨e1, e2⟩ := Prod.mk.inj (hret _ h)
        exact hR _ _ _ _ _ (congrArg some e1) rfl (by rw [e2]; exact hP) hS dX4_mayTouch_38
  · replace h := (if_neg c5).symm.trans h
    refine lv_iconst (v := (0 : Int32)) hx hb dX4_mayTouch_13 (by decide) ?_
    obtain ⟨e1, e2⟩ := Prod.mk.inj (hret _ h)
    exact hR _ _ _ _ _ (congrArg some e1) rfl (by rw [e2]; exact hP) hS dX4_mayTouch_14
def fX4_learnNear_b12 (n : Nat) (r5 : Nat) (v6 : Int32) (v : Int32 × Int32 × bq_S) : Option ((Int32 × Int32 × bq_S) ⊕ (Int32 × Int32 × bq_S)) :=
  un3 v (fun v7 v8 x9 =>
  if (8 : Int32) ≤ v8 then
  some (.inr (v7, v8, x9))
  else
  (fX4_areTwo r5 v6 v8 x9).bind (fun q11 => un2 q11 (fun v13 x12 =>
  if v13 = 0 then
  bd (v8 + (1 : Int32)) (fun v15 =>
  some (.inl (v7, v15, x12)))
  else
  (fX4_mayTouch r5 v6 v8 x12).bind (fun q16 => un2 q16 (fun v18 x17 =>
  if v18 = 0 then
  bd (v8 + (1 : Int32)) (fun v20 =>
  some (.inl (v7, v20, x17)))
  else
  (fX9_bit v8 x17).bind (fun q21 => un2 q21 (fun v23 x22 =>
  bd (v7 ||| v23) (fun v24 =>
  bd (v8 + (1 : Int32)) (fun v25 =>
  some (.inl (v24, v25, x22)))))))))))
def fX4_learnNear_b2 (n : Nat) (r1 : Nat) (v : Int32 × bq_S) : Option ((Int32 × bq_S) ⊕ (Int32 × bq_S)) :=
  un2 v (fun v2 x3 =>
  if (8 : Int32) ≤ v2 then
  some (.inr (v2, x3))
  else
  (wh n (fX4_learnNear_b12 n r1 v2) ((0 : Int32), (0 : Int32), x3)).bind (fun e26 => un3 e26 (fun v27 v28 x29 =>
  if ok_i v2 8 then
  bd (bq_sI x29 (r1 + 6) v2.toNatClampNeg v27) (fun x30 =>
  bd (v2 + (1 : Int32)) (fun v32 =>
  some (.inl (v32, x30))))
  else none)))
def fX4_learnNear (n : Nat) (q0 : Nat) (x0 : bq_S) : Option (bq_S) :=
  (wh n (fX4_learnNear_b2 n q0) ((0 : Int32), x0)).bind (fun e33 => un2 e33 (fun v34 x35 =>
  some x35))
theorem dX4_learnNear_0 : decode cX4_learnNear 0 = .ok (.iconst 0, 1) := by decide +kernel
theorem dX4_learnNear_1 : decode cX4_learnNear 1 = .ok (.istore_n 1, 1) := by decide +kernel
theorem dX4_learnNear_2 : decode cX4_learnNear 2 = .ok (.iload_n 1, 1) := by decide +kernel
theorem dX4_learnNear_3 : decode cX4_learnNear 3 = .ok (.bipush 8, 2) := by decide +kernel
theorem dX4_learnNear_5 : decode cX4_learnNear 5 = .ok (.if_icmp .ge 57, 3) := by decide +kernel
theorem dX4_learnNear_8 : decode cX4_learnNear 8 = .ok (.iconst 0, 1) := by decide +kernel
theorem dX4_learnNear_9 : decode cX4_learnNear 9 = .ok (.istore_n 2, 1) := by decide +kernel
theorem dX4_learnNear_10 : decode cX4_learnNear 10 = .ok (.iconst 0, 1) := by decide +kernel
theorem dX4_learnNear_11 : decode cX4_learnNear 11 = .ok (.istore_n 3, 1) := by decide +kernel
theorem dX4_learnNear_12 : decode cX4_learnNear 12 = .ok (.iload_n 3, 1) := by decide +kernel
theorem dX4_learnNear_13 : decode cX4_learnNear 13 = .ok (.bipush 8, 2) := by decide +kernel
theorem dX4_learnNear_15 : decode cX4_learnNear 15 = .ok (.if_icmp .ge 34, 3) := by decide +kernel
theorem dX4_learnNear_18 : decode cX4_learnNear 18 = .ok (.aload_n 0, 1) := by decide +kernel
theorem dX4_learnNear_19 : decode cX4_learnNear 19 = .ok (.iload_n 1, 1) := by decide +kernel
theorem dX4_learnNear_20 : decode cX4_learnNear 20 = .ok (.iload_n 3, 1) := by decide +kernel
theorem dX4_learnNear_21 : decode cX4_learnNear 21 = .ok (.invokevirtual 74, 3) := by decide +kernel
theorem dX4_learnNear_24 : decode cX4_learnNear 24 = .ok (.ifCond .eq 19, 3) := by decide +kernel
theorem dX4_learnNear_27 : decode cX4_learnNear 27 = .ok (.aload_n 0, 1) := by decide +kernel
theorem dX4_learnNear_28 : decode cX4_learnNear 28 = .ok (.iload_n 1, 1) := by decide +kernel
theorem dX4_learnNear_29 : decode cX4_learnNear 29 = .ok (.iload_n 3, 1) := by decide +kernel
theorem dX4_learnNear_30 : decode cX4_learnNear 30 = .ok (.invokevirtual 77, 3) := by decide +kernel
theorem dX4_learnNear_33 : decode cX4_learnNear 33 = .ok (.ifCond .eq 10, 3) := by decide +kernel
theorem dX4_learnNear_36 : decode cX4_learnNear 36 = .ok (.iload_n 2, 1) := by decide +kernel
theorem dX4_learnNear_37 : decode cX4_learnNear 37 = .ok (.iload_n 3, 1) := by decide +kernel
theorem dX4_learnNear_38 : decode cX4_learnNear 38 = .ok (.invokestatic 70, 3) := by decide +kernel
theorem dX4_learnNear_41 : decode cX4_learnNear 41 = .ok (.ior, 1) := by decide +kernel
theorem dX4_learnNear_42 : decode cX4_learnNear 42 = .ok (.istore_n 2, 1) := by decide +kernel
theorem dX4_learnNear_43 : decode cX4_learnNear 43 = .ok (.iinc 3 1, 3) := by decide +kernel
theorem dX4_learnNear_46 : decode cX4_learnNear 46 = .ok (.goto (-34), 3) := by decide +kernel
theorem dX4_learnNear_49 : decode cX4_learnNear 49 = .ok (.aload_n 0, 1) := by decide +kernel
theorem dX4_learnNear_50 : decode cX4_learnNear 50 = .ok (.getfield 37, 3) := by decide +kernel
theorem dX4_learnNear_53 : decode cX4_learnNear 53 = .ok (.iload_n 1, 1) := by decide +kernel
theorem dX4_learnNear_54 : decode cX4_learnNear 54 = .ok (.iload_n 2, 1) := by decide +kernel
theorem dX4_learnNear_55 : decode cX4_learnNear 55 = .ok (.iastore, 1) := by decide +kernel
theorem dX4_learnNear_56 : decode cX4_learnNear 56 = .ok (.iinc 1 1, 3) := by decide +kernel
theorem dX4_learnNear_59 : decode cX4_learnNear 59 = .ok (.goto (-57), 3) := by decide +kernel
theorem dX4_learnNear_62 : decode cX4_learnNear 62 = .ok (.return_, 1) := by decide +kernel
set_option maxHeartbeats 4000000 in
set_option maxRecDepth 100000 in
theorem cX4_learnNear_k_1 {l : Launch} {D : va_G} {a : Nat → Nat} {k : Nat → ClassId} {n : Nat} {x0 xz : bq_S} (h : fX4_learnNear n 1 x0 = some xz) : bq_M l D bq_cl (bq_ty k) (bq_wC a k) yX4_learnNear cX4_learnNear 4 none { frames := 2, cells := 0, slots := 0, locals := 44 } [.ref (a 1)] x0 none xz := by
  refine bq_ofWv RX4 [(0, .ref (a 1))] (by decide +kernel) rfl (Nat.le_of_ble_eq_true rfl) rfl (bq_adC a k) ?_
  intro p e s m below meth c A Q ls S hK hD hA hR hS hP hl
  have hx := S.1; have hb := S.2.1; have hml := S.2.2.1; have hown := S.2.2.2.1; have hts := S.2.2.2.2
  have hret : ∀ z, some z = some xz → xz = z := fun z h => (Option.some.inj h).symm
  unfold fX4_learnNear at h
  refine lv_iconst (v := (0 : Int32)) hx hb dX4_learnNear_0 (by decide) ?_
  refine lv_istore_n (lv' := [(1, .int (0 : Int32)), (0, .ref (a 1))]) hx hb dX4_learnNear_1 rfl hl (by decide) rfl (fun ls hl => ?_)
  have hl2 : ∀ (kf : Nat) (v2 : Int32) (x3 : bq_S) (eo : Int32 × bq_S) (H : Heap) (locs : List Loc) (ls : Array Slot), wh kf (fX4_learnNear_b2 n 1) (v2, x3) = some eo → va_P D bq_cl (bq_wC a k x3) H → va_S A s.heap H locs → lv_has ls 4 [(0, .ref (a 1)), (1, .int v2)] → (∀ (H : Heap) (locs : List Loc) (ls : Array Slot) (v34 : Int32) (x35 : bq_S), eo = (v34, x35) → va_P D bq_cl (bq_wC a k x35) H → va_S A s.heap H locs → lv_has ls 4 [] → W p l e { frames := 2, cells := 0, slots := 0, locals := 44 } s m [.ref (a 1)].toArray below meth c H locs 0 0 Q (F0 m 62 ls [])) → W p l e { frames := 2, cells := 0, slots := 0, locals := 44 } s m [.ref (a 1)].toArray below meth c H locs 0 0 Q (F0 m 2 ls []) := by
    intro  kf
    induction kf with
    | zero => intro v2 x3 eo H locs ls h; cases h
    | succ kf ih =>
      intro v2 x3 eo H locs ls h hP hS hl kx
      obtain ⟨out, h, hw⟩ := wh_s h
      unfold fX4_learnNear_b2 at h
      replace h := un2_e h
      refine lv_iload_n hx hb dX4_learnNear_2 rfl (lv_at hl 1 rfl) ?_
      refine lv_bipush (v := (8 : Int32)) hx hb dX4_learnNear_3 (by decide) ?_
      refine lv_icmp_ge (tgt := 62) hx hb dX4_learnNear_5 (by decide) (fun c4 => ?_) (fun c4 => ?_)
      · replace h := (if_pos c4).symm.trans h
        cases h
        exact kx _ _ _ _ _ (Option.some.inj hw).symm hP hS (lv_sub hl [] rfl)
      · replace h := (if_neg c4).symm.trans h
        refine lv_iconst (v := (0 : Int32)) hx hb dX4_learnNear_8 (by decide) ?_
        refine lv_istore_n (lv' := [(2, .int (0 : Int32)), (0, .ref (a 1)), (1, .int v2)]) hx hb dX4_learnNear_9 rfl hl (by decide) rfl (fun ls hl => ?_)
        refine lv_iconst (v := (0 : Int32)) hx hb dX4_learnNear_10 (by decide) ?_
        refine lv_istore_n (lv' := [(3, .int (0 : Int32)), (2, .int (0 : Int32)), (0, .ref (a 1)), (1, .int v2)]) hx hb dX4_learnNear_11 rfl hl (by decide) rfl (fun ls hl => ?_)
        have hl12 : ∀ (v6 : Int32) (kf : Nat) (v7 : Int32) (v8 : Int32) (x9 : bq_S) (eo : Int32 × Int32 × bq_S) (H : Heap) (locs : List Loc) (ls : Array Slot), wh kf (fX4_learnNear_b12 n 1 v6) (v7, v8, x9) = some eo → va_P D bq_cl (bq_wC a k x9) H → va_S A s.heap H locs → lv_has ls 4 [(0, .ref (a 1)), (1, .int v6), (2, .int v7), (3, .int v8)] → (∀ (H : Heap) (locs : List Loc) (ls : Array Slot) (v27 : Int32) (v28 : Int32) (x29 : bq_S), eo = (v27, v28, x29) → va_P D bq_cl (bq_wC a k x29) H → va_S A s.heap H locs → lv_has ls 4 [(0, .ref (a 1)), (1, .int v6), (2, .int v27)] → W p l e { frames := 2, cells := 0, slots := 0, locals := 44 } s m [.ref (a 1)].toArray below meth c H locs 0 0 Q (F0 m 49 ls [])) → W p l e { frames := 2, cells := 0, slots := 0, locals := 44 } s m [.ref (a 1)].toArray below meth c H locs 0 0 Q (F0 m 12 ls []) := by
          intro v6 kf
          induction kf with
          | zero => intro v7 v8 x9 eo H locs ls h; cases h
          | succ kf ih =>
            intro v7 v8 x9 eo H locs ls h hP hS hl kx
            obtain ⟨out, h, hw⟩ := wh_s h
            unfold fX4_learnNear_b12 at h
            replace h := un3_e h
            refine lv_iload_n hx hb dX4_learnNear_12 rfl (lv_at hl 3 rfl) ?_
            refine lv_bipush (v := (8 : Int32)) hx hb dX4_learnNear_13 (by decide) ?_
            refine lv_icmp_ge (tgt := 49) hx hb dX4_learnNear_15 (by decide) (fun c10 => ?_) (fun c10 => ?_)
            · replace h := (if_pos c10).symm.trans h
              cases h
              exact kx _ _ _ _ _ _ (Option.some.inj hw).symm hP hS (lv_sub hl [0, 1, 2] rfl)
            · replace h := (if_neg c10).symm.trans h
              refine lv_aload_n hx hb dX4_learnNear_18 rfl (lv_at hl 0 rfl) ?_
              refine lv_iload_n hx hb dX4_learnNear_19 rfl (lv_at hl 1 rfl) ?_
              refine lv_iload_n hx hb dX4_learnNear_20 rfl (lv_at hl 3 rfl) ?_
              obtain ⟨q11, hq11, h⟩ := Option.bind_eq_some_iff.mp h
              obtain ⟨v13, x12⟩ := q11
              replace h := un2_e h
              refine bq_callVi (q0 := 1) (As := [.int _, .int _]) S hK hD hA hP hS (cX4_areTwo_k_1 hq11) hd_yX4_areTwo ml_X4_74 in_yX4_areTwo sl_X4_X4_yX4_areTwo ⟨rfl, rfl⟩ ⟨by decide, by decide⟩ rfl rfl rfl hl.1 rfl (Nat.le_of_ble_eq_true rfl) ⟨Nat.zero_le _, Nat.zero_le _⟩ dX4_learnNear_21 (fun H locs hP hS => ?_)
              refine lv_if_eq (tgt := 43) hx hb dX4_learnNear_24 (by decide) (fun c14 => ?_) (fun c14 => ?_)
              · replace h := (if_pos c14).symm.trans h
                obtain ⟨v15, hv15, h⟩ := bq_b h
                refine lv_iinc (v := v15) (lv' := [(3, .int v15), (0, .ref (a 1)), (1, .int v6), (2, .int v7)]) hx hb dX4_learnNear_43 hl (k := 3) rfl (by rw [hv15]; rfl) (by decide) rfl (fun ls hl => ?_)
                refine lv_goto (tgt := 12) hx hb dX4_learnNear_46 (by decide) ?_
                cases h
                exact ih _ _ _ _ _ _ _ hw hP hS (lv_sub hl [1, 2, 3, 0] rfl) kx
              · replace h := (if_neg c14).symm.trans h
                refine lv_aload_n hx hb dX4_learnNear_27 rfl (lv_at hl 0 rfl) ?_
                refine lv_iload_n hx hb dX4_learnNear_28 rfl (lv_at hl 1 rfl) ?_
                refine lv_iload_n hx hb dX4_learnNear_29 rfl (lv_at hl 3 rfl) ?_
                obtain ⟨q16, hq16, h⟩ := Option.bind_eq_some_iff.mp h
                obtain ⟨v18, x17⟩ := q16
                replace h := un2_e h
                refine bq_callVi (q0 := 1) (As := [.int _, .int _]) S hK hD hA hP hS (cX4_mayTouch_k_1 hq16) hd_yX4_mayTouch ml_X4_77 in_yX4_mayTouch sl_X4_X4_yX4_mayTouch ⟨rfl, rfl⟩ ⟨by decide, by decide⟩ rfl rfl rfl hl.1 rfl (Nat.le_of_ble_eq_true rfl) ⟨Nat.zero_le _, Nat.zero_le _⟩ dX4_learnNear_30 (fun H locs hP hS => ?_)
                refine lv_if_eq (tgt := 43) hx hb dX4_learnNear_33 (by decide) (fun c19 => ?_) (fun c19 => ?_)
                · replace h := (if_pos c19).symm.trans h
                  obtain ⟨v20, hv20, h⟩ := bq_b h
                  refine lv_iinc (v := v20) (lv' := [(3, .int v20), (0, .ref (a 1)), (1, .int v6), (2, .int v7)]) hx hb dX4_learnNear_43 hl (k := 3) rfl (by rw [hv20]; rfl) (by decide) rfl (fun ls hl => ?_)
                  refine lv_goto (tgt := 12) hx hb dX4_learnNear_46 (by decide) ?_
                  cases h
                  exact ih _ _ _ _ _ _ _ hw hP hS (lv_sub hl [1, 2, 3, 0] rfl) kx
                · replace h := (if_neg c19).symm.trans h
                  refine lv_iload_n hx hb dX4_learnNear_36 rfl (lv_at hl 2 rfl) ?_
                  refine lv_iload_n hx hb dX4_learnNear_37 rfl (lv_at hl 3 rfl) ?_
                  obtain ⟨q21, hq21, h⟩ := Option.bind_eq_some_iff.mp h
                  obtain ⟨v23, x22⟩ := q21
                  replace h := un2_e h
                  refine bq_callSNi (As := [.int _]) S hK hD hA hP hS (cX9_bit_k hq21) hd_yX9_bit mn_X4_70 st_yX9_bit ⟨rfl, rfl⟩ ⟨by decide, by decide⟩ rfl hl.1 rfl (Nat.le_of_ble_eq_true rfl) ⟨Nat.zero_le _, Nat.zero_le _⟩ dX4_learnNear_38 (fun H locs hP hS => ?_)
                  refine lv_ior hx hb dX4_learnNear_41 ?_
                  refine lv_topi (fun v24 hv24 => ?_)
                  replace h := bq_bv h hv24
                  refine lv_istore_n (lv' := [(2, .int v24), (0, .ref (a 1)), (1, .int v6), (3, .int v8)]) hx hb dX4_learnNear_42 rfl hl (by decide) rfl (fun ls hl => ?_)
                  obtain ⟨v25, hv25, h⟩ := bq_b h
                  refine lv_iinc (v := v25) (lv' := [(3, .int v25), (2, .int v24), (0, .ref (a 1)), (1, .int v6)]) hx hb dX4_learnNear_43 hl (k := 3) rfl (by rw [hv25]; rfl) (by decide) rfl (fun ls hl => ?_)
                  refine lv_goto (tgt := 12) hx hb dX4_learnNear_46 (by decide) ?_
                  cases h
                  exact ih _ _ _ _ _ _ _ hw hP hS (lv_sub hl [2, 3, 1, 0] rfl) kx
        obtain ⟨e26, he26, h⟩ := Option.bind_eq_some_iff.mp h
        refine hl12 _ n _ _ _ e26 _ _ _ he26 hP hS (lv_sub hl [2, 3, 1, 0] rfl) (fun H locs ls v27 v28 x29 hz hP hS hl => ?_)
        subst hz
        replace h := un3_e h
        refine lv_aload_n hx hb dX4_learnNear_49 rfl (lv_at hl 0 rfl) ?_
        refine bq_get (q0 := 1) S hK hP fl_X4_37_X4_8 rfl rfl rfl dX4_learnNear_50 ?_
        refine lv_iload_n hx hb dX4_learnNear_53 rfl (lv_at hl 1 rfl) ?_
        refine lv_iload_n hx hb dX4_learnNear_54 rfl (lv_at hl 2 rfl) ?_
        obtain ⟨g31, h⟩ := bq_gd h
        obtain ⟨x30, hx30, h⟩ := bq_b h
        refine bq_iast (x1 := x30) (q0 := 7) (t0 := 0) S hK hD hP hS rfl rfl g31 (by rw [hx30]; rfl) dX4_learnNear_55 (fun H locs hP hS => ?_)
        obtain ⟨v32, hv32, h⟩ := bq_b h
        refine lv_iinc (v := v32) (lv' := [(1, .int v32), (0, .ref (a 1)), (2, .int v27)]) hx hb dX4_learnNear_56 hl (k := 1) rfl (by rw [hv32]; rfl) (by decide) rfl (fun ls hl => ?_)
        refine lv_goto (tgt := 2) hx hb dX4_learnNear_59 (by decide) ?_
        cases h
        exact ih _ _ _ _ _ _ hw hP hS (lv_sub hl [1, 0] rfl) kx
  obtain ⟨e33, he33, h⟩ := Option.bind_eq_some_iff.mp h
  refine hl2 n _ _ e33 _ _ _ he33 hP hS (lv_sub hl [1, 0] rfl) (fun H locs ls v34 x35 hz hP hS hl => ?_)
  subst hz
  replace h := un2_e h
  have e2 := hret _ h
  exact hR _ _ _ _ rfl (by rw [e2]; exact hP) hS dX4_learnNear_62
def fX4_add (n : Nat) (q0 : Nat) (p1 : Int32) (x0 : bq_S) : Option (Int32 × bq_S) :=
  if ok_i (x0.1 q0 0) 8 then
  bd (bq_sI x0 (q0 + 1) (x0.1 q0 0).toNatClampNeg p1) (fun x1 =>
  bd (bq_sI x1 q0 0 ((x1.1 q0 0) + (1 : Int32))) (fun x3 =>
  (fX4_learnNear n q0 x3).bind (fun x5 =>
  some (((x5.1 q0 0) - (1 : Int32)), x5))))
  else none
theorem dX4_add_0 : decode cX4_add 0 = .ok (.aload_n 0, 1) := by decide +kernel
theorem dX4_add_1 : decode cX4_add 1 = .ok (.getfield 21, 3) := by decide +kernel
theorem dX4_add_4 : decode cX4_add 4 = .ok (.aload_n 0, 1) := by decide +kernel
theorem dX4_add_5 : decode cX4_add 5 = .ok (.getfield 9, 3) := by decide +kernel
theorem dX4_add_8 : decode cX4_add 8 = .ok (.iload_n 1, 1) := by decide +kernel
theorem dX4_add_9 : decode cX4_add 9 = .ok (.iastore, 1) := by decide +kernel
theorem dX4_add_10 : decode cX4_add 10 = .ok (.aload_n 0, 1) := by decide +kernel
theorem dX4_add_11 : decode cX4_add 11 = .ok (.dup, 1) := by decide +kernel
theorem dX4_add_12 : decode cX4_add 12 = .ok (.getfield 9, 3) := by decide +kernel
theorem dX4_add_15 : decode cX4_add 15 = .ok (.iconst 1, 1) := by decide +kernel
theorem dX4_add_16 : decode cX4_add 16 = .ok (.iadd, 1) := by decide +kernel
theorem dX4_add_17 : decode cX4_add 17 = .ok (.putfield 9, 3) := by decide +kernel
theorem dX4_add_20 : decode cX4_add 20 = .ok (.aload_n 0, 1) := by decide +kernel
theorem dX4_add_21 : decode cX4_add 21 = .ok (.invokevirtual 54, 3) := by decide +kernel
theorem dX4_add_24 : decode cX4_add 24 = .ok (.aload_n 0, 1) := by decide +kernel
theorem dX4_add_25 : decode cX4_add 25 = .ok (.getfield 9, 3) := by decide +kernel
theorem dX4_add_28 : decode cX4_add 28 = .ok (.iconst 1, 1) := by decide +kernel
theorem dX4_add_29 : decode cX4_add 29 = .ok (.isub, 1) := by decide +kernel
theorem dX4_add_30 : decode cX4_add 30 = .ok (.ireturn, 1) := by decide +kernel
set_option maxHeartbeats 4000000 in
set_option maxRecDepth 100000 in
theorem cX4_add_k_1 {l : Launch} {D : va_G} {a : Nat → Nat} {k : Nat → ClassId} {n : Nat} {p1 : Int32} {x0 xz : bq_S} {rz : Int32} (h : fX4_add n 1 p1 x0 = some (rz, xz)) : bq_M l D bq_cl (bq_ty k) (bq_wC a k) yX4_add cX4_add 2 (some .int) { frames := 3, cells := 0, slots := 0, locals := 67 } [.ref (a 1), .int p1] x0 (some rz) xz := by
  refine bq_ofW RX4 [(0, .ref (a 1)), (1, .int p1)] (by decide +kernel) rfl (Nat.le_of_ble_eq_true rfl) rfl (bq_adC a k) ?_
  intro p e s m below meth c A Q ls S hK hD hA hR hS hP hl
  have hx := S.1; have hb := S.2.1; have hml := S.2.2.1; have hown := S.2.2.2.1; have hts := S.2.2.2.2
  have hret : ∀ z, some z = some (rz, xz) → (rz, xz) = z := fun z h => (Option.some.inj h).symm
  unfold fX4_add at h
  refine lv_aload_n hx hb dX4_add_0 rfl (lv_at hl 0 rfl) ?_
  refine bq_get (q0 := 1) S hK hP fl_X4_21_X4_3 rfl rfl rfl dX4_add_1 ?_
  refine lv_aload_n hx hb dX4_add_4 rfl (lv_at hl 0 rfl) ?_
  refine bq_get (q0 := 1) S hK hP fl_X4_9_X4_0 rfl rfl rfl dX4_add_5 ?_
  refine lv_iload_n hx hb dX4_add_8 rfl (lv_at hl 1 rfl) ?_
  obtain ⟨g2, h⟩ := bq_gd h
  obtain ⟨x1, hx1, h⟩ := bq_b h
  refine bq_iast (x1 := x1) (q0 := 2) (t0 := 0) S hK hD hP hS rfl rfl g2 (by rw [hx1]; rfl) dX4_add_9 (fun H locs hP hS => ?_)
  refine lv_aload_n hx hb dX4_add_10 rfl (lv_at hl 0 rfl) ?_
  refine lv_dup hx hb dX4_add_11 rfl ?_
  refine bq_get (q0 := 1) S hK hP fl_X4_9_X4_0 rfl rfl rfl dX4_add_12 ?_
  refine lv_iconst (v := (1 : Int32)) hx hb dX4_add_15 (by decide) ?_
  refine lv_iadd hx hb dX4_add_16 ?_
  obtain ⟨x3, hx3, h⟩ := bq_b h
  refine bq_put (x1 := x3) (q0 := 1) (ty := .int) S hK hD hP hS fl_X4_9_X4_0 bt_X4 rfl (by decide +kernel) rfl rfl (Nat.le_of_ble_eq_true rfl) rfl rfl (by rw [hx3]; rfl) dX4_add_17 (fun H locs hP hS => ?_)
  refine lv_aload_n hx hb dX4_add_20 rfl (lv_at hl 0 rfl) ?_
  obtain ⟨x5, hq4, h⟩ := Option.bind_eq_some_iff.mp h
  refine bq_callVv (q0 := 1) (As := []) S hK hD hA hP hS (cX4_learnNear_k_1 hq4) hd_yX4_learnNear ml_X4_54 in_yX4_learnNear sl_X4_X4_yX4_learnNear ⟨rfl, rfl⟩ ⟨by decide, by decide⟩ rfl rfl rfl hl.1 rfl (Nat.le_of_ble_eq_true rfl) ⟨Nat.zero_le _, Nat.zero_le _⟩ dX4_add_21 (fun H locs hP hS => ?_)
  refine lv_aload_n hx hb dX4_add_24 rfl (lv_at hl 0 rfl) ?_
  refine bq_get (q0 := 1) S hK hP fl_X4_9_X4_0 rfl rfl rfl dX4_add_25 ?_
  refine lv_iconst (v := (1 : Int32)) hx hb dX4_add_28 (by decide) ?_
  refine lv_isub hx hb dX4_add_29 ?_
  obtain ⟨e1, e2⟩ := Prod.mk.inj (hret _ h)
  exact hR _ _ _ _ _ (congrArg some e1) rfl (by rw [e2]; exact hP) hS dX4_add_30
def fX9_isThickness (p0 : Int32) (x0 : bq_S) : Option (Int32 × bq_S) :=
  if p0 < (1 : Int32) then
  some ((0 : Int32), x0)
  else
  if (9 : Int32) < p0 then
  some ((0 : Int32), x0)
  else
  some ((1 : Int32), x0)
theorem dX9_isThickness_0 : decode cX9_isThickness 0 = .ok (.iload_n 0, 1) := by decide +kernel
theorem dX9_isThickness_1 : decode cX9_isThickness 1 = .ok (.iconst 1, 1) := by decide +kernel
theorem dX9_isThickness_2 : decode cX9_isThickness 2 = .ok (.if_icmp .lt 13, 3) := by decide +kernel
theorem dX9_isThickness_5 : decode cX9_isThickness 5 = .ok (.iload_n 0, 1) := by decide +kernel
theorem dX9_isThickness_6 : decode cX9_isThickness 6 = .ok (.bipush 9, 2) := by decide +kernel
theorem dX9_isThickness_8 : decode cX9_isThickness 8 = .ok (.if_icmp .gt 7, 3) := by decide +kernel
theorem dX9_isThickness_11 : decode cX9_isThickness 11 = .ok (.iconst 1, 1) := by decide +kernel
theorem dX9_isThickness_12 : decode cX9_isThickness 12 = .ok (.goto 4, 3) := by decide +kernel
theorem dX9_isThickness_15 : decode cX9_isThickness 15 = .ok (.iconst 0, 1) := by decide +kernel
theorem dX9_isThickness_16 : decode cX9_isThickness 16 = .ok (.ireturn, 1) := by decide +kernel
set_option maxHeartbeats 4000000 in
set_option maxRecDepth 100000 in
theorem cX9_isThickness_k {l : Launch} {D : va_G} {a : Nat → Nat} {k : Nat → ClassId} {p0 : Int32} {x0 xz : bq_S} {rz : Int32} (h : fX9_isThickness  p0 x0 = some (rz, xz)) : bq_M l D bq_cl (bq_ty k) (bq_wC a k) yX9_isThickness cX9_isThickness 1 (some .boolean) { frames := 0, cells := 0, slots := 0, locals := 0 } [.int p0] x0 (some rz) xz := by
  refine bq_ofW RX9 [(0, .int p0)] (by decide +kernel) rfl (Nat.le_of_ble_eq_true rfl) rfl (bq_adC a k) ?_
  intro p e s m below meth c A Q ls S hK hD hA hR hS hP hl
  have hx := S.1; have hb := S.2.1; have hml := S.2.2.1; have hown := S.2.2.2.1; have hts := S.2.2.2.2
  have hret : ∀ z, some z = some (rz, xz) → (rz, xz) = z := fun z h => (Option.some.inj h).symm
  unfold fX9_isThickness at h
  refine lv_iload_n hx hb dX9_isThickness_0 rfl (lv_at hl 0 rfl) ?_
  refine lv_iconst (v := (1 : Int32)) hx hb dX9_isThickness_1 (by decide) ?_
  refine lv_icmp_lt (tgt := 15) hx hb dX9_isThickness_2 (by decide) (fun c1 => ?_) (fun c1 => ?_)
  · replace h := (if_pos c1).symm.trans h
    refine lv_iconst (v := (0 : Int32)) hx hb dX9_isThickness_15 (by decide) ?_
    obtain ⟨e1, e2⟩ := Prod.mk.inj (hret _ h)
    exact hR _ _ _ _ _ (congrArg some e1) rfl (by rw [e2]; exact hP) hS dX9_isThickness_16
  · replace h := (if_neg c1).symm.trans h
    refine lv_iload_n hx hb dX9_isThickness_5 rfl (lv_at hl 0 rfl) ?_
    refine lv_bipush (v := (9 : Int32)) hx hb dX9_isThickness_6 (by decide) ?_
    refine lv_icmp_gt (tgt := 15) hx hb dX9_isThickness_8 (by decide) (fun c2 => ?_) (fun c2 => ?_)
    · replace h := (if_pos c2).symm.trans h
      refine lv_iconst (v := (0 : Int32)) hx hb dX9_isThickness_15 (by decide) ?_
      obtain ⟨e1, e2⟩ := Prod.mk.inj (hret _ h)
      exact hR _ _ _ _ _ (congrArg some e1) rfl (by rw [e2]; exact hP) hS dX9_isThickness_16
    · replace h := (if_neg c2).symm.trans h
      refine lv_iconst (v := (1 : Int32)) hx hb dX9_isThickness_11 (by decide) ?_
      refine lv_goto (tgt := 16) hx hb dX9_isThickness_12 (by decide) ?_
      obtain ⟨e1, e2⟩ := Prod.mk.inj (hret _ h)
      exact hR _ _ _ _ _ (congrArg some e1) rfl (by rw [e2]; exact hP) hS dX9_isThickness_16
def fX9_book (n : Nat) (p1 : Int32) (x0 : bq_S) : Option (Int32 × bq_S) :=
  (fX9_isThickness p1 x0).bind (fun q1 => un2 q1 (fun v3 x2 =>
  if v3 = 0 then
  some ((-1 : Int32), x2)
  else
  if (x2.1 1 0) = (8 : Int32) then
  some ((-3 : Int32), x2)
  else
  (fX4_add n 1 p1 x2).bind (fun q6 => un2 q6 (fun v8 x7 =>
  some (v8, x7)))))
theorem dX9_book_0 : decode cX9_book 0 = .ok (.iload_n 1, 1) := by decide +kernel
theorem dX9_book_1 : decode cX9_book 1 = .ok (.invokestatic 83, 3) := by decide +kernel
theorem dX9_book_4 : decode cX9_book 4 = .ok (.ifCond .ne 5, 3) := by decide +kernel
theorem dX9_book_7 : decode cX9_book 7 = .ok (.iconst (-1), 1) := by decide +kernel
theorem dX9_book_8 : decode cX9_book 8 = .ok (.ireturn, 1) := by decide +kernel
theorem dX9_book_9 : decode cX9_book 9 = .ok (.aload_n 0, 1) := by decide +kernel
theorem dX9_book_10 : decode cX9_book 10 = .ok (.getfield 10, 3) := by decide +kernel
theorem dX9_book_13 : decode cX9_book 13 = .ok (.getfield 87, 3) := by decide +kernel
theorem dX9_book_16 : decode cX9_book 16 = .ok (.bipush 8, 2) := by decide +kernel
theorem dX9_book_18 : decode cX9_book 18 = .ok (.if_icmp .ne 6, 3) := by decide +kernel
theorem dX9_book_21 : decode cX9_book 21 = .ok (.bipush (-3), 2) := by decide +kernel
theorem dX9_book_23 : decode cX9_book 23 = .ok (.ireturn, 1) := by decide +kernel
theorem dX9_book_24 : decode cX9_book 24 = .ok (.aload_n 0, 1) := by decide +kernel
theorem dX9_book_25 : decode cX9_book 25 = .ok (.getfield 10, 3) := by decide +kernel
theorem dX9_book_28 : decode cX9_book 28 = .ok (.iload_n 1, 1) := by decide +kernel
theorem dX9_book_29 : decode cX9_book 29 = .ok (.invokevirtual 91, 3) := by decide +kernel
theorem dX9_book_32 : decode cX9_book 32 = .ok (.ireturn, 1) := by decide +kernel
set_option maxHeartbeats 4000000 in
set_option maxRecDepth 100000 in
theorem cX9_book_k_0 {l : Launch} {D : va_G} {a : Nat → Nat} {k : Nat → ClassId} {n : Nat} {p1 : Int32} {x0 xz : bq_S} {rz : Int32} (h : fX9_book n p1 x0 = some (rz, xz)) : bq_M l D bq_cl (bq_ty k) (bq_wC a k) yX9_book cX9_book 2 (some .int) { frames := 4, cells := 0, slots := 0, locals := 88 } [.ref (a 0), .int p1] x0 (some rz) xz := by
  refine bq_ofW RX9 [(0, .ref (a 0)), (1, .int p1)] (by decide +kernel) rfl (Nat.le_of_ble_eq_true rfl) rfl (bq_adC a k) ?_
  intro p e s m below meth c A Q ls S hK hD hA hR hS hP hl
  have hx := S.1; have hb := S.2.1; have hml := S.2.2.1; have hown := S.2.2.2.1; have hts := S.2.2.2.2
  have hret : ∀ z, some z = some (rz, xz) → (rz, xz) = z := fun z h => (Option.some.inj h).symm
  unfold fX9_book at h
  refine lv_iload_n hx hb dX9_book_0 rfl (lv_at hl 1 rfl) ?_
  obtain ⟨q1, hq1, h⟩ := Option.bind_eq_some_iff.mp h
  obtain ⟨v3, x2⟩ := q1
  replace h := un2_e h
  refine bq_callSi (As := [.int _]) S hK hD hA hP hS (cX9_isThickness_k hq1) hd_yX9_isThickness ml_X9_83 st_yX9_isThickness ⟨rfl, rfl⟩ ⟨by decide, by decide⟩ rfl hl.1 rfl (Nat.le_of_ble_eq_true rfl) ⟨Nat.zero_le _, Nat.zero_le _⟩ dX9_book_1 (fun H locs hP hS => ?_)
  refine lv_if_ne (tgt := 9) hx hb dX9_book_4 (by decide) (fun c4 => ?_) (fun c4 => ?_)
  · replace h := (if_neg c4).symm.trans h
    refine lv_aload_n hx hb dX9_book_9 rfl (lv_at hl 0 rfl) ?_
    refine bq_get (q0 := 0) S hK hP fl_X9_10_X9_0 rfl rfl rfl dX9_book_10 ?_
    refine bq_get (q0 := 1) S hK hP fl_X9_87_X4_0 rfl rfl rfl dX9_book_13 ?_
    refine lv_bipush (v := (8 : Int32)) hx hb dX9_book_16 (by decide) ?_
    refine lv_icmp_ne (tgt := 24) hx hb dX9_book_18 (by decide) (fun c5 => ?_) (fun c5 => ?_)
    · replace h := (if_neg c5).symm.trans h
      refine lv_aload_n hx hb dX9_book_24 rfl (lv_at hl 0 rfl) ?_
      refine bq_get (q0 := 0) S hK hP fl_X9_10_X9_0 rfl rfl rfl dX9_book_25 ?_
      refine lv_iload_n hx hb dX9_book_28 rfl (lv_at hl 1 rfl) ?_
      obtain ⟨q6, hq6, h⟩ := Option.bind_eq_some_iff.mp h
      obtain ⟨v8, x7⟩ := q6
      replace h := un2_e h
      refine bq_callVi (q0 := 1) (As := [.int _]) S hK hD hA hP hS (cX4_add_k_1 hq6) hd_yX4_add ml_X9_91 in_yX4_add sl_X4_X4_yX4_add ⟨rfl, rfl⟩ ⟨by decide, by decide⟩ rfl rfl rfl hl.1 rfl (Nat.le_of_ble_eq_true rfl) ⟨Nat.zero_le _, Nat.zero_le _⟩ dX9_book_29 (fun H locs hP hS => ?_)
      obtain ⟨e1, e2⟩ := Prod.mk.inj (hret _ h)
      exact hR _ _ _ _ _ (congrArg some e1) rfl (by rw [e2]; exact hP) hS dX9_book_32
    · replace h := (if_pos c5).symm.trans h
      refine lv_bipush (v := (-3 : Int32)) hx hb dX9_book_21 (by decide) ?_
      obtain ⟨e1, e2⟩ := Prod.mk.inj (hret _ h)
      exact hR _ _ _ _ _ (congrArg some e1) rfl (by rw [e2]; exact hP) hS dX9_book_23
  · replace h := (if_pos c4).symm.trans h
    refine lv_iconst (v := (-1 : Int32)) hx hb dX9_book_7 (by decide) ?_
    obtain ⟨e1, e2⟩ := Prod.mk.inj (hret _ h)
    exact hR _ _ _ _ _ (congrArg some e1) rfl (by rw [e2]; exact hP) hS dX9_book_8
def fX4_touches (q0 : Nat) (p1 : Int32) (p2 : Int32) (x0 : bq_S) : Option (Int32 × bq_S) :=
  if ok_i p1 8 then
  if ((x0.1 (q0 + 6) p1.toNatClampNeg) &&& ((1 : Int32) <<< (p2 &&& 31))) = 0 then
  some ((0 : Int32), x0)
  else
  some ((1 : Int32), x0)
  else none
theorem dX4_touches_0 : decode cX4_touches 0 = .ok (.aload_n 0, 1) := by decide +kernel
theorem dX4_touches_1 : decode cX4_touches 1 = .ok (.getfield 37, 3) := by decide +kernel
theorem dX4_touches_4 : decode cX4_touches 4 = .ok (.iload_n 1, 1) := by decide +kernel
theorem dX4_touches_5 : decode cX4_touches 5 = .ok (.iaload, 1) := by decide +kernel
theorem dX4_touches_6 : decode cX4_touches 6 = .ok (.iconst 1, 1) := by decide +kernel
theorem dX4_touches_7 : decode cX4_touches 7 = .ok (.iload_n 2, 1) := by decide +kernel
theorem dX4_touches_8 : decode cX4_touches 8 = .ok (.ishl, 1) := by decide +kernel
theorem dX4_touches_9 : decode cX4_touches 9 = .ok (.iand, 1) := by decide +kernel
theorem dX4_touches_10 : decode cX4_touches 10 = .ok (.ifCond .eq 7, 3) := by decide +kernel
theorem dX4_touches_13 : decode cX4_touches 13 = .ok (.iconst 1, 1) := by decide +kernel
theorem dX4_touches_14 : decode cX4_touches 14 = .ok (.goto 4, 3) := by decide +kernel
theorem dX4_touches_17 : decode cX4_touches 17 = .ok (.iconst 0, 1) := by decide +kernel
theorem dX4_touches_18 : decode cX4_touches 18 = .ok (.ireturn, 1) := by decide +kernel
set_option maxHeartbeats 4000000 in
set_option maxRecDepth 100000 in
theorem cX4_touches_k_1 {l : Launch} {D : va_G} {a : Nat → Nat} {k : Nat → ClassId} {p1 : Int32} {p2 : Int32} {x0 xz : bq_S} {rz : Int32} (h : fX4_touches  1 p1 p2 x0 = some (rz, xz)) : bq_M l D bq_cl (bq_ty k) (bq_wC a k) yX4_touches cX4_touches 3 (some .boolean) { frames := 0, cells := 0, slots := 0, locals := 0 } [.ref (a 1), .int p1, .int p2] x0 (some rz) xz := by
  refine bq_ofW RX4 [(0, .ref (a 1)), (1, .int p1), (2, .int p2)] (by decide +kernel) rfl (Nat.le_of_ble_eq_true rfl) rfl (bq_adC a k) ?_
  intro p e s m below meth c A Q ls S hK hD hA hR hS hP hl
  have hx := S.1; have hb := S.2.1; have hml := S.2.2.1; have hown := S.2.2.2.1; have hts := S.2.2.2.2
  have hret : ∀ z, some z = some (rz, xz) → (rz, xz) = z := fun z h => (Option.some.inj h).symm
  unfold fX4_touches at h
  refine lv_aload_n hx hb dX4_touches_0 rfl (lv_at hl 0 rfl) ?_
  refine bq_get (q0 := 1) S hK hP fl_X4_37_X4_8 rfl rfl rfl dX4_touches_1 ?_
  refine lv_iload_n hx hb dX4_touches_4 rfl (lv_at hl 1 rfl) ?_
  obtain ⟨g1, h⟩ := bq_gd h
  refine va_iald (D := D) hx hb hK hP 7 0 rfl rfl g1 dX4_touches_5 ?_
  refine lv_iconst (v := (1 : Int32)) hx hb dX4_touches_6 (by decide) ?_
  refine lv_iload_n hx hb dX4_touches_7 rfl (lv_at hl 2 rfl) ?_
  refine lv_ishl hx hb dX4_touches_8 ?_
  refine lv_iand hx hb dX4_touches_9 ?_
  refine lv_if_eq (tgt := 17) hx hb dX4_touches_10 (by decide) (fun c2 => ?_) (fun c2 => ?_)
  · replace h := (if_pos c2).symm.trans h
    refine lv_iconst (v := (0 : Int32)) hx hb dX4_touches_17 (by decide) ?_
    obtain ⟨e1, e2⟩ := Prod.mk.inj (hret _ h)
    exact hR _ _ _ _ _ (congrArg some e1) rfl (by rw [e2]; exact hP) hS dX4_touches_18
  · replace h := (if_neg c2).symm.trans h
    refine lv_iconst (v := (1 : Int32)) hx hb dX4_touches_13 (by decide) ?_
    refine lv_goto (tgt := 18) hx hb dX4_touches_14 (by decide) ?_
    obtain ⟨e1, e2⟩ := Prod.mk.inj (hret _ h)
    exact hR _ _ _ _ _ (congrArg some e1) rfl (by rw [e2]; exact hP) hS dX4_touches_18
def fX4_closes (q0 : Nat) (p1 : Int32) (x0 : bq_S) : Option (Int32 × bq_S) :=
  if (x0.1 (q0 + 4) (0 : Int32).toNatClampNeg) = (1 : Int32) then
  if p1 < (3 : Int32) then
  some ((0 : Int32), x0)
  else
  some ((1 : Int32), x0)
  else
  some ((0 : Int32), x0)
theorem dX4_closes_0 : decode cX4_closes 0 = .ok (.aload_n 0, 1) := by decide +kernel
theorem dX4_closes_1 : decode cX4_closes 1 = .ok (.getfield 31, 3) := by decide +kernel
theorem dX4_closes_4 : decode cX4_closes 4 = .ok (.iconst 0, 1) := by decide +kernel
theorem dX4_closes_5 : decode cX4_closes 5 = .ok (.iaload, 1) := by decide +kernel
theorem dX4_closes_6 : decode cX4_closes 6 = .ok (.iconst 1, 1) := by decide +kernel
theorem dX4_closes_7 : decode cX4_closes 7 = .ok (.if_icmp .ne 12, 3) := by decide +kernel
theorem dX4_closes_10 : decode cX4_closes 10 = .ok (.iload_n 1, 1) := by decide +kernel
theorem dX4_closes_11 : decode cX4_closes 11 = .ok (.iconst 3, 1) := by decide +kernel
theorem dX4_closes_12 : decode cX4_closes 12 = .ok (.if_icmp .lt 7, 3) := by decide +kernel
theorem dX4_closes_15 : decode cX4_closes 15 = .ok (.iconst 1, 1) := by decide +kernel
theorem dX4_closes_16 : decode cX4_closes 16 = .ok (.goto 4, 3) := by decide +kernel
theorem dX4_closes_19 : decode cX4_closes 19 = .ok (.iconst 0, 1) := by decide +kernel
theorem dX4_closes_20 : decode cX4_closes 20 = .ok (.ireturn, 1) := by decide +kernel
set_option maxHeartbeats 4000000 in
set_option maxRecDepth 100000 in
theorem cX4_closes_k_1 {l : Launch} {D : va_G} {a : Nat → Nat} {k : Nat → ClassId} {p1 : Int32} {x0 xz : bq_S} {rz : Int32} (h : fX4_closes  1 p1 x0 = some (rz, xz)) : bq_M l D bq_cl (bq_ty k) (bq_wC a k) yX4_closes cX4_closes 2 (some .boolean) { frames := 0, cells := 0, slots := 0, locals := 0 } [.ref (a 1), .int p1] x0 (some rz) xz := by
  refine bq_ofW RX4 [(0, .ref (a 1)), (1, .int p1)] (by decide +kernel) rfl (Nat.le_of_ble_eq_true rfl) rfl (bq_adC a k) ?_
  intro p e s m below meth c A Q ls S hK hD hA hR hS hP hl
  have hx := S.1; have hb := S.2.1; have hml := S.2.2.1; have hown := S.2.2.2.1; have hts := S.2.2.2.2
  have hret : ∀ z, some z = some (rz, xz) → (rz, xz) = z := fun z h => (Option.some.inj h).symm
  unfold fX4_closes at h
  refine lv_aload_n hx hb dX4_closes_0 rfl (lv_at hl 0 rfl) ?_
  refine bq_get (q0 := 1) S hK hP fl_X4_31_X4_6 rfl rfl rfl dX4_closes_1 ?_
  refine lv_iconst (v := (0 : Int32)) hx hb dX4_closes_4 (by decide) ?_
  refine va_iald (D := D) hx hb hK hP 5 0 rfl rfl (bq_inl rfl) dX4_closes_5 ?_
  refine lv_iconst (v := (1 : Int32)) hx hb dX4_closes_6 (by decide) ?_
  refine lv_icmp_ne (tgt := 19) hx hb dX4_closes_7 (by decide) (fun c1 => ?_) (fun c1 => ?_)
  · replace h := (if_neg c1).symm.trans h
    refine lv_iconst (v := (0 : Int32)) hx hb dX4_closes_19 (by decide) ?_
    obtain ⟨e1, e2⟩ := Prod.mk.inj (hret _ h)
    exact hR _ _ _ _ _ (congrArg some e1) rfl (by rw [e2]; exact hP) hS dX4_closes_20
  · replace h := (if_pos c1).symm.trans h
    refine lv_iload_n hx hb dX4_closes_10 rfl (lv_at hl 1 rfl) ?_
    refine lv_iconst (v := (3 : Int32)) hx hb dX4_closes_11 (by decide) ?_
    refine lv_icmp_lt (tgt := 19) hx hb dX4_closes_12 (by decide) (fun c2 => ?_) (fun c2 => ?_)
    · replace h := (if_pos c2).symm.trans h
      refine lv_iconst (v := (0 : Int32)) hx hb dX4_closes_19 (by decide) ?_
      obtain ⟨e1, e2⟩ := Prod.mk.inj (hret _ h)
      exact hR _ _ _ _ _ (congrArg some e1) rfl (by rw [e2]; exact hP) hS dX4_closes_20
    · replace h := (if_neg c2).symm.trans h
      refine lv_iconst (v := (1 : Int32)) hx hb dX4_closes_15 (by decide) ?_
      refine lv_goto (tgt := 20) hx hb dX4_closes_16 (by decide) ?_
      obtain ⟨e1, e2⟩ := Prod.mk.inj (hret _ h)
      exact hR _ _ _ _ _ (congrArg some e1) rfl (by rw [e2]; exact hP) hS dX4_closes_20
def fX4_firstApart_b2 (n : Nat) (r1 : Nat) (r2 : Nat) (lb3 : Nat) (v4 : Int32) (v : Int32 × bq_S) : Option ((Int32 × bq_S) ⊕ ((Int32 × bq_S) ⊕ (Int32 × bq_S))) :=
  un2 v (fun v5 x6 =>
  if v4 ≤ (v5 + (1 : Int32)) then
  some (.inr (.inl (v5, x6)))
  else
  if ok_i v5 lb3 then
  if ok_i (v5 + (1 : Int32)) lb3 then
  (fX4_touches r1 (x6.1 r2 v5.toNatClampNeg) (x6.1 r2 (v5 + (1 : Int32)).toNatClampNeg) x6).bind (fun q10 => un2 q10 (fun v12 x11 =>
  if v12 = 0 then
  some (.inr (.inr (v5, x11)))
  else
  bd (v5 + (1 : Int32)) (fun v14 =>
  some (.inl (v14, x11)))))
  else none
  else none)
def fX4_firstApart (n : Nat) (q0 : Nat) (q1 : Nat) (la1 : Nat) (p2 : Int32) (x0 : bq_S) : Option (Int32 × bq_S) :=
  (wh n (fX4_firstApart_b2 n q0 q1 la1 p2) ((0 : Int32), x0)).bind (fun e15 =>
  Sum.elim (fun z => un2 z (fun v16 x17 =>
  (fX4_closes q0 p2 x17).bind (fun q18 => un2 q18 (fun v20 x19 =>
  if v20 = 0 then
  some ((-4 : Int32), x19)
  else
  if ok_i (p2 - (1 : Int32)) la1 then
  if ok_i (0 : Int32) la1 then
  (fX4_touches q0 (x19.1 q1 (p2 - (1 : Int32)).toNatClampNeg) (x19.1 q1 (0 : Int32).toNatClampNeg) x19).bind (fun q24 => un2 q24 (fun v26 x25 =>
  if v26 = 0 then
  some ((p2 - (1 : Int32)), x25)
  else
  some ((-4 : Int32), x25)))
  else none
  else none)))) (fun z => some z) e15)
theorem dX4_firstApart_0 : decode cX4_firstApart 0 = .ok (.iconst 0, 1) := by decide +kernel
theorem dX4_firstApart_1 : decode cX4_firstApart 1 = .ok (.istore_n 3, 1) := by decide +kernel
theorem dX4_firstApart_2 : decode cX4_firstApart 2 = .ok (.iload_n 3, 1) := by decide +kernel
theorem dX4_firstApart_3 : decode cX4_firstApart 3 = .ok (.iconst 1, 1) := by decide +kernel
theorem dX4_firstApart_4 : decode cX4_firstApart 4 = .ok (.iadd, 1) := by decide +kernel
theorem dX4_firstApart_5 : decode cX4_firstApart 5 = .ok (.iload_n 2, 1) := by decide +kernel
theorem dX4_firstApart_6 : decode cX4_firstApart 6 = .ok (.if_icmp .ge 26, 3) := by decide +kernel
theorem dX4_firstApart_9 : decode cX4_firstApart 9 = .ok (.aload_n 0, 1) := by decide +kernel
theorem dX4_firstApart_10 : decode cX4_firstApart 10 = .ok (.aload_n 1, 1) := by decide +kernel
theorem dX4_firstApart_11 : decode cX4_firstApart 11 = .ok (.iload_n 3, 1) := by decide +kernel
theorem dX4_firstApart_12 : decode cX4_firstApart 12 = .ok (.iaload, 1) := by decide +kernel
theorem dX4_firstApart_13 : decode cX4_firstApart 13 = .ok (.aload_n 1, 1) := by decide +kernel
theorem dX4_firstApart_14 : decode cX4_firstApart 14 = .ok (.iload_n 3, 1) := by decide +kernel
theorem dX4_firstApart_15 : decode cX4_firstApart 15 = .ok (.iconst 1, 1) := by decide +kernel
theorem dX4_firstApart_16 : decode cX4_firstApart 16 = .ok (.iadd, 1) := by decide +kernel
theorem dX4_firstApart_17 : decode cX4_firstApart 17 = .ok (.iaload, 1) := by decide +kernel
theorem dX4_firstApart_18 : decode cX4_firstApart 18 = .ok (.invokevirtual 84, 3) := by decide +kernel
theorem dX4_firstApart_21 : decode cX4_firstApart 21 = .ok (.ifCond .ne 5, 3) := by decide +kernel
theorem dX4_firstApart_24 : decode cX4_firstApart 24 = .ok (.iload_n 3, 1) := by decide +kernel
theorem dX4_firstApart_25 : decode cX4_firstApart 25 = .ok (.ireturn, 1) := by decide +kernel
theorem dX4_firstApart_26 : decode cX4_firstApart 26 = .ok (.iinc 3 1, 3) := by decide +kernel
theorem dX4_firstApart_29 : decode cX4_firstApart 29 = .ok (.goto (-27), 3) := by decide +kernel
theorem dX4_firstApart_32 : decode cX4_firstApart 32 = .ok (.aload_n 0, 1) := by decide +kernel
theorem dX4_firstApart_33 : decode cX4_firstApart 33 = .ok (.iload_n 2, 1) := by decide +kernel
theorem dX4_firstApart_34 : decode cX4_firstApart 34 = .ok (.invokevirtual 87, 3) := by decide +kernel
theorem dX4_firstApart_37 : decode cX4_firstApart 37 = .ok (.ifCond .eq 22, 3) := by decide +kernel
theorem dX4_firstApart_40 : decode cX4_firstApart 40 = .ok (.aload_n 0, 1) := by decide +kernel
theorem dX4_firstApart_41 : decode cX4_firstApart 41 = .ok (.aload_n 1, 1) := by decide +kernel
theorem dX4_firstApart_42 : decode cX4_firstApart 42 = .ok (.iload_n 2, 1) := by decide +kernel
theorem dX4_firstApart_43 : decode cX4_firstApart 43 = .ok (.iconst 1, 1) := by decide +kernel
theorem dX4_firstApart_44 : decode cX4_firstApart 44 = .ok (.isub, 1) := by decide +kernel
theorem dX4_firstApart_45 : decode cX4_firstApart 45 = .ok (.iaload, 1) := by decide +kernel
theorem dX4_firstApart_46 : decode cX4_firstApart 46 = .ok (.aload_n 1, 1) := by decide +kernel
theorem dX4_firstApart_47 : decode cX4_firstApart 47 = .ok (.iconst 0, 1) := by decide +kernel
theorem dX4_firstApart_48 : decode cX4_firstApart 48 = .ok (.iaload, 1) := by decide +kernel
theorem dX4_firstApart_49 : decode cX4_firstApart 49 = .ok (.invokevirtual 84, 3) := by decide +kernel
theorem dX4_firstApart_52 : decode cX4_firstApart 52 = .ok (.ifCond .ne 7, 3) := by decide +kernel
theorem dX4_firstApart_55 : decode cX4_firstApart 55 = .ok (.iload_n 2, 1) := by decide +kernel
theorem dX4_firstApart_56 : decode cX4_firstApart 56 = .ok (.iconst 1, 1) := by decide +kernel
theorem dX4_firstApart_57 : decode cX4_firstApart 57 = .ok (.isub, 1) := by decide +kernel
theorem dX4_firstApart_58 : decode cX4_firstApart 58 = .ok (.ireturn, 1) := by decide +kernel
theorem dX4_firstApart_59 : decode cX4_firstApart 59 = .ok (.bipush (-4), 2) := by decide +kernel
theorem dX4_firstApart_61 : decode cX4_firstApart 61 = .ok (.ireturn, 1) := by decide +kernel
set_option maxHeartbeats 4000000 in
set_option maxRecDepth 100000 in
theorem cX4_firstApart_k_1_6 {l : Launch} {D : va_G} {a : Nat → Nat} {k : Nat → ClassId} {n : Nat} {p2 : Int32} {x0 xz : bq_S} {rz : Int32} (h : fX4_firstApart n 1 6 8 p2 x0 = some (rz, xz)) : bq_M l D bq_cl (bq_ty k) (bq_wC a k) yX4_firstApart cX4_firstApart 4 (some .int) { frames := 1, cells := 0, slots := 0, locals := 22 } [.ref (a 1), .ref (a 6), .int p2] x0 (some rz) xz := by
  refine bq_ofW RX4 [(0, .ref (a 1)), (1, .ref (a 6)), (2, .int p2)] (by decide +kernel) rfl (Nat.le_of_ble_eq_true rfl) rfl (bq_adC a k) ?_
  intro p e s m below meth c A Q ls S hK hD hA hR hS hP hl
  have hx := S.1; have hb := S.2.1; have hml := S.2.2.1; have hown := S.2.2.2.1; have hts := S.2.2.2.2
  have hret : ∀ z, some z = some (rz, xz) → (rz, xz) = z := fun z h => (Option.some.inj h).symm
  unfold fX4_firstApart at h
  refine lv_iconst (v := (0 : Int32)) hx hb dX4_firstApart_0 (by decide) ?_
  refine lv_istore_n (lv' := [(3, .int (0 : Int32)), (0, .ref (a 1)), (1, .ref (a 6)), (2, .int p2)]) hx hb dX4_firstApart_1 rfl hl (by decide) rfl (fun ls hl => ?_)
  have hl2 : ∀ (v4 : Int32) (kf : Nat) (v5 : Int32) (x6 : bq_S) (eo : (Int32 × bq_S) ⊕ (Int32 × bq_S)) (H : Heap) (locs : List Loc) (ls : Array Slot), wh kf (fX4_firstApart_b2 n 1 6 8 v4) (v5, x6) = some eo → va_P D bq_cl (bq_wC a k x6) H → va_S A s.heap H locs → lv_has ls 4 [(0, .ref (a 1)), (1, .ref (a 6)), (2, .int v4), (3, .int v5)] → (∀ (H : Heap) (locs : List Loc) (ls : Array Slot) (v16 : Int32) (x17 : bq_S), eo = .inl (v16, x17) → va_P D bq_cl (bq_wC a k x17) H → va_S A s.heap H locs → lv_has ls 4 [(0, .ref (a 1)), (1, .ref (a 6)), (2, .int v4)] → W p l e { frames := 1, cells := 0, slots := 0, locals := 22 } s m [.ref (a 1), .ref (a 6), .int p2].toArray below meth c H locs 0 0 Q (F0 m 32 ls [])) → (∀ z, eo = .inr z → (rz, xz) = z) → W p l e { frames := 1, cells := 0, slots := 0, locals := 22 } s m [.ref (a 1), .ref (a 6), .int p2].toArray below meth c H locs 0 0 Q (F0 m 2 ls []) := by
    intro v4 kf
    induction kf with
    | zero => intro v5 x6 eo H locs ls h; cases h
    | succ kf ih =>
      intro v5 x6 eo H locs ls h hP hS hl kx kr
      obtain ⟨out, h, hw⟩ := wh_s h
      have hret : ∀ z, (some (.inr (.inr z)) : Option ((Int32 × bq_S) ⊕ ((Int32 × bq_S) ⊕ (Int32 × bq_S)))) = some out → (rz, xz) = z := fun z h => kr z (by cases h; exact (Option.some.inj hw).symm)
      unfold fX4_firstApart_b2 at h
      replace h := un2_e h
      refine lv_iload_n hx hb dX4_firstApart_2 rfl (lv_at hl 3 rfl) ?_
      refine lv_iconst (v := (1 : Int32)) hx hb dX4_firstApart_3 (by decide) ?_
      refine lv_iadd hx hb dX4_firstApart_4 ?_
      refine lv_iload_n hx hb dX4_firstApart_5 rfl (lv_at hl 2 rfl) ?_
      refine lv_icmp_ge (tgt := 32) hx hb dX4_firstApart_6 (by decide) (fun c7 => ?_) (fun c7 => ?_)
      · replace h := (if_pos c7).symm.trans h
        cases h
        exact kx _ _ _ _ _ (Option.some.inj hw).symm hP hS (lv_sub hl [0, 1, 2] rfl)
      · replace h := (if_neg c7).symm.trans h
        refine lv_aload_n hx hb dX4_firstApart_9 rfl (lv_at hl 0 rfl) ?_
        refine lv_aload_n hx hb dX4_firstApart_10 rfl (lv_at hl 1 rfl) ?_
        refine lv_iload_n hx hb dX4_firstApart_11 rfl (lv_at hl 3 rfl) ?_
        obtain ⟨g8, h⟩ := bq_gd h
        refine va_iald (D := D) hx hb hK hP 6 0 rfl rfl g8 dX4_firstApart_12 ?_
        refine lv_aload_n hx hb dX4_firstApart_13 rfl (lv_at hl 1 rfl) ?_
        refine lv_iload_n hx hb dX4_firstApart_14 rfl (lv_at hl 3 rfl) ?_
        refine lv_iconst (v := (1 : Int32)) hx hb dX4_firstApart_15 (by decide) ?_
        refine lv_iadd hx hb dX4_firstApart_16 ?_
        obtain ⟨g9, h⟩ := bq_gd h
        refine va_iald (D := D) hx hb hK hP 6 0 rfl rfl g9 dX4_firstApart_17 ?_
        obtain ⟨q10, hq10, h⟩ := Option.bind_eq_some_iff.mp h
        obtain ⟨v12, x11⟩ := q10
        replace h := un2_e h
        refine bq_callVi (q0 := 1) (As := [.int _, .int _]) S hK hD hA hP hS (cX4_touches_k_1 hq10) hd_yX4_touches ml_X4_84 in_yX4_touches sl_X4_X4_yX4_touches ⟨rfl, rfl⟩ ⟨by decide, by decide⟩ rfl rfl rfl hl.1 rfl (Nat.le_of_ble_eq_true rfl) ⟨Nat.zero_le _, Nat.zero_le _⟩ dX4_firstApart_18 (fun H locs hP hS => ?_)
        refine lv_if_ne (tgt := 26) hx hb dX4_firstApart_21 (by decide) (fun c13 => ?_) (fun c13 => ?_)
        · replace h := (if_neg c13).symm.trans h
          obtain ⟨v14, hv14, h⟩ := bq_b h
          refine lv_iinc (v := v14) (lv' := [(3, .int v14), (0, .ref (a 1)), (1, .ref (a 6)), (2, .int v4)]) hx hb dX4_firstApart_26 hl (k := 3) rfl (by rw [hv14]; rfl) (by decide) rfl (fun ls hl => ?_)
          refine lv_goto (tgt := 2) hx hb dX4_firstApart_29 (by decide) ?_
          cases h
          exact ih _ _ _ _ _ _ hw hP hS (lv_sub hl [1, 2, 3, 0] rfl) kx kr
        · replace h := (if_pos c13).symm.trans h
          refine lv_iload_n hx hb dX4_firstApart_24 rfl (lv_at hl 3 rfl) ?_
          obtain ⟨e1, e2⟩ := Prod.mk.inj (hret _ h)
          exact hR _ _ _ _ _ (congrArg some e1) rfl (by rw [e2]; exact hP) hS dX4_firstApart_25
  obtain ⟨e15, he15, h⟩ := Option.bind_eq_some_iff.mp h
  refine hl2 _ n _ _ e15 _ _ _ he15 hP hS (lv_sub hl [1, 2, 3, 0] rfl) (fun H locs ls v16 x17 hz hP hS hl => ?_) (fun z hz => hret z (bq_ir h hz))
  replace h := bq_il h hz
  replace h := un2_e h
  refine lv_aload_n hx hb dX4_firstApart_32 rfl (lv_at hl 0 rfl) ?_
  refine lv_iload_n hx hb dX4_firstApart_33 rfl (lv_at hl 2 rfl) ?_
  obtain ⟨q18, hq18, h⟩ := Option.bind_eq_some_iff.mp h
  obtain ⟨v20, x19⟩ := q18
  replace h := un2_e h
  refine bq_callVi (q0 := 1) (As := [.int _]) S hK hD hA hP hS (cX4_closes_k_1 hq18) hd_yX4_closes ml_X4_87 in_yX4_closes sl_X4_X4_yX4_closes ⟨rfl, rfl⟩ ⟨by decide, by decide⟩ rfl rfl rfl hl.1 rfl (Nat.le_of_ble_eq_true rfl) ⟨Nat.zero_le _, Nat.zero_le _⟩ dX4_firstApart_34 (fun H locs hP hS => ?_)
  refine lv_if_eq (tgt := 59) hx hb dX4_firstApart_37 (by decide) (fun c21 => ?_) (fun c21 => ?_)
  · replace h := (if_pos c21).symm.trans h
    refine lv_bipush (v := (-4 : Int32)) hx hb dX4_firstApart_59 (by decide) ?_
    obtain ⟨e1, e2⟩ := Prod.mk.inj (hret _ h)
    exact hR _ _ _ _ _ (congrArg some e1) rfl (by rw [e2]; exact hP) hS dX4_firstApart_61
  · replace h := (if_neg c21).symm.trans h
    refine lv_aload_n hx hb dX4_firstApart_40 rfl (lv_at hl 0 rfl) ?_
    refine lv_aload_n hx hb dX4_firstApart_41 rfl (lv_at hl 1 rfl) ?_
    refine lv_iload_n hx hb dX4_firstApart_42 rfl (lv_at hl 2 rfl) ?_
    refine lv_iconst (v := (1 : Int32)) hx hb dX4_firstApart_43 (by decide) ?_
    refine lv_isub hx hb dX4_firstApart_44 ?_
    obtain ⟨g22, h⟩ := bq_gd h
    refine va_iald (D := D) hx hb hK hP 6 0 rfl rfl g22 dX4_firstApart_45 ?_
    refine lv_aload_n hx hb dX4_firstApart_46 rfl (lv_at hl 1 rfl) ?_
    refine lv_iconst (v := (0 : Int32)) hx hb dX4_firstApart_47 (by decide) ?_
    obtain ⟨g23, h⟩ := bq_gd h
    refine va_iald (D := D) hx hb hK hP 6 0 rfl rfl g23 dX4_firstApart_48 ?_
    obtain ⟨q24, hq24, h⟩ := Option.bind_eq_some_iff.mp h
    obtain ⟨v26, x25⟩ := q24
    replace h := un2_e h
    refine bq_callVi (q0 := 1) (As := [.int _, .int _]) S hK hD hA hP hS (cX4_touches_k_1 hq24) hd_yX4_touches ml_X4_84 in_yX4_touches sl_X4_X4_yX4_touches ⟨rfl, rfl⟩ ⟨by decide, by decide⟩ rfl rfl rfl hl.1 rfl (Nat.le_of_ble_eq_true rfl) ⟨Nat.zero_le _, Nat.zero_le _⟩ dX4_firstApart_49 (fun H locs hP hS => ?_)
    refine lv_if_ne (tgt := 59) hx hb dX4_firstApart_52 (by decide) (fun c27 => ?_) (fun c27 => ?_)
    · replace h := (if_neg c27).symm.trans h
      refine lv_bipush (v := (-4 : Int32)) hx hb dX4_firstApart_59 (by decide) ?_
      obtain ⟨e1, e2⟩ := Prod.mk.inj (hret _ h)
      exact hR _ _ _ _ _ (congrArg some e1) rfl (by rw [e2]; exact hP) hS dX4_firstApart_61
    · replace h := (if_pos c27).symm.trans h
      refine lv_iload_n hx hb dX4_firstApart_55 rfl (lv_at hl 2 rfl) ?_
      refine lv_iconst (v := (1 : Int32)) hx hb dX4_firstApart_56 (by decide) ?_
      refine lv_isub hx hb dX4_firstApart_57 ?_
      obtain ⟨e1, e2⟩ := Prod.mk.inj (hret _ h)
      exact hR _ _ _ _ _ (congrArg some e1) rfl (by rw [e2]; exact hP) hS dX4_firstApart_58
def fX9_judged (n : Nat) (x0 : bq_S) : Option (Int32 × bq_S) :=
  (fX4_firstApart n 1 6 8 (x0.1 1 2) x0).bind (fun q1 => un2 q1 (fun v3 x2 =>
  some (v3, x2)))
theorem dX9_judged_0 : decode cX9_judged 0 = .ok (.aload_n 0, 1) := by decide +kernel
theorem dX9_judged_1 : decode cX9_judged 1 = .ok (.getfield 10, 3) := by decide +kernel
theorem dX9_judged_4 : decode cX9_judged 4 = .ok (.aload_n 0, 1) := by decide +kernel
theorem dX9_judged_5 : decode cX9_judged 5 = .ok (.getfield 10, 3) := by decide +kernel
theorem dX9_judged_8 : decode cX9_judged 8 = .ok (.getfield 156, 3) := by decide +kernel
theorem dX9_judged_11 : decode cX9_judged 11 = .ok (.aload_n 0, 1) := by decide +kernel
theorem dX9_judged_12 : decode cX9_judged 12 = .ok (.getfield 10, 3) := by decide +kernel
theorem dX9_judged_15 : decode cX9_judged 15 = .ok (.getfield 159, 3) := by decide +kernel
theorem dX9_judged_18 : decode cX9_judged 18 = .ok (.invokevirtual 182, 3) := by decide +kernel
theorem dX9_judged_21 : decode cX9_judged 21 = .ok (.ireturn, 1) := by decide +kernel
set_option maxHeartbeats 4000000 in
set_option maxRecDepth 100000 in
theorem cX9_judged_k_0 {l : Launch} {D : va_G} {a : Nat → Nat} {k : Nat → ClassId} {n : Nat} {x0 xz : bq_S} {rz : Int32} (h : fX9_judged n  x0 = some (rz, xz)) : bq_M l D bq_cl (bq_ty k) (bq_wC a k) yX9_judged cX9_judged 1 (some .int) { frames := 2, cells := 0, slots := 0, locals := 45 } [.ref (a 0)] x0 (some rz) xz := by
  refine bq_ofW RX9 [(0, .ref (a 0))] (by decide +kernel) rfl (Nat.le_of_ble_eq_true rfl) rfl (bq_adC a k) ?_
  intro p e s m below meth c A Q ls S hK hD hA hR hS hP hl
  have hx := S.1; have hb := S.2.1; have hml := S.2.2.1; have hown := S.2.2.2.1; have hts := S.2.2.2.2
  have hret : ∀ z, some z = some (rz, xz) → (rz, xz) = z := fun z h => (Option.some.inj h).symm
  unfold fX9_judged at h
  refine lv_aload_n hx hb dX9_judged_0 rfl (lv_at hl 0 rfl) ?_
  refine bq_get (q0 := 0) S hK hP fl_X9_10_X9_0 rfl rfl rfl dX9_judged_1 ?_
  refine lv_aload_n hx hb dX9_judged_4 rfl (lv_at hl 0 rfl) ?_
  refine bq_get (q0 := 0) S hK hP fl_X9_10_X9_0 rfl rfl rfl dX9_judged_5 ?_
  refine bq_get (q0 := 1) S hK hP fl_X9_156_X4_7 rfl rfl rfl dX9_judged_8 ?_
  refine lv_aload_n hx hb dX9_judged_11 rfl (lv_at hl 0 rfl) ?_
  refine bq_get (q0 := 0) S hK hP fl_X9_10_X9_0 rfl rfl rfl dX9_judged_12 ?_
  refine bq_get (q0 := 1) S hK hP fl_X9_159_X4_2 rfl rfl rfl dX9_judged_15 ?_
  obtain ⟨q1, hq1, h⟩ := Option.bind_eq_some_iff.mp h
  obtain ⟨v3, x2⟩ := q1
  replace h := un2_e h
  refine bq_callVi (q0 := 1) (As := [.ref (a 6), .int _]) S hK hD hA hP hS (cX4_firstApart_k_1_6 hq1) hd_yX4_firstApart ml_X9_182 in_yX4_firstApart sl_X4_X4_yX4_firstApart ⟨rfl, rfl⟩ ⟨by decide, by decide⟩ rfl rfl rfl hl.1 rfl (Nat.le_of_ble_eq_true rfl) ⟨Nat.zero_le _, Nat.zero_le _⟩ dX9_judged_18 (fun H locs hP hS => ?_)
  obtain ⟨e1, e2⟩ := Prod.mk.inj (hret _ h)
  exact hR _ _ _ _ _ (congrArg some e1) rfl (by rw [e2]; exact hP) hS dX9_judged_21
def fX9_isSheet (p0 : Int32) (x0 : bq_S) : Option (Int32 × bq_S) :=
  if p0 < 0 then
  some ((0 : Int32), x0)
  else
  if (4 : Int32) ≤ p0 then
  some ((0 : Int32), x0)
  else
  some ((1 : Int32), x0)
theorem dX9_isSheet_0 : decode cX9_isSheet 0 = .ok (.iload_n 0, 1) := by decide +kernel
theorem dX9_isSheet_1 : decode cX9_isSheet 1 = .ok (.ifCond .lt 12, 3) := by decide +kernel
theorem dX9_isSheet_4 : decode cX9_isSheet 4 = .ok (.iload_n 0, 1) := by decide +kernel
theorem dX9_isSheet_5 : decode cX9_isSheet 5 = .ok (.iconst 4, 1) := by decide +kernel
theorem dX9_isSheet_6 : decode cX9_isSheet 6 = .ok (.if_icmp .ge 7, 3) := by decide +kernel
theorem dX9_isSheet_9 : decode cX9_isSheet 9 = .ok (.iconst 1, 1) := by decide +kernel
theorem dX9_isSheet_10 : decode cX9_isSheet 10 = .ok (.goto 4, 3) := by decide +kernel
theorem dX9_isSheet_13 : decode cX9_isSheet 13 = .ok (.iconst 0, 1) := by decide +kernel
theorem dX9_isSheet_14 : decode cX9_isSheet 14 = .ok (.ireturn, 1) := by decide +kernel
set_option maxHeartbeats 4000000 in
set_option maxRecDepth 100000 in
theorem cX9_isSheet_k {l : Launch} {D : va_G} {a : Nat → Nat} {k : Nat → ClassId} {p0 : Int32} {x0 xz : bq_S} {rz : Int32} (h : fX9_isSheet  p0 x0 = some (rz, xz)) : bq_M l D bq_cl (bq_ty k) (bq_wC a k) yX9_isSheet cX9_isSheet 1 (some .boolean) { frames := 0, cells := 0, slots := 0, locals := 0 } [.int p0] x0 (some rz) xz := by
  refine bq_ofW RX9 [(0, .int p0)] (by decide +kernel) rfl (Nat.le_of_ble_eq_true rfl) rfl (bq_adC a k) ?_
  intro p e s m below meth c A Q ls S hK hD hA hR hS hP hl
  have hx := S.1; have hb := S.2.1; have hml := S.2.2.1; have hown := S.2.2.2.1; have hts := S.2.2.2.2
  have hret : ∀ z, some z = some (rz, xz) → (rz, xz) = z := fun z h => (Option.some.inj h).symm
  unfold fX9_isSheet at h
  refine lv_iload_n hx hb dX9_isSheet_0 rfl (lv_at hl 0 rfl) ?_
  refine lv_if_lt (tgt := 13) hx hb dX9_isSheet_1 (by decide) (fun c1 => ?_) (fun c1 => ?_)
  · replace h := (if_pos c1).symm.trans h
    refine lv_iconst (v := (0 : Int32)) hx hb dX9_isSheet_13 (by decide) ?_
    obtain ⟨e1, e2⟩ := Prod.mk.inj (hret _ h)
    exact hR _ _ _ _ _ (congrArg some e1) rfl (by rw [e2]; exact hP) hS dX9_isSheet_14
  · replace h := (if_neg c1).symm.trans h
    refine lv_iload_n hx hb dX9_isSheet_4 rfl (lv_at hl 0 rfl) ?_
    refine lv_iconst (v := (4 : Int32)) hx hb dX9_isSheet_5 (by decide) ?_
    refine lv_icmp_ge (tgt := 13) hx hb dX9_isSheet_6 (by decide) (fun c2 => ?_) (fun c2 => ?_)
    · replace h := (if_pos c2).symm.trans h
      refine lv_iconst (v := (0 : Int32)) hx hb dX9_isSheet_13 (by decide) ?_
      obtain ⟨e1, e2⟩ := Prod.mk.inj (hret _ h)
      exact hR _ _ _ _ _ (congrArg some e1) rfl (by rw [e2]; exact hP) hS dX9_isSheet_14
    · replace h := (if_neg c2).symm.trans h
      refine lv_iconst (v := (1 : Int32)) hx hb dX9_isSheet_9 (by decide) ?_
      refine lv_goto (tgt := 14) hx hb dX9_isSheet_10 (by decide) ?_
      obtain ⟨e1, e2⟩ := Prod.mk.inj (hret _ h)
      exact hR _ _ _ _ _ (congrArg some e1) rfl (by rw [e2]; exact hP) hS dX9_isSheet_14
def fX9_isLane (p0 : Int32) (x0 : bq_S) : Option (Int32 × bq_S) :=
  if p0 < 0 then
  some ((0 : Int32), x0)
  else
  if (3 : Int32) ≤ p0 then
  some ((0 : Int32), x0)
  else
  some ((1 : Int32), x0)
theorem dX9_isLane_0 : decode cX9_isLane 0 = .ok (.iload_n 0, 1) := by decide +kernel
theorem dX9_isLane_1 : decode cX9_isLane 1 = .ok (.ifCond .lt 12, 3) := by decide +kernel
theorem dX9_isLane_4 : decode cX9_isLane 4 = .ok (.iload_n 0, 1) := by decide +kernel
theorem dX9_isLane_5 : decode cX9_isLane 5 = .ok (.iconst 3, 1) := by decide +kernel
theorem dX9_isLane_6 : decode cX9_isLane 6 = .ok (.if_icmp .ge 7, 3) := by decide +kernel
theorem dX9_isLane_9 : decode cX9_isLane 9 = .ok (.iconst 1, 1) := by decide +kernel
theorem dX9_isLane_10 : decode cX9_isLane 10 = .ok (.goto 4, 3) := by decide +kernel
theorem dX9_isLane_13 : decode cX9_isLane 13 = .ok (.iconst 0, 1) := by decide +kernel
theorem dX9_isLane_14 : decode cX9_isLane 14 = .ok (.ireturn, 1) := by decide +kernel
set_option maxHeartbeats 4000000 in
set_option maxRecDepth 100000 in
theorem cX9_isLane_k {l : Launch} {D : va_G} {a : Nat → Nat} {k : Nat → ClassId} {p0 : Int32} {x0 xz : bq_S} {rz : Int32} (h : fX9_isLane  p0 x0 = some (rz, xz)) : bq_M l D bq_cl (bq_ty k) (bq_wC a k) yX9_isLane cX9_isLane 1 (some .boolean) { frames := 0, cells := 0, slots := 0, locals := 0 } [.int p0] x0 (some rz) xz := by
  refine bq_ofW RX9 [(0, .int p0)] (by decide +kernel) rfl (Nat.le_of_ble_eq_true rfl) rfl (bq_adC a k) ?_
  intro p e s m below meth c A Q ls S hK hD hA hR hS hP hl
  have hx := S.1; have hb := S.2.1; have hml := S.2.2.1; have hown := S.2.2.2.1; have hts := S.2.2.2.2
  have hret : ∀ z, some z = some (rz, xz) → (rz, xz) = z := fun z h => (Option.some.inj h).symm
  unfold fX9_isLane at h
  refine lv_iload_n hx hb dX9_isLane_0 rfl (lv_at hl 0 rfl) ?_
  refine lv_if_lt (tgt := 13) hx hb dX9_isLane_1 (by decide) (fun c1 => ?_) (fun c1 => ?_)
  · replace h := (if_pos c1).symm.trans h
    refine lv_iconst (v := (0 : Int32)) hx hb dX9_isLane_13 (by decide) ?_
    obtain ⟨e1, e2⟩ := Prod.mk.inj (hret _ h)
    exact hR _ _ _ _ _ (congrArg some e1) rfl (by rw [e2]; exact hP) hS dX9_isLane_14
  · replace h := (if_neg c1).symm.trans h
    refine lv_iload_n hx hb dX9_isLane_4 rfl (lv_at hl 0 rfl) ?_
    refine lv_iconst (v := (3 : Int32)) hx hb dX9_isLane_5 (by decide) ?_
    refine lv_icmp_ge (tgt := 13) hx hb dX9_isLane_6 (by decide) (fun c2 => ?_) (fun c2 => ?_)
    · replace h := (if_pos c2).symm.trans h
      refine lv_iconst (v := (0 : Int32)) hx hb dX9_isLane_13 (by decide) ?_
      obtain ⟨e1, e2⟩ := Prod.mk.inj (hret _ h)
      exact hR _ _ _ _ _ (congrArg some e1) rfl (by rw [e2]; exact hP) hS dX9_isLane_14
    · replace h := (if_neg c2).symm.trans h
      refine lv_iconst (v := (1 : Int32)) hx hb dX9_isLane_9 (by decide) ?_
      refine lv_goto (tgt := 14) hx hb dX9_isLane_10 (by decide) ?_
      obtain ⟨e1, e2⟩ := Prod.mk.inj (hret _ h)
      exact hR _ _ _ _ _ (congrArg some e1) rfl (by rw [e2]; exact hP) hS dX9_isLane_14
def fJ7_fill_d0a16_b6 (n : Nat) (r2 : Nat) (lb3 : Nat) (v4 : Int64) (v6 : Int32) (v : Int32 × bq_S) : Option ((Int32 × bq_S) ⊕ (Int32 × bq_S)) :=
  un2 v (fun v5 x7 =>
  if v6 ≤ v5 then
  some (.inr (v5, x7))
  else
  if ok_i v5 lb3 then
  bd (bq_sL x7 r2 v5.toNatClampNeg v4) (fun x9 =>
  bd (v5 + (1 : Int32)) (fun v11 =>
  some (.inl (v11, x9))))
  else none)
def fJ7_fill_d0a16 (n : Nat) (q0 : Nat) (la0 : Nat) (p1 : Int64) (x0 : bq_S) : Option (bq_S) :=
  bd (Int32.ofNat la0) (fun v1 =>
  (wh n (fJ7_fill_d0a16_b6 n q0 la0 p1 v1) ((0 : Int32), x0)).bind (fun e12 => un2 e12 (fun v13 x14 =>
  some x14)))
theorem dJ7_fill_d0a16_0 : decode cJ7_fill_d0a16 0 = .ok (.iconst 0, 1) := by decide +kernel
theorem dJ7_fill_d0a16_1 : decode cJ7_fill_d0a16 1 = .ok (.istore_n 3, 1) := by decide +kernel
theorem dJ7_fill_d0a16_2 : decode cJ7_fill_d0a16 2 = .ok (.aload_n 0, 1) := by decide +kernel
theorem dJ7_fill_d0a16_3 : decode cJ7_fill_d0a16 3 = .ok (.arraylength, 1) := by decide +kernel
theorem dJ7_fill_d0a16_4 : decode cJ7_fill_d0a16 4 = .ok (.istore 4, 2) := by decide +kernel
theorem dJ7_fill_d0a16_6 : decode cJ7_fill_d0a16 6 = .ok (.iload_n 3, 1) := by decide +kernel
theorem dJ7_fill_d0a16_7 : decode cJ7_fill_d0a16 7 = .ok (.iload 4, 2) := by decide +kernel
theorem dJ7_fill_d0a16_9 : decode cJ7_fill_d0a16 9 = .ok (.if_icmp .ge 13, 3) := by decide +kernel
theorem dJ7_fill_d0a16_12 : decode cJ7_fill_d0a16 12 = .ok (.aload_n 0, 1) := by decide +kernel
theorem dJ7_fill_d0a16_13 : decode cJ7_fill_d0a16 13 = .ok (.iload_n 3, 1) := by decide +kernel
theorem dJ7_fill_d0a16_14 : decode cJ7_fill_d0a16 14 = .ok (.lload_n 1, 1) := by decide +kernel
theorem dJ7_fill_d0a16_15 : decode cJ7_fill_d0a16 15 = .ok (.lastore, 1) := by decide +kernel
theorem dJ7_fill_d0a16_16 : decode cJ7_fill_d0a16 16 = .ok (.iinc 3 1, 3) := by decide +kernel
theorem dJ7_fill_d0a16_19 : decode cJ7_fill_d0a16 19 = .ok (.goto (-13), 3) := by decide +kernel
theorem dJ7_fill_d0a16_22 : decode cJ7_fill_d0a16 22 = .ok (.return_, 1) := by decide +kernel
set_option maxHeartbeats 4000000 in
set_option maxRecDepth 100000 in
theorem cJ7_fill_d0a16_k_35 {l : Launch} {D : va_G} {a : Nat → Nat} {k : Nat → ClassId} {n : Nat} {p1 : Int64} {x0 xz : bq_S} (h : fJ7_fill_d0a16 n 35 16 p1 x0 = some xz) : bq_M l D bq_cl (bq_ty k) (bq_wC a k) yJ7_fill_d0a16 cJ7_fill_d0a16 5 none { frames := 0, cells := 0, slots := 0, locals := 0 } [.ref (a 35), .long p1] x0 none xz := by
  refine bq_ofWv RJ7 [(0, .ref (a 35)), (1, .long p1)] (by decide +kernel) rfl (Nat.le_of_ble_eq_true rfl) rfl (bq_adC a k) ?_
  intro p e s m below meth c A Q ls S hK hD hA hR hS hP hl
  have hx := S.1; have hb := S.2.1; have hml := S.2.2.1; have hown := S.2.2.2.1; have hts := S.2.2.2.2
  have hret : ∀ z, some z = some xz → xz = z := fun z h => (Option.some.inj h).symm
  unfold fJ7_fill_d0a16 at h
  refine lv_iconst (v := (0 : Int32)) hx hb dJ7_fill_d0a16_0 (by decide) ?_
  refine lv_istore_n (lv' := [(3, .int (0 : Int32)), (0, .ref (a 35)), (1, .long p1)]) hx hb dJ7_fill_d0a16_1 rfl hl (by decide) rfl (fun ls hl => ?_)
  refine lv_aload_n hx hb dJ7_fill_d0a16_2 rfl (lv_at hl 1 rfl) ?_
  refine va_alen (D := D) (v := (16 : Int32)) hx hb hK hP 35 1 rfl rfl rfl dJ7_fill_d0a16_3 ?_
  refine lv_topi (fun v1 hv1 => ?_)
  replace h := bq_bv h hv1
  refine lv_istore (lv' := [(4, .int v1), (3, .int (0 : Int32)), (0, .ref (a 35)), (1, .long p1)]) hx hb dJ7_fill_d0a16_4 hl (by decide) rfl (fun ls hl => ?_)
  have hl6 : ∀ (v4 : Int64) (v6 : Int32) (kf : Nat) (v5 : Int32) (x7 : bq_S) (eo : Int32 × bq_S) (H : Heap) (locs : List Loc) (ls : Array Slot), wh kf (fJ7_fill_d0a16_b6 n 35 16 v4 v6) (v5, x7) = some eo → va_P D bq_cl (bq_wC a k x7) H → va_S A s.heap H locs → lv_has ls 5 [(0, .ref (a 35)), (1, .long v4), (3, .int v5), (4, .int v6)] → (∀ (H : Heap) (locs : List Loc) (ls : Array Slot) (v13 : Int32) (x14 : bq_S), eo = (v13, x14) → va_P D bq_cl (bq_wC a k x14) H → va_S A s.heap H locs → lv_has ls 5 [] → W p l e { frames := 0, cells := 0, slots := 0, locals := 0 } s m [.ref (a 35), .long p1].toArray below meth c H locs 0 0 Q (F0 m 22 ls [])) → W p l e { frames := 0, cells := 0, slots := 0, locals := 0 } s m [.ref (a 35), .long p1].toArray below meth c H locs 0 0 Q (F0 m 6 ls []) := by
    intro v4 v6 kf
    induction kf with
    | zero => intro v5 x7 eo H locs ls h; cases h
    | succ kf ih =>
      intro v5 x7 eo H locs ls h hP hS hl kx
      obtain ⟨out, h, hw⟩ := wh_s h
      unfold fJ7_fill_d0a16_b6 at h
      replace h := un2_e h
      refine lv_iload_n hx hb dJ7_fill_d0a16_6 rfl (lv_at hl 2 rfl) ?_
      refine lv_iload hx hb dJ7_fill_d0a16_7 (lv_at hl 3 rfl) ?_
      refine lv_icmp_ge (tgt := 22) hx hb dJ7_fill_d0a16_9 (by decide) (fun c8 => ?_) (fun c8 => ?_)
      · replace h := (if_pos c8).symm.trans h
        cases h
        exact kx _ _ _ _ _ (Option.some.inj hw).symm hP hS (lv_sub hl [] rfl)
      · replace h := (if_neg c8).symm.trans h
        refine lv_aload_n hx hb dJ7_fill_d0a16_12 rfl (lv_at hl 0 rfl) ?_
        refine lv_iload_n hx hb dJ7_fill_d0a16_13 rfl (lv_at hl 2 rfl) ?_
        refine lv_lload_n hx hb dJ7_fill_d0a16_14 rfl (lv_at hl 1 rfl) ?_
        obtain ⟨g10, h⟩ := bq_gd h
        obtain ⟨x9, hx9, h⟩ := bq_b h
        refine bq_last (x1 := x9) (q0 := 35) (t0 := 1) S hK hD hP hS rfl rfl g10 (by rw [hx9]; rfl) dJ7_fill_d0a16_15 (fun H locs hP hS => ?_)
        obtain ⟨v11, hv11, h⟩ := bq_b h
        refine lv_iinc (v := v11) (lv' := [(3, .int v11), (0, .ref (a 35)), (1, .long v4), (4, .int v6)]) hx hb dJ7_fill_d0a16_16 hl (k := 2) rfl (by rw [hv11]; rfl) (by decide) rfl (fun ls hl => ?_)
        refine lv_goto (tgt := 6) hx hb dJ7_fill_d0a16_19 (by decide) ?_
        cases h
        exact ih _ _ _ _ _ _ hw hP hS (lv_sub hl [1, 2, 0, 3] rfl) kx
  obtain ⟨e12, he12, h⟩ := Option.bind_eq_some_iff.mp h
  refine hl6 _ _ n _ _ e12 _ _ _ he12 hP hS (lv_sub hl [2, 3, 1, 0] rfl) (fun H locs ls v13 x14 hz hP hS hl => ?_)
  subst hz
  replace h := un2_e h
  have e2 := hret _ h
  exact hR _ _ _ _ rfl (by rw [e2]; exact hP) hS dJ7_fill_d0a16_22
def fX6_begin (n : Nat) (q0 : Nat) (p1 : Int32) (p2 : Int32) (x0 : bq_S) : Option (bq_S) :=
  (fJ7_fill_d0a16 n (q0 + 1) 16 (0 : Int64) x0).bind (fun x2 =>
  bd (bq_sI x2 q0 1 p1) (fun x3 =>
  bd (bq_sI x3 q0 2 p2) (fun x4 =>
  some x4)))
theorem dX6_begin_0 : decode cX6_begin 0 = .ok (.aload_n 0, 1) := by decide +kernel
theorem dX6_begin_1 : decode cX6_begin 1 = .ok (.getfield 9, 3) := by decide +kernel
theorem dX6_begin_4 : decode cX6_begin 4 = .ok (.lconst 0, 1) := by decide +kernel
theorem dX6_begin_5 : decode cX6_begin 5 = .ok (.invokestatic 22, 3) := by decide +kernel
theorem dX6_begin_8 : decode cX6_begin 8 = .ok (.aload_n 0, 1) := by decide +kernel
theorem dX6_begin_9 : decode cX6_begin 9 = .ok (.iload_n 1, 1) := by decide +kernel
theorem dX6_begin_10 : decode cX6_begin 10 = .ok (.putfield 15, 3) := by decide +kernel
theorem dX6_begin_13 : decode cX6_begin 13 = .ok (.aload_n 0, 1) := by decide +kernel
theorem dX6_begin_14 : decode cX6_begin 14 = .ok (.iload_n 2, 1) := by decide +kernel
theorem dX6_begin_15 : decode cX6_begin 15 = .ok (.putfield 19, 3) := by decide +kernel
theorem dX6_begin_18 : decode cX6_begin 18 = .ok (.return_, 1) := by decide +kernel
set_option maxHeartbeats 4000000 in
set_option maxRecDepth 100000 in
theorem cX6_begin_k_34 {l : Launch} {D : va_G} {a : Nat → Nat} {k : Nat → ClassId} {n : Nat} {p1 : Int32} {p2 : Int32} {x0 xz : bq_S} (h : fX6_begin n 34 p1 p2 x0 = some xz) : bq_M l D bq_cl (bq_ty k) (bq_wC a k) yX6_begin cX6_begin 3 none { frames := 1, cells := 0, slots := 0, locals := 24 } [.ref (a 34), .int p1, .int p2] x0 none xz := by
  refine bq_ofWv RX6 [(0, .ref (a 34)), (1, .int p1), (2, .int p2)] (by decide +kernel) rfl (Nat.le_of_ble_eq_true rfl) rfl (bq_adC a k) ?_
  intro p e s m below meth c A Q ls S hK hD hA hR hS hP hl
  have hx := S.1; have hb := S.2.1; have hml := S.2.2.1; have hown := S.2.2.2.1; have hts := S.2.2.2.2
  have hret : ∀ z, some z = some xz → xz = z := fun z h => (Option.some.inj h).symm
  unfold fX6_begin at h
  refine lv_aload_n hx hb dX6_begin_0 rfl (lv_at hl 0 rfl) ?_
  refine bq_get (q0 := 34) S hK hP fl_X6_9_X6_0 rfl rfl rfl dX6_begin_1 ?_
  refine lv_lconst (v := (0 : Int64)) hx hb dX6_begin_4 (by decide) ?_
  obtain ⟨x2, hq1, h⟩ := Option.bind_eq_some_iff.mp h
  refine bq_callSv (As := [.ref (a 35), .long _]) S hK hD hA hP hS (cJ7_fill_d0a16_k_35 hq1) hd_yJ7_fill_d0a16 ml_X6_22 st_yJ7_fill_d0a16 ⟨rfl, rfl⟩ ⟨by decide, by decide⟩ rfl hl.1 rfl (Nat.le_of_ble_eq_true rfl) ⟨Nat.zero_le _, Nat.zero_le _⟩ dX6_begin_5 (fun H locs hP hS => ?_)
  refine lv_aload_n hx hb dX6_begin_8 rfl (lv_at hl 0 rfl) ?_
  refine lv_iload_n hx hb dX6_begin_9 rfl (lv_at hl 1 rfl) ?_
  obtain ⟨x3, hx3, h⟩ := bq_b h
  refine bq_put (x1 := x3) (q0 := 34) (ty := .int) S hK hD hP hS fl_X6_15_X6_1 bt_X6 rfl (by decide +kernel) rfl rfl (Nat.le_of_ble_eq_true rfl) rfl rfl (by rw [hx3]; rfl) dX6_begin_10 (fun H locs hP hS => ?_)
  refine lv_aload_n hx hb dX6_begin_13 rfl (lv_at hl 0 rfl) ?_
  refine lv_iload_n hx hb dX6_begin_14 rfl (lv_at hl 2 rfl) ?_
  obtain ⟨x4, hx4, h⟩ := bq_b h
  refine bq_put (x1 := x4) (q0 := 34) (ty := .int) S hK hD hP hS fl_X6_19_X6_2 bt_X6 rfl (by decide +kernel) rfl rfl (Nat.le_of_ble_eq_true rfl) rfl rfl (by rw [hx4]; rfl) dX6_begin_15 (fun H locs hP hS => ?_)
  have e2 := hret _ h
  exact hR _ _ _ _ rfl (by rw [e2]; exact hP) hS dX6_begin_18
def fX9_sheet (n : Nat) (p1 : Int32) (p2 : Int32) (p3 : Int32) (x0 : bq_S) : Option (Int32 × bq_S) :=
  (fX9_isSheet p1 x0).bind (fun q1 => un2 q1 (fun v3 x2 =>
  if v3 = 0 then
  some ((-1 : Int32), x2)
  else
  (fX9_isLane p2 x2).bind (fun q5 => un2 q5 (fun v7 x6 =>
  if v7 = 0 then
  some ((-1 : Int32), x6)
  else
  if p3 ≤ (16 : Int32) then
  if 0 ≤ p3 then
  if ok_i p1 4 then
  (fX6_begin n (34 + 2 * p1.toNatClampNeg) p2 p3 x6).bind (fun x13 =>
  some (p3, x13))
  else none
  else
  some ((-14 : Int32), x6)
  else
  some ((-1 : Int32), x6)))))
theorem dX9_sheet_0 : decode cX9_sheet 0 = .ok (.iload_n 1, 1) := by decide +kernel
theorem dX9_sheet_1 : decode cX9_sheet 1 = .ok (.invokestatic 252, 3) := by decide +kernel
theorem dX9_sheet_4 : decode cX9_sheet 4 = .ok (.ifCond .eq 16, 3) := by decide +kernel
theorem dX9_sheet_7 : decode cX9_sheet 7 = .ok (.iload_n 2, 1) := by decide +kernel
theorem dX9_sheet_8 : decode cX9_sheet 8 = .ok (.invokestatic 255, 3) := by decide +kernel
theorem dX9_sheet_11 : decode cX9_sheet 11 = .ok (.ifCond .eq 9, 3) := by decide +kernel
theorem dX9_sheet_14 : decode cX9_sheet 14 = .ok (.iload_n 3, 1) := by decide +kernel
theorem dX9_sheet_15 : decode cX9_sheet 15 = .ok (.bipush 16, 2) := by decide +kernel
theorem dX9_sheet_17 : decode cX9_sheet 17 = .ok (.if_icmp .le 5, 3) := by decide +kernel
theorem dX9_sheet_20 : decode cX9_sheet 20 = .ok (.iconst (-1), 1) := by decide +kernel
theorem dX9_sheet_21 : decode cX9_sheet 21 = .ok (.ireturn, 1) := by decide +kernel
theorem dX9_sheet_22 : decode cX9_sheet 22 = .ok (.iload_n 3, 1) := by decide +kernel
theorem dX9_sheet_23 : decode cX9_sheet 23 = .ok (.ifCond .ge 6, 3) := by decide +kernel
theorem dX9_sheet_26 : decode cX9_sheet 26 = .ok (.bipush (-14), 2) := by decide +kernel
theorem dX9_sheet_28 : decode cX9_sheet 28 = .ok (.ireturn, 1) := by decide +kernel
theorem dX9_sheet_29 : decode cX9_sheet 29 = .ok (.aload_n 0, 1) := by decide +kernel
theorem dX9_sheet_30 : decode cX9_sheet 30 = .ok (.getfield 70, 3) := by decide +kernel
theorem dX9_sheet_33 : decode cX9_sheet 33 = .ok (.iload_n 1, 1) := by decide +kernel
theorem dX9_sheet_34 : decode cX9_sheet 34 = .ok (.aaload, 1) := by decide +kernel
theorem dX9_sheet_35 : decode cX9_sheet 35 = .ok (.iload_n 2, 1) := by decide +kernel
theorem dX9_sheet_36 : decode cX9_sheet 36 = .ok (.iload_n 3, 1) := by decide +kernel
theorem dX9_sheet_37 : decode cX9_sheet 37 = .ok (.invokevirtual 258, 3) := by decide +kernel
theorem dX9_sheet_40 : decode cX9_sheet 40 = .ok (.iload_n 3, 1) := by decide +kernel
theorem dX9_sheet_41 : decode cX9_sheet 41 = .ok (.ireturn, 1) := by decide +kernel
set_option maxHeartbeats 4000000 in
set_option maxRecDepth 100000 in
theorem cX9_sheet_k_0_s0 {l : Launch} {D : va_G} {a : Nat → Nat} {k : Nat → ClassId} {n : Nat} {p1 : Int32} {p2 : Int32} {p3 : Int32} {x0 xz : bq_S} {rz : Int32} (hkp1 : p1.toNatClampNeg = 0) (h : fX9_sheet n p1 p2 p3 x0 = some (rz, xz)) : bq_M l D bq_cl (bq_ty k) (bq_wC a k) yX9_sheet cX9_sheet 4 (some .int) { frames := 2, cells := 0, slots := 0, locals := 46 } [.ref (a 0), .int p1, .int p2, .int p3] x0 (some rz) xz := by
  refine bq_ofW RX9 [(0, .ref (a 0)), (1, .int p1), (2, .int p2), (3, .int p3)] (by decide +kernel) rfl (Nat.le_of_ble_eq_true rfl) rfl (bq_adC a k) ?_
  intro p e s m below meth c A Q ls S hK hD hA hR hS hP hl
  have hx := S.1; have hb := S.2.1; have hml := S.2.2.1; have hown := S.2.2.2.1; have hts := S.2.2.2.2
  have hret : ∀ z, some z = some (rz, xz) → (rz, xz) = z := fun z h => (Option.some.inj h).symm
  unfold fX9_sheet at h
  refine lv_iload_n hx hb dX9_sheet_0 rfl (lv_at hl 1 rfl) ?_
  obtain ⟨q1, hq1, h⟩ := Option.bind_eq_some_iff.mp h
  obtain ⟨v3, x2⟩ := q1
  replace h := un2_e h
  refine bq_callSi (As := [.int _]) S hK hD hA hP hS (cX9_isSheet_k hq1) hd_yX9_isSheet ml_X9_252 st_yX9_isSheet ⟨rfl, rfl⟩ ⟨by decide, by decide⟩ rfl hl.1 rfl (Nat.le_of_ble_eq_true rfl) ⟨Nat.zero_le _, Nat.zero_le _⟩ dX9_sheet_1 (fun H locs hP hS => ?_)
  refine lv_if_eq (tgt := 20) hx hb dX9_sheet_4 (by decide) (fun c4 => ?_) (fun c4 => ?_)
  · replace h := (if_pos c4).symm.trans h
    refine lv_iconst (v := (-1 : Int32)) hx hb dX9_sheet_20 (by decide) ?_
    obtain ⟨e1, e2⟩ := Prod.mk.inj (hret _ h)
    exact hR _ _ _ _ _ (congrArg some e1) rfl (by rw [e2]; exact hP) hS dX9_sheet_21
  · replace h := (if_neg c4).symm.trans h
    refine lv_iload_n hx hb dX9_sheet_7 rfl (lv_at hl 2 rfl) ?_
    obtain ⟨q5, hq5, h⟩ := Option.bind_eq_some_iff.mp h
    obtain ⟨v7, x6⟩ := q5
    replace h := un2_e h
    refine bq_callSi (As := [.int _]) S hK hD hA hP hS (cX9_isLane_k hq5) hd_yX9_isLane ml_X9_255 st_yX9_isLane ⟨rfl, rfl⟩ ⟨by decide, by decide⟩ rfl hl.1 rfl (Nat.le_of_ble_eq_true rfl) ⟨Nat.zero_le _, Nat.zero_le _⟩ dX9_sheet_8 (fun H locs hP hS => ?_)
    refine lv_if_eq (tgt := 20) hx hb dX9_sheet_11 (by decide) (fun c8 => ?_) (fun c8 => ?_)
    · replace h := (if_pos c8).symm.trans h
      refine lv_iconst (v := (-1 : Int32)) hx hb dX9_sheet_20 (by decide) ?_
      obtain ⟨e1, e2⟩ := Prod.mk.inj (hret _ h)
      exact hR _ _ _ _ _ (congrArg some e1) rfl (by rw [e2]; exact hP) hS dX9_sheet_21
    · replace h := (if_neg c8).symm.trans h
      refine lv_iload_n hx hb dX9_sheet_14 rfl (lv_at hl 3 rfl) ?_
      refine lv_bipush (v := (16 : Int32)) hx hb dX9_sheet_15 (by decide) ?_
      refine lv_icmp_le (tgt := 22) hx hb dX9_sheet_17 (by decide) (fun c9 => ?_) (fun c9 => ?_)
      · replace h := (if_pos c9).symm.trans h
        refine lv_iload_n hx hb dX9_sheet_22 rfl (lv_at hl 3 rfl) ?_
        refine lv_if_ge (tgt := 29) hx hb dX9_sheet_23 (by decide) (fun c10 => ?_) (fun c10 => ?_)
        · replace h := (if_pos c10).symm.trans h
          refine lv_aload_n hx hb dX9_sheet_29 rfl (lv_at hl 0 rfl) ?_
          refine bq_get (q0 := 0) S hK hP fl_X9_70_X9_9 rfl rfl rfl dX9_sheet_30 ?_
          refine lv_iload_n hx hb dX9_sheet_33 rfl (lv_at hl 1 rfl) ?_
          obtain ⟨g11, h⟩ := bq_gd h
          refine va_aldq (D := D) hx hb hK hP 33 3 rfl rfl g11 dX9_sheet_34 ?_
          rw [hkp1]
          try rw [hkp1] at h
          refine W.eq (g2 := F0 m 35 ls [.ref (a 34)]) rfl ?_
          refine lv_iload_n hx hb dX9_sheet_35 rfl (lv_at hl 2 rfl) ?_
          refine lv_iload_n hx hb dX9_sheet_36 rfl (lv_at hl 3 rfl) ?_
          obtain ⟨x13, hq12, h⟩ := Option.bind_eq_some_iff.mp h
          refine bq_callVv (q0 := 34) (As := [.int _, .int _]) S hK hD hA hP hS (cX6_begin_k_34 hq12) hd_yX6_begin ml_X9_258 in_yX6_begin sl_X6_X6_yX6_begin ⟨rfl, rfl⟩ ⟨by decide, by decide⟩ rfl rfl rfl hl.1 rfl (Nat.le_of_ble_eq_true rfl) ⟨Nat.zero_le _, Nat.zero_le _⟩ dX9_sheet_37 (fun H locs hP hS => ?_)
          refine lv_iload_n hx hb dX9_sheet_40 rfl (lv_at hl 3 rfl) ?_
          obtain ⟨e1, e2⟩ := Prod.mk.inj (hret _ h)
          exact hR _ _ _ _ _ (congrArg some e1) rfl (by rw [e2]; exact hP) hS dX9_sheet_41
        · replace h := (if_neg c10).symm.trans h
          refine lv_bipush (v := (-14 : Int32)) hx hb dX9_sheet_26 (by decide) ?_
          obtain ⟨e1, e2⟩ := Prod.mk.inj (hret _ h)
          exact hR _ _ _ _ _ (congrArg some e1) rfl (by rw [e2]; exact hP) hS dX9_sheet_28
      · replace h := (if_neg c9).symm.trans h
        refine lv_iconst (v := (-1 : Int32)) hx hb dX9_sheet_20 (by decide) ?_
        obtain ⟨e1, e2⟩ := Prod.mk.inj (hret _ h)
        exact hR _ _ _ _ _ (congrArg some e1) rfl (by rw [e2]; exact hP) hS dX9_sheet_21
set_option maxHeartbeats 4000000 in
set_option maxRecDepth 100000 in
theorem cJ7_fill_d0a16_k_37 {l : Launch} {D : va_G} {a : Nat → Nat} {k : Nat → ClassId} {n : Nat} {p1 : Int64} {x0 xz : bq_S} (h : fJ7_fill_d0a16 n 37 16 p1 x0 = some xz) : bq_M l D bq_cl (bq_ty k) (bq_wC a k) yJ7_fill_d0a16 cJ7_fill_d0a16 5 none { frames := 0, cells := 0, slots := 0, locals := 0 } [.ref (a 37), .long p1] x0 none xz := by
  refine bq_ofWv RJ7 [(0, .ref (a 37)), (1, .long p1)] (by decide +kernel) rfl (Nat.le_of_ble_eq_true rfl) rfl (bq_adC a k) ?_
  intro p e s m below meth c A Q ls S hK hD hA hR hS hP hl
  have hx := S.1; have hb := S.2.1; have hml := S.2.2.1; have hown := S.2.2.2.1; have hts := S.2.2.2.2
  have hret : ∀ z, some z = some xz → xz = z := fun z h => (Option.some.inj h).symm
  unfold fJ7_fill_d0a16 at h
  refine lv_iconst (v := (0 : Int32)) hx hb dJ7_fill_d0a16_0 (by decide) ?_
  refine lv_istore_n (lv' := [(3, .int (0 : Int32)), (0, .ref (a 37)), (1, .long p1)]) hx hb dJ7_fill_d0a16_1 rfl hl (by decide) rfl (fun ls hl => ?_)
  refine lv_aload_n hx hb dJ7_fill_d0a16_2 rfl (lv_at hl 1 rfl) ?_
  refine va_alen (D := D) (v := (16 : Int32)) hx hb hK hP 37 1 rfl rfl rfl dJ7_fill_d0a16_3 ?_
  refine lv_topi (fun v1 hv1 => ?_)
  replace h := bq_bv h hv1
  refine lv_istore (lv' := [(4, .int v1), (3, .int (0 : Int32)), (0, .ref (a 37)), (1, .long p1)]) hx hb dJ7_fill_d0a16_4 hl (by decide) rfl (fun ls hl => ?_)
  have hl6 : ∀ (v4 : Int64) (v6 : Int32) (kf : Nat) (v5 : Int32) (x7 : bq_S) (eo : Int32 × bq_S) (H : Heap) (locs : List Loc) (ls : Array Slot), wh kf (fJ7_fill_d0a16_b6 n 37 16 v4 v6) (v5, x7) = some eo → va_P D bq_cl (bq_wC a k x7) H → va_S A s.heap H locs → lv_has ls 5 [(0, .ref (a 37)), (1, .long v4), (3, .int v5), (4, .int v6)] → (∀ (H : Heap) (locs : List Loc) (ls : Array Slot) (v13 : Int32) (x14 : bq_S), eo = (v13, x14) → va_P D bq_cl (bq_wC a k x14) H → va_S A s.heap H locs → lv_has ls 5 [] → W p l e { frames := 0, cells := 0, slots := 0, locals := 0 } s m [.ref (a 37), .long p1].toArray below meth c H locs 0 0 Q (F0 m 22 ls [])) → W p l e { frames := 0, cells := 0, slots := 0, locals := 0 } s m [.ref (a 37), .long p1].toArray below meth c H locs 0 0 Q (F0 m 6 ls []) := by
    intro v4 v6 kf
    induction kf with
    | zero => intro v5 x7 eo H locs ls h; cases h
    | succ kf ih =>
      intro v5 x7 eo H locs ls h hP hS hl kx
      obtain ⟨out, h, hw⟩ := wh_s h
      unfold fJ7_fill_d0a16_b6 at h
      replace h := un2_e h
      refine lv_iload_n hx hb dJ7_fill_d0a16_6 rfl (lv_at hl 2 rfl) ?_
      refine lv_iload hx hb dJ7_fill_d0a16_7 (lv_at hl 3 rfl) ?_
      refine lv_icmp_ge (tgt := 22) hx hb dJ7_fill_d0a16_9 (by decide) (fun c8 => ?_) (fun c8 => ?_)
      · replace h := (if_pos c8).symm.trans h
        cases h
        exact kx _ _ _ _ _ (Option.some.inj hw).symm hP hS (lv_sub hl [] rfl)
      · replace h := (if_neg c8).symm.trans h
        refine lv_aload_n hx hb dJ7_fill_d0a16_12 rfl (lv_at hl 0 rfl) ?_
        refine lv_iload_n hx hb dJ7_fill_d0a16_13 rfl (lv_at hl 2 rfl) ?_
        refine lv_lload_n hx hb dJ7_fill_d0a16_14 rfl (lv_at hl 1 rfl) ?_
        obtain ⟨g10, h⟩ := bq_gd h
        obtain ⟨x9, hx9, h⟩ := bq_b h
        refine bq_last (x1 := x9) (q0 := 37) (t0 := 1) S hK hD hP hS rfl rfl g10 (by rw [hx9]; rfl) dJ7_fill_d0a16_15 (fun H locs hP hS => ?_)
        obtain ⟨v11, hv11, h⟩ := bq_b h
        refine lv_iinc (v := v11) (lv' := [(3, .int v11), (0, .ref (a 37)), (1, .long v4), (4, .int v6)]) hx hb dJ7_fill_d0a16_16 hl (k := 2) rfl (by rw [hv11]; rfl) (by decide) rfl (fun ls hl => ?_)
        refine lv_goto (tgt := 6) hx hb dJ7_fill_d0a16_19 (by decide) ?_
        cases h
        exact ih _ _ _ _ _ _ hw hP hS (lv_sub hl [1, 2, 0, 3] rfl) kx
  obtain ⟨e12, he12, h⟩ := Option.bind_eq_some_iff.mp h
  refine hl6 _ _ n _ _ e12 _ _ _ he12 hP hS (lv_sub hl [2, 3, 1, 0] rfl) (fun H locs ls v13 x14 hz hP hS hl => ?_)
  subst hz
  replace h := un2_e h
  have e2 := hret _ h
  exact hR _ _ _ _ rfl (by rw [e2]; exact hP) hS dJ7_fill_d0a16_22
set_option maxHeartbeats 4000000 in
set_option maxRecDepth 100000 in
theorem cX6_begin_k_36 {l : Launch} {D : va_G} {a : Nat → Nat} {k : Nat → ClassId} {n : Nat} {p1 : Int32} {p2 : Int32} {x0 xz : bq_S} (h : fX6_begin n 36 p1 p2 x0 = some xz) : bq_M l D bq_cl (bq_ty k) (bq_wC a k) yX6_begin cX6_begin 3 none { frames := 1, cells := 0, slots := 0, locals := 24 } [.ref (a 36), .int p1, .int p2] x0 none xz := by
  refine bq_ofWv RX6 [(0, .ref (a 36)), (1, .int p1), (2, .int p2)] (by decide +kernel) rfl (Nat.le_of_ble_eq_true rfl) rfl (bq_adC a k) ?_
  intro p e s m below meth c A Q ls S hK hD hA hR hS hP hl
  have hx := S.1; have hb := S.2.1; have hml := S.2.2.1; have hown := S.2.2.2.1; have hts := S.2.2.2.2
  have hret : ∀ z, some z = some xz → xz = z := fun z h => (Option.some.inj h).symm
  unfold fX6_begin at h
  refine lv_aload_n hx hb dX6_begin_0 rfl (lv_at hl 0 rfl) ?_
  refine bq_get (q0 := 36) S hK hP fl_X6_9_X6_0 rfl rfl rfl dX6_begin_1 ?_
  refine lv_lconst (v := (0 : Int64)) hx hb dX6_begin_4 (by decide) ?_
  obtain ⟨x2, hq1, h⟩ := Option.bind_eq_some_iff.mp h
  refine bq_callSv (As := [.ref (a 37), .long _]) S hK hD hA hP hS (cJ7_fill_d0a16_k_37 hq1) hd_yJ7_fill_d0a16 ml_X6_22 st_yJ7_fill_d0a16 ⟨rfl, rfl⟩ ⟨by decide, by decide⟩ rfl hl.1 rfl (Nat.le_of_ble_eq_true rfl) ⟨Nat.zero_le _, Nat.zero_le _⟩ dX6_begin_5 (fun H locs hP hS => ?_)
  refine lv_aload_n hx hb dX6_begin_8 rfl (lv_at hl 0 rfl) ?_
  refine lv_iload_n hx hb dX6_begin_9 rfl (lv_at hl 1 rfl) ?_
  obtain ⟨x3, hx3, h⟩ := bq_b h
  refine bq_put (x1 := x3) (q0 := 36) (ty := .int) S hK hD hP hS fl_X6_15_X6_1 bt_X6 rfl (by decide +kernel) rfl rfl (Nat.le_of_ble_eq_true rfl) rfl rfl (by rw [hx3]; rfl) dX6_begin_10 (fun H locs hP hS => ?_)
  refine lv_aload_n hx hb dX6_begin_13 rfl (lv_at hl 0 rfl) ?_
  refine lv_iload_n hx hb dX6_begin_14 rfl (lv_at hl 2 rfl) ?_
  obtain ⟨x4, hx4, h⟩ := bq_b h
  refine bq_put (x1 := x4) (q0 := 36) (ty := .int) S hK hD hP hS fl_X6_19_X6_2 bt_X6 rfl (by decide +kernel) rfl rfl (Nat.le_of_ble_eq_true rfl) rfl rfl (by rw [hx4]; rfl) dX6_begin_15 (fun H locs hP hS => ?_)
  have e2 := hret _ h
  exact hR _ _ _ _ rfl (by rw [e2]; exact hP) hS dX6_begin_18
set_option maxHeartbeats 4000000 in
set_option maxRecDepth 100000 in
theorem cX9_sheet_k_0_s1 {l : Launch} {D : va_G} {a : Nat → Nat} {k : Nat → ClassId} {n : Nat} {p1 : Int32} {p2 : Int32} {p3 : Int32} {x0 xz : bq_S} {rz : Int32} (hkp1 : p1.toNatClampNeg = 1) (h : fX9_sheet n p1 p2 p3 x0 = some (rz, xz)) : bq_M l D bq_cl (bq_ty k) (bq_wC a k) yX9_sheet cX9_sheet 4 (some .int) { frames := 2, cells := 0, slots := 0, locals := 46 } [.ref (a 0), .int p1, .int p2, .int p3] x0 (some rz) xz := by
  refine bq_ofW RX9 [(0, .ref (a 0)), (1, .int p1), (2, .int p2), (3, .int p3)] (by decide +kernel) rfl (Nat.le_of_ble_eq_true rfl) rfl (bq_adC a k) ?_
  intro p e s m below meth c A Q ls S hK hD hA hR hS hP hl
  have hx := S.1; have hb := S.2.1; have hml := S.2.2.1; have hown := S.2.2.2.1; have hts := S.2.2.2.2
  have hret : ∀ z, some z = some (rz, xz) → (rz, xz) = z := fun z h => (Option.some.inj h).symm
  unfold fX9_sheet at h
  refine lv_iload_n hx hb dX9_sheet_0 rfl (lv_at hl 1 rfl) ?_
  obtain ⟨q1, hq1, h⟩ := Option.bind_eq_some_iff.mp h
  obtain ⟨v3, x2⟩ := q1
  replace h := un2_e h
  refine bq_callSi (As := [.int _]) S hK hD hA hP hS (cX9_isSheet_k hq1) hd_yX9_isSheet ml_X9_252 st_yX9_isSheet ⟨rfl, rfl⟩ ⟨by decide, by decide⟩ rfl hl.1 rfl (Nat.le_of_ble_eq_true rfl) ⟨Nat.zero_le _, Nat.zero_le _⟩ dX9_sheet_1 (fun H locs hP hS => ?_)
  refine lv_if_eq (tgt := 20) hx hb dX9_sheet_4 (by decide) (fun c4 => ?_) (fun c4 => ?_)
  · replace h := (if_pos c4).symm.trans h
    refine lv_iconst (v := (-1 : Int32)) hx hb dX9_sheet_20 (by decide) ?_
    obtain ⟨e1, e2⟩ := Prod.mk.inj (hret _ h)
    exact hR _ _ _ _ _ (congrArg some e1) rfl (by rw [e2]; exact hP) hS dX9_sheet_21
  · replace h := (if_neg c4).symm.trans h
    refine lv_iload_n hx hb dX9_sheet_7 rfl (lv_at hl 2 rfl) ?_
    obtain ⟨q5, hq5, h⟩ := Option.bind_eq_some_iff.mp h
    obtain ⟨v7, x6⟩ := q5
    replace h := un2_e h
    refine bq_callSi (As := [.int _]) S hK hD hA hP hS (cX9_isLane_k hq5) hd_yX9_isLane ml_X9_255 st_yX9_isLane ⟨rfl, rfl⟩ ⟨by decide, by decide⟩ rfl hl.1 rfl (Nat.le_of_ble_eq_true rfl) ⟨Nat.zero_le _, Nat.zero_le _⟩ dX9_sheet_8 (fun H locs hP hS => ?_)
    refine lv_if_eq (tgt := 20) hx hb dX9_sheet_11 (by decide) (fun c8 => ?_) (fun c8 => ?_)
    · replace h := (if_pos c8).symm.trans h
      refine lv_iconst (v := (-1 : Int32)) hx hb dX9_sheet_20 (by decide) ?_
      obtain ⟨e1, e2⟩ := Prod.mk.inj (hret _ h)
      exact hR _ _ _ _ _ (congrArg some e1) rfl (by rw [e2]; exact hP) hS dX9_sheet_21
    · replace h := (if_neg c8).symm.trans h
      refine lv_iload_n hx hb dX9_sheet_14 rfl (lv_at hl 3 rfl) ?_
      refine lv_bipush (v := (16 : Int32)) hx hb dX9_sheet_15 (by decide) ?_
      refine lv_icmp_le (tgt := 22) hx hb dX9_sheet_17 (by decide) (fun c9 => ?_) (fun c9 => ?_)
      · replace h := (if_pos c9).symm.trans h
        refine lv_iload_n hx hb dX9_sheet_22 rfl (lv_at hl 3 rfl) ?_
        refine lv_if_ge (tgt := 29) hx hb dX9_sheet_23 (by decide) (fun c10 => ?_) (fun c10 => ?_)
        · replace h := (if_pos c10).symm.trans h
          refine lv_aload_n hx hb dX9_sheet_29 rfl (lv_at hl 0 rfl) ?_
          refine bq_get (q0 := 0) S hK hP fl_X9_70_X9_9 rfl rfl rfl dX9_sheet_30 ?_
          refine lv_iload_n hx hb dX9_sheet_33 rfl (lv_at hl 1 rfl) ?_
          obtain ⟨g11, h⟩ := bq_gd h
          refine va_aldq (D := D) hx hb hK hP 33 3 rfl rfl g11 dX9_sheet_34 ?_
          rw [hkp1]
          try rw [hkp1] at h
          refine W.eq (g2 := F0 m 35 ls [.ref (a 36)]) rfl ?_
          refine lv_iload_n hx hb dX9_sheet_35 rfl (lv_at hl 2 rfl) ?_
          refine lv_iload_n hx hb dX9_sheet_36 rfl (lv_at hl 3 rfl) ?_
          obtain ⟨x13, hq12, h⟩ := Option.bind_eq_some_iff.mp h
          refine bq_callVv (q0 := 36) (As := [.int _, .int _]) S hK hD hA hP hS (cX6_begin_k_36 hq12) hd_yX6_begin ml_X9_258 in_yX6_begin sl_X6_X6_yX6_begin ⟨rfl, rfl⟩ ⟨by decide, by decide⟩ rfl rfl rfl hl.1 rfl (Nat.le_of_ble_eq_true rfl) ⟨Nat.zero_le _, Nat.zero_le _⟩ dX9_sheet_37 (fun H locs hP hS => ?_)
          refine lv_iload_n hx hb dX9_sheet_40 rfl (lv_at hl 3 rfl) ?_
          obtain ⟨e1, e2⟩ := Prod.mk.inj (hret _ h)
          exact hR _ _ _ _ _ (congrArg some e1) rfl (by rw [e2]; exact hP) hS dX9_sheet_41
        · replace h := (if_neg c10).symm.trans h
          refine lv_bipush (v := (-14 : Int32)) hx hb dX9_sheet_26 (by decide) ?_
          obtain ⟨e1, e2⟩ := Prod.mk.inj (hret _ h)
          exact hR _ _ _ _ _ (congrArg some e1) rfl (by rw [e2]; exact hP) hS dX9_sheet_28
      · replace h := (if_neg c9).symm.trans h
        refine lv_iconst (v := (-1 : Int32)) hx hb dX9_sheet_20 (by decide) ?_
        obtain ⟨e1, e2⟩ := Prod.mk.inj (hret _ h)
        exact hR _ _ _ _ _ (congrArg some e1) rfl (by rw [e2]; exact hP) hS dX9_sheet_21
set_option maxHeartbeats 4000000 in
set_option maxRecDepth 100000 in
theorem cJ7_fill_d0a16_k_39 {l : Launch} {D : va_G} {a : Nat → Nat} {k : Nat → ClassId} {n : Nat} {p1 : Int64} {x0 xz : bq_S} (h : fJ7_fill_d0a16 n 39 16 p1 x0 = some xz) : bq_M l D bq_cl (bq_ty k) (bq_wC a k) yJ7_fill_d0a16 cJ7_fill_d0a16 5 none { frames := 0, cells := 0, slots := 0, locals := 0 } [.ref (a 39), .long p1] x0 none xz := by
  refine bq_ofWv RJ7 [(0, .ref (a 39)), (1, .long p1)] (by decide +kernel) rfl (Nat.le_of_ble_eq_true rfl) rfl (bq_adC a k) ?_
  intro p e s m below meth c A Q ls S hK hD hA hR hS hP hl
  have hx := S.1; have hb := S.2.1; have hml := S.2.2.1; have hown := S.2.2.2.1; have hts := S.2.2.2.2
  have hret : ∀ z, some z = some xz → xz = z := fun z h => (Option.some.inj h).symm
  unfold fJ7_fill_d0a16 at h
  refine lv_iconst (v := (0 : Int32)) hx hb dJ7_fill_d0a16_0 (by decide) ?_
  refine lv_istore_n (lv' := [(3, .int (0 : Int32)), (0, .ref (a 39)), (1, .long p1)]) hx hb dJ7_fill_d0a16_1 rfl hl (by decide) rfl (fun ls hl => ?_)
  refine lv_aload_n hx hb dJ7_fill_d0a16_2 rfl (lv_at hl 1 rfl) ?_
  refine va_alen (D := D) (v := (16 : Int32)) hx hb hK hP 39 1 rfl rfl rfl dJ7_fill_d0a16_3 ?_
  refine lv_topi (fun v1 hv1 => ?_)
  replace h := bq_bv h hv1
  refine lv_istore (lv' := [(4, .int v1), (3, .int (0 : Int32)), (0, .ref (a 39)), (1, .long p1)]) hx hb dJ7_fill_d0a16_4 hl (by decide) rfl (fun ls hl => ?_)
  have hl6 : ∀ (v4 : Int64) (v6 : Int32) (kf : Nat) (v5 : Int32) (x7 : bq_S) (eo : Int32 × bq_S) (H : Heap) (locs : List Loc) (ls : Array Slot), wh kf (fJ7_fill_d0a16_b6 n 39 16 v4 v6) (v5, x7) = some eo → va_P D bq_cl (bq_wC a k x7) H → va_S A s.heap H locs → lv_has ls 5 [(0, .ref (a 39)), (1, .long v4), (3, .int v5), (4, .int v6)] → (∀ (H : Heap) (locs : List Loc) (ls : Array Slot) (v13 : Int32) (x14 : bq_S), eo = (v13, x14) → va_P D bq_cl (bq_wC a k x14) H → va_S A s.heap H locs → lv_has ls 5 [] → W p l e { frames := 0, cells := 0, slots := 0, locals := 0 } s m [.ref (a 39), .long p1].toArray below meth c H locs 0 0 Q (F0 m 22 ls [])) → W p l e { frames := 0, cells := 0, slots := 0, locals := 0 } s m [.ref (a 39), .long p1].toArray below meth c H locs 0 0 Q (F0 m 6 ls []) := by
    intro v4 v6 kf
    induction kf with
    | zero => intro v5 x7 eo H locs ls h; cases h
    | succ kf ih =>
      intro v5 x7 eo H locs ls h hP hS hl kx
      obtain ⟨out, h, hw⟩ := wh_s h
      unfold fJ7_fill_d0a16_b6 at h
      replace h := un2_e h
      refine lv_iload_n hx hb dJ7_fill_d0a16_6 rfl (lv_at hl 2 rfl) ?_
      refine lv_iload hx hb dJ7_fill_d0a16_7 (lv_at hl 3 rfl) ?_
      refine lv_icmp_ge (tgt := 22) hx hb dJ7_fill_d0a16_9 (by decide) (fun c8 => ?_) (fun c8 => ?_)
      · replace h := (if_pos c8).symm.trans h
        cases h
        exact kx _ _ _ _ _ (Option.some.inj hw).symm hP hS (lv_sub hl [] rfl)
      · replace h := (if_neg c8).symm.trans h
        refine lv_aload_n hx hb dJ7_fill_d0a16_12 rfl (lv_at hl 0 rfl) ?_
        refine lv_iload_n hx hb dJ7_fill_d0a16_13 rfl (lv_at hl 2 rfl) ?_
        refine lv_lload_n hx hb dJ7_fill_d0a16_14 rfl (lv_at hl 1 rfl) ?_
        obtain ⟨g10, h⟩ := bq_gd h
        obtain ⟨x9, hx9, h⟩ := bq_b h
        refine bq_last (x1 := x9) (q0 := 39) (t0 := 1) S hK hD hP hS rfl rfl g10 (by rw [hx9]; rfl) dJ7_fill_d0a16_15 (fun H locs hP hS => ?_)
        obtain ⟨v11, hv11, h⟩ := bq_b h
        refine lv_iinc (v := v11) (lv' := [(3, .int v11), (0, .ref (a 39)), (1, .long v4), (4, .int v6)]) hx hb dJ7_fill_d0a16_16 hl (k := 2) rfl (by rw [hv11]; rfl) (by decide) rfl (fun ls hl => ?_)
        refine lv_goto (tgt := 6) hx hb dJ7_fill_d0a16_19 (by decide) ?_
        cases h
        exact ih _ _ _ _ _ _ hw hP hS (lv_sub hl [1, 2, 0, 3] rfl) kx
  obtain ⟨e12, he12, h⟩ := Option.bind_eq_some_iff.mp h
  refine hl6 _ _ n _ _ e12 _ _ _ he12 hP hS (lv_sub hl [2, 3, 1, 0] rfl) (fun H locs ls v13 x14 hz hP hS hl => ?_)
  subst hz
  replace h := un2_e h
  have e2 := hret _ h
  exact hR _ _ _ _ rfl (by rw [e2]; exact hP) hS dJ7_fill_d0a16_22
set_option maxHeartbeats 4000000 in
set_option maxRecDepth 100000 in
theorem cX6_begin_k_38 {l : Launch} {D : va_G} {a : Nat → Nat} {k : Nat → ClassId} {n : Nat} {p1 : Int32} {p2 : Int32} {x0 xz : bq_S} (h : fX6_begin n 38 p1 p2 x0 = some xz) : bq_M l D bq_cl (bq_ty k) (bq_wC a k) yX6_begin cX6_begin 3 none { frames := 1, cells := 0, slots := 0, locals := 24 } [.ref (a 38), .int p1, .int p2] x0 none xz := by
  refine bq_ofWv RX6 [(0, .ref (a 38)), (1, .int p1), (2, .int p2)] (by decide +kernel) rfl (Nat.le_of_ble_eq_true rfl) rfl (bq_adC a k) ?_
  intro p e s m below meth c A Q ls S hK hD hA hR hS hP hl
  have hx := S.1; have hb := S.2.1; have hml := S.2.2.1; have hown := S.2.2.2.1; have hts := S.2.2.2.2
  have hret : ∀ z, some z = some xz → xz = z := fun z h => (Option.some.inj h).symm
  unfold fX6_begin at h
  refine lv_aload_n hx hb dX6_begin_0 rfl (lv_at hl 0 rfl) ?_
  refine bq_get (q0 := 38) S hK hP fl_X6_9_X6_0 rfl rfl rfl dX6_begin_1 ?_
  refine lv_lconst (v := (0 : Int64)) hx hb dX6_begin_4 (by decide) ?_
  obtain ⟨x2, hq1, h⟩ := Option.bind_eq_some_iff.mp h
  refine bq_callSv (As := [.ref (a 39), .long _]) S hK hD hA hP hS (cJ7_fill_d0a16_k_39 hq1) hd_yJ7_fill_d0a16 ml_X6_22 st_yJ7_fill_d0a16 ⟨rfl, rfl⟩ ⟨by decide, by decide⟩ rfl hl.1 rfl (Nat.le_of_ble_eq_true rfl) ⟨Nat.zero_le _, Nat.zero_le _⟩ dX6_begin_5 (fun H locs hP hS => ?_)
  refine lv_aload_n hx hb dX6_begin_8 rfl (lv_at hl 0 rfl) ?_
  refine lv_iload_n hx hb dX6_begin_9 rfl (lv_at hl 1 rfl) ?_
  obtain ⟨x3, hx3, h⟩ := bq_b h
  refine bq_put (x1 := x3) (q0 := 38) (ty := .int) S hK hD hP hS fl_X6_15_X6_1 bt_X6 rfl (by decide +kernel) rfl rfl (Nat.le_of_ble_eq_true rfl) rfl rfl (by rw [hx3]; rfl) dX6_begin_10 (fun H locs hP hS => ?_)
  refine lv_aload_n hx hb dX6_begin_13 rfl (lv_at hl 0 rfl) ?_
  refine lv_iload_n hx hb dX6_begin_14 rfl (lv_at hl 2 rfl) ?_
  obtain ⟨x4, hx4, h⟩ := bq_b h
  refine bq_put (x1 := x4) (q0 := 38) (ty := .int) S hK hD hP hS fl_X6_19_X6_2 bt_X6 rfl (by decide +kernel) rfl rfl (Nat.le_of_ble_eq_true rfl) rfl rfl (by rw [hx4]; rfl) dX6_begin_15 (fun H locs hP hS => ?_)
  have e2 := hret _ h
  exact hR _ _ _ _ rfl (by rw [e2]; exact hP) hS dX6_begin_18
set_option maxHeartbeats 4000000 in
set_option maxRecDepth 100000 in
theorem cX9_sheet_k_0_s2 {l : Launch} {D : va_G} {a : Nat → Nat} {k : Nat → ClassId} {n : Nat} {p1 : Int32} {p2 : Int32} {p3 : Int32} {x0 xz : bq_S} {rz : Int32} (hkp1 : p1.toNatClampNeg = 2) (h : fX9_sheet n p1 p2 p3 x0 = some (rz, xz)) : bq_M l D bq_cl (bq_ty k) (bq_wC a k) yX9_sheet cX9_sheet 4 (some .int) { frames := 2, cells := 0, slots := 0, locals := 46 } [.ref (a 0), .int p1, .int p2, .int p3] x0 (some rz) xz := by
  refine bq_ofW RX9 [(0, .ref (a 0)), (1, .int p1), (2, .int p2), (3, .int p3)] (by decide +kernel) rfl (Nat.le_of_ble_eq_true rfl) rfl (bq_adC a k) ?_
  intro p e s m below meth c A Q ls S hK hD hA hR hS hP hl
  have hx := S.1; have hb := S.2.1; have hml := S.2.2.1; have hown := S.2.2.2.1; have hts := S.2.2.2.2
  have hret : ∀ z, some z = some (rz, xz) → (rz, xz) = z := fun z h => (Option.some.inj h).symm
  unfold fX9_sheet at h
  refine lv_iload_n hx hb dX9_sheet_0 rfl (lv_at hl 1 rfl) ?_
  obtain ⟨q1, hq1, h⟩ := Option.bind_eq_some_iff.mp h
  obtain ⟨v3, x2⟩ := q1
  replace h := un2_e h
  refine bq_callSi (As := [.int _]) S hK hD hA hP hS (cX9_isSheet_k hq1) hd_yX9_isSheet ml_X9_252 st_yX9_isSheet ⟨rfl, rfl⟩ ⟨by decide, by decide⟩ rfl hl.1 rfl (Nat.le_of_ble_eq_true rfl) ⟨Nat.zero_le _, Nat.zero_le _⟩ dX9_sheet_1 (fun H locs hP hS => ?_)
  refine lv_if_eq (tgt := 20) hx hb dX9_sheet_4 (by decide) (fun c4 => ?_) (fun c4 => ?_)
  · replace h := (if_pos c4).symm.trans h
    refine lv_iconst (v := (-1 : Int32)) hx hb dX9_sheet_20 (by decide) ?_
    obtain ⟨e1, e2⟩ := Prod.mk.inj (hret _ h)
    exact hR _ _ _ _ _ (congrArg some e1) rfl (by rw [e2]; exact hP) hS dX9_sheet_21
  · replace h := (if_neg c4).symm.trans h
    refine lv_iload_n hx hb dX9_sheet_7 rfl (lv_at hl 2 rfl) ?_
    obtain ⟨q5, hq5, h⟩ := Option.bind_eq_some_iff.mp h
    obtain ⟨v7, x6⟩ := q5
    replace h := un2_e h
    refine bq_callSi (As := [.int _]) S hK hD hA hP hS (cX9_isLane_k hq5) hd_yX9_isLane ml_X9_255 st_yX9_isLane ⟨rfl, rfl⟩ ⟨by decide, by decide⟩ rfl hl.1 rfl (Nat.le_of_ble_eq_true rfl) ⟨Nat.zero_le _, Nat.zero_le _⟩ dX9_sheet_8 (fun H locs hP hS => ?_)
    refine lv_if_eq (tgt := 20) hx hb dX9_sheet_11 (by decide) (fun c8 => ?_) (fun c8 => ?_)
    · replace h := (if_pos c8).symm.trans h
      refine lv_iconst (v := (-1 : Int32)) hx hb dX9_sheet_20 (by decide) ?_
      obtain ⟨e1, e2⟩ := Prod.mk.inj (hret _ h)
      exact hR _ _ _ _ _ (congrArg some e1) rfl (by rw [e2]; exact hP) hS dX9_sheet_21
    · replace h := (if_neg c8).symm.trans h
      refine lv_iload_n hx hb dX9_sheet_14 rfl (lv_at hl 3 rfl) ?_
      refine lv_bipush (v := (16 : Int32)) hx hb dX9_sheet_15 (by decide) ?_
      refine lv_icmp_le (tgt := 22) hx hb dX9_sheet_17 (by decide) (fun c9 => ?_) (fun c9 => ?_)
      · replace h := (if_pos c9).symm.trans h
        refine lv_iload_n hx hb dX9_sheet_22 rfl (lv_at hl 3 rfl) ?_
        refine lv_if_ge (tgt := 29) hx hb dX9_sheet_23 (by decide) (fun c10 => ?_) (fun c10 => ?_)
        · replace h := (if_pos c10).symm.trans h
          refine lv_aload_n hx hb dX9_sheet_29 rfl (lv_at hl 0 rfl) ?_
          refine bq_get (q0 := 0) S hK hP fl_X9_70_X9_9 rfl rfl rfl dX9_sheet_30 ?_
          refine lv_iload_n hx hb dX9_sheet_33 rfl (lv_at hl 1 rfl) ?_
          obtain ⟨g11, h⟩ := bq_gd h
          refine va_aldq (D := D) hx hb hK hP 33 3 rfl rfl g11 dX9_sheet_34 ?_
          rw [hkp1]
          try rw [hkp1] at h
          refine W.eq (g2 := F0 m 35 ls [.ref (a 38)]) rfl ?_
          refine lv_iload_n hx hb dX9_sheet_35 rfl (lv_at hl 2 rfl) ?_
          refine lv_iload_n hx hb dX9_sheet_36 rfl (lv_at hl 3 rfl) ?_
          obtain ⟨x13, hq12, h⟩ := Option.bind_eq_some_iff.mp h
          refine bq_callVv (q0 := 38) (As := [.int _, .int _]) S hK hD hA hP hS (cX6_begin_k_38 hq12) hd_yX6_begin ml_X9_258 in_yX6_begin sl_X6_X6_yX6_begin ⟨rfl, rfl⟩ ⟨by decide, by decide⟩ rfl rfl rfl hl.1 rfl (Nat.le_of_ble_eq_true rfl) ⟨Nat.zero_le _, Nat.zero_le _⟩ dX9_sheet_37 (fun H locs hP hS => ?_)
          refine lv_iload_n hx hb dX9_sheet_40 rfl (lv_at hl 3 rfl) ?_
          obtain ⟨e1, e2⟩ := Prod.mk.inj (hret _ h)
          exact hR _ _ _ _ _ (congrArg some e1) rfl (by rw [e2]; exact hP) hS dX9_sheet_41
        · replace h := (if_neg c10).symm.trans h
          refine lv_bipush (v := (-14 : Int32)) hx hb dX9_sheet_26 (by decide) ?_
          obtain ⟨e1, e2⟩ := Prod.mk.inj (hret _ h)
          exact hR _ _ _ _ _ (congrArg some e1) rfl (by rw [e2]; exact hP) hS dX9_sheet_28
      · replace h := (if_neg c9).symm.trans h
        refine lv_iconst (v := (-1 : Int32)) hx hb dX9_sheet_20 (by decide) ?_
        obtain ⟨e1, e2⟩ := Prod.mk.inj (hret _ h)
        exact hR _ _ _ _ _ (congrArg some e1) rfl (by rw [e2]; exact hP) hS dX9_sheet_21
set_option maxHeartbeats 4000000 in
set_option maxRecDepth 100000 in
theorem cJ7_fill_d0a16_k_41 {l : Launch} {D : va_G} {a : Nat → Nat} {k : Nat → ClassId} {n : Nat} {p1 : Int64} {x0 xz : bq_S} (h : fJ7_fill_d0a16 n 41 16 p1 x0 = some xz) : bq_M l D bq_cl (bq_ty k) (bq_wC a k) yJ7_fill_d0a16 cJ7_fill_d0a16 5 none { frames := 0, cells := 0, slots := 0, locals := 0 } [.ref (a 41), .long p1] x0 none xz := by
  refine bq_ofWv RJ7 [(0, .ref (a 41)), (1, .long p1)] (by decide +kernel) rfl (Nat.le_of_ble_eq_true rfl) rfl (bq_adC a k) ?_
  intro p e s m below meth c A Q ls S hK hD hA hR hS hP hl
  have hx := S.1; have hb := S.2.1; have hml := S.2.2.1; have hown := S.2.2.2.1; have hts := S.2.2.2.2
  have hret : ∀ z, some z = some xz → xz = z := fun z h => (Option.some.inj h).symm
  unfold fJ7_fill_d0a16 at h
  refine lv_iconst (v := (0 : Int32)) hx hb dJ7_fill_d0a16_0 (by decide) ?_
  refine lv_istore_n (lv' := [(3, .int (0 : Int32)), (0, .ref (a 41)), (1, .long p1)]) hx hb dJ7_fill_d0a16_1 rfl hl (by decide) rfl (fun ls hl => ?_)
  refine lv_aload_n hx hb dJ7_fill_d0a16_2 rfl (lv_at hl 1 rfl) ?_
  refine va_alen (D := D) (v := (16 : Int32)) hx hb hK hP 41 1 rfl rfl rfl dJ7_fill_d0a16_3 ?_
  refine lv_topi (fun v1 hv1 => ?_)
  replace h := bq_bv h hv1
  refine lv_istore (lv' := [(4, .int v1), (3, .int (0 : Int32)), (0, .ref (a 41)), (1, .long p1)]) hx hb dJ7_fill_d0a16_4 hl (by decide) rfl (fun ls hl => ?_)
  have hl6 : ∀ (v4 : Int64) (v6 : Int32) (kf : Nat) (v5 : Int32) (x7 : bq_S) (eo : Int32 × bq_S) (H : Heap) (locs : List Loc) (ls : Array Slot), wh kf (fJ7_fill_d0a16_b6 n 41 16 v4 v6) (v5, x7) = some eo → va_P D bq_cl (bq_wC a k x7) H → va_S A s.heap H locs → lv_has ls 5 [(0, .ref (a 41)), (1, .long v4), (3, .int v5), (4, .int v6)] → (∀ (H : Heap) (locs : List Loc) (ls : Array Slot) (v13 : Int32) (x14 : bq_S), eo = (v13, x14) → va_P D bq_cl (bq_wC a k x14) H → va_S A s.heap H locs → lv_has ls 5 [] → W p l e { frames := 0, cells := 0, slots := 0, locals := 0 } s m [.ref (a 41), .long p1].toArray below meth c H locs 0 0 Q (F0 m 22 ls [])) → W p l e { frames := 0, cells := 0, slots := 0, locals := 0 } s m [.ref (a 41), .long p1].toArray below meth c H locs 0 0 Q (F0 m 6 ls []) := by
    intro v4 v6 kf
    induction kf with
    | zero => intro v5 x7 eo H locs ls h; cases h
    | succ kf ih =>
      intro v5 x7 eo H locs ls h hP hS hl kx
      obtain ⟨out, h, hw⟩ := wh_s h
      unfold fJ7_fill_d0a16_b6 at h
      replace h := un2_e h
      refine lv_iload_n hx hb dJ7_fill_d0a16_6 rfl (lv_at hl 2 rfl) ?_
      refine lv_iload hx hb dJ7_fill_d0a16_7 (lv_at hl 3 rfl) ?_
      refine lv_icmp_ge (tgt := 22) hx hb dJ7_fill_d0a16_9 (by decide) (fun c8 => ?_) (fun c8 => ?_)
      · replace h := (if_pos c8).symm.trans h
        cases h
        exact kx _ _ _ _ _ (Option.some.inj hw).symm hP hS (lv_sub hl [] rfl)
      · replace h := (if_neg c8).symm.trans h
        refine lv_aload_n hx hb dJ7_fill_d0a16_12 rfl (lv_at hl 0 rfl) ?_
        refine lv_iload_n hx hb dJ7_fill_d0a16_13 rfl (lv_at hl 2 rfl) ?_
        refine lv_lload_n hx hb dJ7_fill_d0a16_14 rfl (lv_at hl 1 rfl) ?_
        obtain ⟨g10, h⟩ := bq_gd h
        obtain ⟨x9, hx9, h⟩ := bq_b h
        refine bq_last (x1 := x9) (q0 := 41) (t0 := 1) S hK hD hP hS rfl rfl g10 (by rw [hx9]; rfl) dJ7_fill_d0a16_15 (fun H locs hP hS => ?_)
        obtain ⟨v11, hv11, h⟩ := bq_b h
        refine lv_iinc (v := v11) (lv' := [(3, .int v11), (0, .ref (a 41)), (1, .long v4), (4, .int v6)]) hx hb dJ7_fill_d0a16_16 hl (k := 2) rfl (by rw [hv11]; rfl) (by decide) rfl (fun ls hl => ?_)
        refine lv_goto (tgt := 6) hx hb dJ7_fill_d0a16_19 (by decide) ?_
        cases h
        exact ih _ _ _ _ _ _ hw hP hS (lv_sub hl [1, 2, 0, 3] rfl) kx
  obtain ⟨e12, he12, h⟩ := Option.bind_eq_some_iff.mp h
  refine hl6 _ _ n _ _ e12 _ _ _ he12 hP hS (lv_sub hl [2, 3, 1, 0] rfl) (fun H locs ls v13 x14 hz hP hS hl => ?_)
  subst hz
  replace h := un2_e h
  have e2 := hret _ h
  exact hR _ _ _ _ rfl (by rw [e2]; exact hP) hS dJ7_fill_d0a16_22
set_option maxHeartbeats 4000000 in
set_option maxRecDepth 100000 in
theorem cX6_begin_k_40 {l : Launch} {D : va_G} {a : Nat → Nat} {k : Nat → ClassId} {n : Nat} {p1 : Int32} {p2 : Int32} {x0 xz : bq_S} (h : fX6_begin n 40 p1 p2 x0 = some xz) : bq_M l D bq_cl (bq_ty k) (bq_wC a k) yX6_begin cX6_begin 3 none { frames := 1, cells := 0, slots := 0, locals := 24 } [.ref (a 40), .int p1, .int p2] x0 none xz := by
  refine bq_ofWv RX6 [(0, .ref (a 40)), (1, .int p1), (2, .int p2)] (by decide +kernel) rfl (Nat.le_of_ble_eq_true rfl) rfl (bq_adC a k) ?_
  intro p e s m below meth c A Q ls S hK hD hA hR hS hP hl
  have hx := S.1; have hb := S.2.1; have hml := S.2.2.1; have hown := S.2.2.2.1; have hts := S.2.2.2.2
  have hret : ∀ z, some z = some xz → xz = z := fun z h => (Option.some.inj h).symm
  unfold fX6_begin at h
  refine lv_aload_n hx hb dX6_begin_0 rfl (lv_at hl 0 rfl) ?_
  refine bq_get (q0 := 40) S hK hP fl_X6_9_X6_0 rfl rfl rfl dX6_begin_1 ?_
  refine lv_lconst (v := (0 : Int64)) hx hb dX6_begin_4 (by decide) ?_
  obtain ⟨x2, hq1, h⟩ := Option.bind_eq_some_iff.mp h
  refine bq_callSv (As := [.ref (a 41), .long _]) S hK hD hA hP hS (cJ7_fill_d0a16_k_41 hq1) hd_yJ7_fill_d0a16 ml_X6_22 st_yJ7_fill_d0a16 ⟨rfl, rfl⟩ ⟨by decide, by decide⟩ rfl hl.1 rfl (Nat.le_of_ble_eq_true rfl) ⟨Nat.zero_le _, Nat.zero_le _⟩ dX6_begin_5 (fun H locs hP hS => ?_)
  refine lv_aload_n hx hb dX6_begin_8 rfl (lv_at hl 0 rfl) ?_
  refine lv_iload_n hx hb dX6_begin_9 rfl (lv_at hl 1 rfl) ?_
  obtain ⟨x3, hx3, h⟩ := bq_b h
  refine bq_put (x1 := x3) (q0 := 40) (ty := .int) S hK hD hP hS fl_X6_15_X6_1 bt_X6 rfl (by decide +kernel) rfl rfl (Nat.le_of_ble_eq_true rfl) rfl rfl (by rw [hx3]; rfl) dX6_begin_10 (fun H locs hP hS => ?_)
  refine lv_aload_n hx hb dX6_begin_13 rfl (lv_at hl 0 rfl) ?_
  refine lv_iload_n hx hb dX6_begin_14 rfl (lv_at hl 2 rfl) ?_
  obtain ⟨x4, hx4, h⟩ := bq_b h
  refine bq_put (x1 := x4) (q0 := 40) (ty := .int) S hK hD hP hS fl_X6_19_X6_2 bt_X6 rfl (by decide +kernel) rfl rfl (Nat.le_of_ble_eq_true rfl) rfl rfl (by rw [hx4]; rfl) dX6_begin_15 (fun H locs hP hS => ?_)
  have e2 := hret _ h
  exact hR _ _ _ _ rfl (by rw [e2]; exact hP) hS dX6_begin_18
set_option maxHeartbeats 4000000 in
set_option maxRecDepth 100000 in
theorem cX9_sheet_k_0_s3 {l : Launch} {D : va_G} {a : Nat → Nat} {k : Nat → ClassId} {n : Nat} {p1 : Int32} {p2 : Int32} {p3 : Int32} {x0 xz : bq_S} {rz : Int32} (hkp1 : p1.toNatClampNeg = 3) (h : fX9_sheet n p1 p2 p3 x0 = some (rz, xz)) : bq_M l D bq_cl (bq_ty k) (bq_wC a k) yX9_sheet cX9_sheet 4 (some .int) { frames := 2, cells := 0, slots := 0, locals := 46 } [.ref (a 0), .int p1, .int p2, .int p3] x0 (some rz) xz := by
  refine bq_ofW RX9 [(0, .ref (a 0)), (1, .int p1), (2, .int p2), (3, .int p3)] (by decide +kernel) rfl (Nat.le_of_ble_eq_true rfl) rfl (bq_adC a k) ?_
  intro p e s m below meth c A Q ls S hK hD hA hR hS hP hl
  have hx := S.1; have hb := S.2.1; have hml := S.2.2.1; have hown := S.2.2.2.1; have hts := S.2.2.2.2
  have hret : ∀ z, some z = some (rz, xz) → (rz, xz) = z := fun z h => (Option.some.inj h).symm
  unfold fX9_sheet at h
  refine lv_iload_n hx hb dX9_sheet_0 rfl (lv_at hl 1 rfl) ?_
  obtain ⟨q1, hq1, h⟩ := Option.bind_eq_some_iff.mp h
  obtain ⟨v3, x2⟩ := q1
  replace h := un2_e h
  refine bq_callSi (As := [.int _]) S hK hD hA hP hS (cX9_isSheet_k hq1) hd_yX9_isSheet ml_X9_252 st_yX9_isSheet ⟨rfl, rfl⟩ ⟨by decide, by decide⟩ rfl hl.1 rfl (Nat.le_of_ble_eq_true rfl) ⟨Nat.zero_le _, Nat.zero_le _⟩ dX9_sheet_1 (fun H locs hP hS => ?_)
  refine lv_if_eq (tgt := 20) hx hb dX9_sheet_4 (by decide) (fun c4 => ?_) (fun c4 => ?_)
  · replace h := (if_pos c4).symm.trans h
    refine lv_iconst (v := (-1 : Int32)) hx hb dX9_sheet_20 (by decide) ?_
    obtain ⟨e1, e2⟩ := Prod.mk.inj (hret _ h)
    exact hR _ _ _ _ _ (congrArg some e1) rfl (by rw [e2]; exact hP) hS dX9_sheet_21
  · replace h := (if_neg c4).symm.trans h
    refine lv_iload_n hx hb dX9_sheet_7 rfl (lv_at hl 2 rfl) ?_
    obtain ⟨q5, hq5, h⟩ := Option.bind_eq_some_iff.mp h
    obtain ⟨v7, x6⟩ := q5
    replace h := un2_e h
    refine bq_callSi (As := [.int _]) S hK hD hA hP hS (cX9_isLane_k hq5) hd_yX9_isLane ml_X9_255 st_yX9_isLane ⟨rfl, rfl⟩ ⟨by decide, by decide⟩ rfl hl.1 rfl (Nat.le_of_ble_eq_true rfl) ⟨Nat.zero_le _, Nat.zero_le _⟩ dX9_sheet_8 (fun H locs hP hS => ?_)
    refine lv_if_eq (tgt := 20) hx hb dX9_sheet_11 (by decide) (fun c8 => ?_) (fun c8 => ?_)
    · replace h := (if_pos c8).symm.trans h
      refine lv_iconst (v := (-1 : Int32)) hx hb dX9_sheet_20 (by decide) ?_
      obtain ⟨e1, e2⟩ := Prod.mk.inj (hret _ h)
      exact hR _ _ _ _ _ (congrArg some e1) rfl (by rw [e2]; exact hP) hS dX9_sheet_21
    · replace h := (if_neg c8).symm.trans h
      refine lv_iload_n hx hb dX9_sheet_14 rfl (lv_at hl 3 rfl) ?_
      refine lv_bipush (v := (16 : Int32)) hx hb dX9_sheet_15 (by decide) ?_
      refine lv_icmp_le (tgt := 22) hx hb dX9_sheet_17 (by decide) (fun c9 => ?_) (fun c9 => ?_)
      · replace h := (if_pos c9).symm.trans h
        refine lv_iload_n hx hb dX9_sheet_22 rfl (lv_at hl 3 rfl) ?_
        refine lv_if_ge (tgt := 29) hx hb dX9_sheet_23 (by decide) (fun c10 => ?_) (fun c10 => ?_)
        · replace h := (if_pos c10).symm.trans h
          refine lv_aload_n hx hb dX9_sheet_29 rfl (lv_at hl 0 rfl) ?_
          refine bq_get (q0 := 0) S hK hP fl_X9_70_X9_9 rfl rfl rfl dX9_sheet_30 ?_
          refine lv_iload_n hx hb dX9_sheet_33 rfl (lv_at hl 1 rfl) ?_
          obtain ⟨g11, h⟩ := bq_gd h
          refine va_aldq (D := D) hx hb hK hP 33 3 rfl rfl g11 dX9_sheet_34 ?_
          rw [hkp1]
          try rw [hkp1] at h
          refine W.eq (g2 := F0 m 35 ls [.ref (a 40)]) rfl ?_
          refine lv_iload_n hx hb dX9_sheet_35 rfl (lv_at hl 2 rfl) ?_
          refine lv_iload_n hx hb dX9_sheet_36 rfl (lv_at hl 3 rfl) ?_
          obtain ⟨x13, hq12, h⟩ := Option.bind_eq_some_iff.mp h
          refine bq_callVv (q0 := 40) (As := [.int _, .int _]) S hK hD hA hP hS (cX6_begin_k_40 hq12) hd_yX6_begin ml_X9_258 in_yX6_begin sl_X6_X6_yX6_begin ⟨rfl, rfl⟩ ⟨by decide, by decide⟩ rfl rfl rfl hl.1 rfl (Nat.le_of_ble_eq_true rfl) ⟨Nat.zero_le _, Nat.zero_le _⟩ dX9_sheet_37 (fun H locs hP hS => ?_)
          refine lv_iload_n hx hb dX9_sheet_40 rfl (lv_at hl 3 rfl) ?_
          obtain ⟨e1, e2⟩ := Prod.mk.inj (hret _ h)
          exact hR _ _ _ _ _ (congrArg some e1) rfl (by rw [e2]; exact hP) hS dX9_sheet_41
        · replace h := (if_neg c10).symm.trans h
          refine lv_bipush (v := (-14 : Int32)) hx hb dX9_sheet_26 (by decide) ?_
          obtain ⟨e1, e2⟩ := Prod.mk.inj (hret _ h)
          exact hR _ _ _ _ _ (congrArg some e1) rfl (by rw [e2]; exact hP) hS dX9_sheet_28
      · replace h := (if_neg c9).symm.trans h
        refine lv_iconst (v := (-1 : Int32)) hx hb dX9_sheet_20 (by decide) ?_
        obtain ⟨e1, e2⟩ := Prod.mk.inj (hret _ h)
        exact hR _ _ _ _ _ (congrArg some e1) rfl (by rw [e2]; exact hP) hS dX9_sheet_21
set_option maxHeartbeats 4000000 in
set_option maxRecDepth 100000 in
theorem cX9_sheet_k_0_sb {l : Launch} {D : va_G} {a : Nat → Nat} {k : Nat → ClassId} {n : Nat} {p1 : Int32} {p2 : Int32} {p3 : Int32} {x0 xz : bq_S} {rz : Int32} (hkp1 : ¬ p1.toNatClampNeg < 4) (h : fX9_sheet n p1 p2 p3 x0 = some (rz, xz)) : bq_M l D bq_cl (bq_ty k) (bq_wC a k) yX9_sheet cX9_sheet 4 (some .int) { frames := 2, cells := 0, slots := 0, locals := 46 } [.ref (a 0), .int p1, .int p2, .int p3] x0 (some rz) xz := by
  refine bq_ofW RX9 [(0, .ref (a 0)), (1, .int p1), (2, .int p2), (3, .int p3)] (by decide +kernel) rfl (Nat.le_of_ble_eq_true rfl) rfl (bq_adC a k) ?_
  intro p e s m below meth c A Q ls S hK hD hA hR hS hP hl
  have hx := S.1; have hb := S.2.1; have hml := S.2.2.1; have hown := S.2.2.2.1; have hts := S.2.2.2.2
  have hret : ∀ z, some z = some (rz, xz) → (rz, xz) = z := fun z h => (Option.some.inj h).symm
  unfold fX9_sheet at h
  refine lv_iload_n hx hb dX9_sheet_0 rfl (lv_at hl 1 rfl) ?_
  obtain ⟨q1, hq1, h⟩ := Option.bind_eq_some_iff.mp h
  obtain ⟨v3, x2⟩ := q1
  replace h := un2_e h
  refine bq_callSi (As := [.int _]) S hK hD hA hP hS (cX9_isSheet_k hq1) hd_yX9_isSheet ml_X9_252 st_yX9_isSheet ⟨rfl, rfl⟩ ⟨by decide, by decide⟩ rfl hl.1 rfl (Nat.le_of_ble_eq_true rfl) ⟨Nat.zero_le _, Nat.zero_le _⟩ dX9_sheet_1 (fun H locs hP hS => ?_)
  refine lv_if_eq (tgt := 20) hx hb dX9_sheet_4 (by decide) (fun c4 => ?_) (fun c4 => ?_)
  · replace h := (if_pos c4).symm.trans h
    refine lv_iconst (v := (-1 : Int32)) hx hb dX9_sheet_20 (by decide) ?_
    obtain ⟨e1, e2⟩ := Prod.mk.inj (hret _ h)
    exact hR _ _ _ _ _ (congrArg some e1) rfl (by rw [e2]; exact hP) hS dX9_sheet_21
  · replace h := (if_neg c4).symm.trans h
    refine lv_iload_n hx hb dX9_sheet_7 rfl (lv_at hl 2 rfl) ?_
    obtain ⟨q5, hq5, h⟩ := Option.bind_eq_some_iff.mp h
    obtain ⟨v7, x6⟩ := q5
    replace h := un2_e h
    refine bq_callSi (As := [.int _]) S hK hD hA hP hS (cX9_isLane_k hq5) hd_yX9_isLane ml_X9_255 st_yX9_isLane ⟨rfl, rfl⟩ ⟨by decide, by decide⟩ rfl hl.1 rfl (Nat.le_of_ble_eq_true rfl) ⟨Nat.zero_le _, Nat.zero_le _⟩ dX9_sheet_8 (fun H locs hP hS => ?_)
    refine lv_if_eq (tgt := 20) hx hb dX9_sheet_11 (by decide) (fun c8 => ?_) (fun c8 => ?_)
    · replace h := (if_pos c8).symm.trans h
      refine lv_iconst (v := (-1 : Int32)) hx hb dX9_sheet_20 (by decide) ?_
      obtain ⟨e1, e2⟩ := Prod.mk.inj (hret _ h)
      exact hR _ _ _ _ _ (congrArg some e1) rfl (by rw [e2]; exact hP) hS dX9_sheet_21
    · replace h := (if_neg c8).symm.trans h
      refine lv_iload_n hx hb dX9_sheet_14 rfl (lv_at hl 3 rfl) ?_
      refine lv_bipush (v := (16 : Int32)) hx hb dX9_sheet_15 (by decide) ?_
      refine lv_icmp_le (tgt := 22) hx hb dX9_sheet_17 (by decide) (fun c9 => ?_) (fun c9 => ?_)
      · replace h := (if_pos c9).symm.trans h
        refine lv_iload_n hx hb dX9_sheet_22 rfl (lv_at hl 3 rfl) ?_
        refine lv_if_ge (tgt := 29) hx hb dX9_sheet_23 (by decide) (fun c10 => ?_) (fun c10 => ?_)
        · replace h := (if_pos c10).symm.trans h
          refine lv_aload_n hx hb dX9_sheet_29 rfl (lv_at hl 0 rfl) ?_
          refine bq_get (q0 := 0) S hK hP fl_X9_70_X9_9 rfl rfl rfl dX9_sheet_30 ?_
          refine lv_iload_n hx hb dX9_sheet_33 rfl (lv_at hl 1 rfl) ?_
          obtain ⟨g11, h⟩ := bq_gd h
          exact absurd (bq_lt g11) hkp1
        · replace h := (if_neg c10).symm.trans h
          refine lv_bipush (v := (-14 : Int32)) hx hb dX9_sheet_26 (by decide) ?_
          obtain ⟨e1, e2⟩ := Prod.mk.inj (hret _ h)
          exact hR _ _ _ _ _ (congrArg some e1) rfl (by rw [e2]; exact hP) hS dX9_sheet_28
      · replace h := (if_neg c9).symm.trans h
        refine lv_iconst (v := (-1 : Int32)) hx hb dX9_sheet_20 (by decide) ?_
        obtain ⟨e1, e2⟩ := Prod.mk.inj (hret _ h)
        exact hR _ _ _ _ _ (congrArg some e1) rfl (by rw [e2]; exact hP) hS dX9_sheet_21
theorem cX9_sheet_k_0 {l : Launch} {D : va_G} {a : Nat → Nat} {k : Nat → ClassId} {n : Nat} {p1 : Int32} {p2 : Int32} {p3 : Int32} {x0 xz : bq_S} {rz : Int32} (h : fX9_sheet n p1 p2 p3 x0 = some (rz, xz)) : bq_M l D bq_cl (bq_ty k) (bq_wC a k) yX9_sheet cX9_sheet 4 (some .int) { frames := 2, cells := 0, slots := 0, locals := 46 } [.ref (a 0), .int p1, .int p2, .int p3] x0 (some rz) xz := by
  by_cases k0 : p1.toNatClampNeg < 4
  · rcases (show p1.toNatClampNeg = 0 ∨ p1.toNatClampNeg = 1 ∨ p1.toNatClampNeg = 2 ∨ p1.toNatClampNeg = 3 by omega) with e0 | e0 | e0 | e0
    · skip
      exact cX9_sheet_k_0_s0 e0 h
    · skip
      exact cX9_sheet_k_0_s1 e0 h
    · skip
      exact cX9_sheet_k_0_s2 e0 h
    · skip
      exact cX9_sheet_k_0_s3 e0 h
  · skip
    exact cX9_sheet_k_0_sb k0 h
def fJ7_fill_b5 (n : Nat) (r2 : Nat) (lb3 : Nat) (v4 : Int32) (v6 : Int32) (v : Int32 × bq_S) : Option ((Int32 × bq_S) ⊕ (Int32 × bq_S)) :=
  un2 v (fun v5 x7 =>
  if v6 ≤ v5 then
  some (.inr (v5, x7))
  else
  if ok_i v5 lb3 then
  bd (bq_sI x7 r2 v5.toNatClampNeg v4) (fun x9 =>
  bd (v5 + (1 : Int32)) (fun v11 =>
  some (.inl (v11, x9))))
  else none)
def fJ7_fill (n : Nat) (q0 : Nat) (la0 : Nat) (p1 : Int32) (x0 : bq_S) : Option (bq_S) :=
  bd (Int32.ofNat la0) (fun v1 =>
  (wh n (fJ7_fill_b5 n q0 la0 p1 v1) ((0 : Int32), x0)).bind (fun e12 => un2 e12 (fun v13 x14 =>
  some x14)))
theorem dJ7_fill_53178_0 : decode cJ7_fill_53178 0 = .ok (.iconst 0, 1) := by decide +kernel
theorem dJ7_fill_53178_1 : decode cJ7_fill_53178 1 = .ok (.istore_n 2, 1) := by decide +kernel
theorem dJ7_fill_53178_2 : decode cJ7_fill_53178 2 = .ok (.aload_n 0, 1) := by decide +kernel
theorem dJ7_fill_53178_3 : decode cJ7_fill_53178 3 = .ok (.arraylength, 1) := by decide +kernel
theorem dJ7_fill_53178_4 : decode cJ7_fill_53178 4 = .ok (.istore_n 3, 1) := by decide +kernel
theorem dJ7_fill_53178_5 : decode cJ7_fill_53178 5 = .ok (.iload_n 2, 1) := by decide +kernel
theorem dJ7_fill_53178_6 : decode cJ7_fill_53178 6 = .ok (.iload_n 3, 1) := by decide +kernel
theorem dJ7_fill_53178_7 : decode cJ7_fill_53178 7 = .ok (.if_icmp .ge 13, 3) := by decide +kernel
theorem dJ7_fill_53178_10 : decode cJ7_fill_53178 10 = .ok (.aload_n 0, 1) := by decide +kernel
theorem dJ7_fill_53178_11 : decode cJ7_fill_53178 11 = .ok (.iload_n 2, 1) := by decide +kernel
theorem dJ7_fill_53178_12 : decode cJ7_fill_53178 12 = .ok (.iload_n 1, 1) := by decide +kernel
theorem dJ7_fill_53178_13 : decode cJ7_fill_53178 13 = .ok (.iastore, 1) := by decide +kernel
theorem dJ7_fill_53178_14 : decode cJ7_fill_53178 14 = .ok (.iinc 2 1, 3) := by decide +kernel
theorem dJ7_fill_53178_17 : decode cJ7_fill_53178 17 = .ok (.goto (-12), 3) := by decide +kernel
theorem dJ7_fill_53178_20 : decode cJ7_fill_53178 20 = .ok (.return_, 1) := by decide +kernel
set_option maxHeartbeats 4000000 in
set_option maxRecDepth 100000 in
theorem cJ7_fill_k_11 {l : Launch} {D : va_G} {a : Nat → Nat} {k : Nat → ClassId} {n : Nat} {p1 : Int32} {x0 xz : bq_S} (h : fJ7_fill n 11 8 p1 x0 = some xz) : bq_M l D bq_cl (bq_ty k) (bq_wC a k) yJ7_fill_53178 cJ7_fill_53178 4 none { frames := 0, cells := 0, slots := 0, locals := 0 } [.ref (a 11), .int p1] x0 none xz := by
  refine bq_ofWv RJ7 [(0, .ref (a 11)), (1, .int p1)] (by decide +kernel) rfl (Nat.le_of_ble_eq_true rfl) rfl (bq_adC a k) ?_
  intro p e s m below meth c A Q ls S hK hD hA hR hS hP hl
  have hx := S.1; have hb := S.2.1; have hml := S.2.2.1; have hown := S.2.2.2.1; have hts := S.2.2.2.2
  have hret : ∀ z, some z = some xz → xz = z := fun z h => (Option.some.inj h).symm
  unfold fJ7_fill at h
  refine lv_iconst (v := (0 : Int32)) hx hb dJ7_fill_53178_0 (by decide) ?_
  refine lv_istore_n (lv' := [(2, .int (0 : Int32)), (0, .ref (a 11)), (1, .int p1)]) hx hb dJ7_fill_53178_1 rfl hl (by decide) rfl (fun ls hl => ?_)
  refine lv_aload_n hx hb dJ7_fill_53178_2 rfl (lv_at hl 1 rfl) ?_
  refine va_alen (D := D) (v := (8 : Int32)) hx hb hK hP 11 0 rfl rfl rfl dJ7_fill_53178_3 ?_
  refine lv_topi (fun v1 hv1 => ?_)
  replace h := bq_bv h hv1
  refine lv_istore_n (lv' := [(3, .int v1), (2, .int (0 : Int32)), (0, .ref (a 11)), (1, .int p1)]) hx hb dJ7_fill_53178_4 rfl hl (by decide) rfl (fun ls hl => ?_)
  have hl5 : ∀ (v4 : Int32) (v6 : Int32) (kf : Nat) (v5 : Int32) (x7 : bq_S) (eo : Int32 × bq_S) (H : Heap) (locs : List Loc) (ls : Array Slot), wh kf (fJ7_fill_b5 n 11 8 v4 v6) (v5, x7) = some eo → va_P D bq_cl (bq_wC a k x7) H → va_S A s.heap H locs → lv_has ls 4 [(0, .ref (a 11)), (1, .int v4), (2, .int v5), (3, .int v6)] → (∀ (H : Heap) (locs : List Loc) (ls : Array Slot) (v13 : Int32) (x14 : bq_S), eo = (v13, x14) → va_P D bq_cl (bq_wC a k x14) H → va_S A s.heap H locs → lv_has ls 4 [] → W p l e { frames := 0, cells := 0, slots := 0, locals := 0 } s m [.ref (a 11), .int p1].toArray below meth c H locs 0 0 Q (F0 m 20 ls [])) → W p l e { frames := 0, cells := 0, slots := 0, locals := 0 } s m [.ref (a 11), .int p1].toArray below meth c H locs 0 0 Q (F0 m 5 ls []) := by
    intro v4 v6 kf
    induction kf with
    | zero => intro v5 x7 eo H locs ls h; cases h
    | succ kf ih =>
      intro v5 x7 eo H locs ls h hP hS hl kx
      obtain ⟨out, h, hw⟩ := wh_s h
      unfold fJ7_fill_b5 at h
      replace h := un2_e h
      refine lv_iload_n hx hb dJ7_fill_53178_5 rfl (lv_at hl 2 rfl) ?_
      refine lv_iload_n hx hb dJ7_fill_53178_6 rfl (lv_at hl 3 rfl) ?_
      refine lv_icmp_ge (tgt := 20) hx hb dJ7_fill_53178_7 (by decide) (fun c8 => ?_) (fun c8 => ?_)
      · replace h := (if_pos c8).symm.trans h
        cases h
        exact kx _ _ _ _ _ (Option.some.inj hw).symm hP hS (lv_sub hl [] rfl)
      · replace h := (if_neg c8).symm.trans h
        refine lv_aload_n hx hb dJ7_fill_53178_10 rfl (lv_at hl 0 rfl) ?_
        refine lv_iload_n hx hb dJ7_fill_53178_11 rfl (lv_at hl 2 rfl) ?_
        refine lv_iload_n hx hb dJ7_fill_53178_12 rfl (lv_at hl 1 rfl) ?_
        obtain ⟨g10, h⟩ := bq_gd h
        obtain ⟨x9, hx9, h⟩ := bq_b h
        refine bq_iast (x1 := x9) (q0 := 11) (t0 := 0) S hK hD hP hS rfl rfl g10 (by rw [hx9]; rfl) dJ7_fill_53178_13 (fun H locs hP hS => ?_)
        obtain ⟨v11, hv11, h⟩ := bq_b h
        refine lv_iinc (v := v11) (lv' := [(2, .int v11), (0, .ref (a 11)), (1, .int v4), (3, .int v6)]) hx hb dJ7_fill_53178_14 hl (k := 2) rfl (by rw [hv11]; rfl) (by decide) rfl (fun ls hl => ?_)
        refine lv_goto (tgt := 5) hx hb dJ7_fill_53178_17 (by decide) ?_
        cases h
        exact ih _ _ _ _ _ _ hw hP hS (lv_sub hl [1, 2, 0, 3] rfl) kx
  obtain ⟨e12, he12, h⟩ := Option.bind_eq_some_iff.mp h
  refine hl5 _ _ n _ _ e12 _ _ _ he12 hP hS (lv_sub hl [2, 3, 1, 0] rfl) (fun H locs ls v13 x14 hz hP hS hl => ?_)
  subst hz
  replace h := un2_e h
  have e2 := hret _ h
  exact hR _ _ _ _ rfl (by rw [e2]; exact hP) hS dJ7_fill_53178_20
set_option maxHeartbeats 4000000 in
set_option maxRecDepth 100000 in
theorem cX4_isBook_k_8 {l : Launch} {D : va_G} {a : Nat → Nat} {k : Nat → ClassId} {p1 : Int64} {x0 xz : bq_S} {rz : Int32} (h : fX4_isBook  8 p1 x0 = some (rz, xz)) : bq_M l D bq_cl (bq_ty k) (bq_wC a k) yX4_isBook cX4_isBook 3 (some .boolean) { frames := 0, cells := 0, slots := 0, locals := 0 } [.ref (a 8), .long p1] x0 (some rz) xz := by
  refine bq_ofW RX4 [(0, .ref (a 8)), (1, .long p1)] (by decide +kernel) rfl (Nat.le_of_ble_eq_true rfl) rfl (bq_adC a k) ?_
  intro p e s m below meth c A Q ls S hK hD hA hR hS hP hl
  have hx := S.1; have hb := S.2.1; have hml := S.2.2.1; have hown := S.2.2.2.1; have hts := S.2.2.2.2
  have hret : ∀ z, some z = some (rz, xz) → (rz, xz) = z := fun z h => (Option.some.inj h).symm
  unfold fX4_isBook at h
  refine lv_lload_n hx hb dX4_isBook_0 rfl (lv_at hl 1 rfl) ?_
  refine lv_lconst (v := (0 : Int64)) hx hb dX4_isBook_1 (by decide) ?_
  refine W.lcmp hx hb dX4_isBook_2 ?_
  refine lv_if_lt (tgt := 20) hx hb dX4_isBook_3 (by decide) (fun c1 => ?_) (fun c1 => ?_)
  · replace h := (if_pos c1).symm.trans h
    refine lv_iconst (v := (0 : Int32)) hx hb dX4_isBook_20 (by decide) ?_
    obtain ⟨e1, e2⟩ := Prod.mk.inj (hret _ h)
    exact hR _ _ _ _ _ (congrArg some e1) rfl (by rw [e2]; exact hP) hS dX4_isBook_21
  · replace h := (if_neg c1).symm.trans h
    refine lv_lload_n hx hb dX4_isBook_6 rfl (lv_at hl 1 rfl) ?_
    refine lv_aload_n hx hb dX4_isBook_7 rfl (lv_at hl 0 rfl) ?_
    refine bq_get (q0 := 8) S hK hP fl_X4_9_X4_0 rfl rfl rfl dX4_isBook_8 ?_
    refine lv_i2l hx hb dX4_isBook_11 rfl ?_
    refine W.lcmp hx hb dX4_isBook_12 ?_
    refine lv_if_ge (tgt := 20) hx hb dX4_isBook_13 (by decide) (fun c2 => ?_) (fun c2 => ?_)
    · replace h := (if_pos c2).symm.trans h
      refine lv_iconst (v := (0 : Int32)) hx hb dX4_isBook_20 (by decide) ?_
      obtain ⟨e1, e2⟩ := Prod.mk.inj (hret _ h)
      exact hR _ _ _ _ _ (congrArg some e1) rfl (by rw [e2]; exact hP) hS dX4_isBook_21
    · replace h := (if_neg c2).symm.trans h
      refine lv_iconst (v := (1 : Int32)) hx hb dX4_isBook_16 (by decide) ?_
      refine lv_goto (tgt := 21) hx hb dX4_isBook_17 (by decide) ?_
      obtain ⟨e1, e2⟩ := Prod.mk.inj (hret _ h)
      exact hR _ _ _ _ _ (congrArg some e1) rfl (by rw [e2]; exact hP) hS dX4_isBook_21
set_option maxHeartbeats 4000000 in
set_option maxRecDepth 100000 in
theorem cX4_areTwo_k_8 {l : Launch} {D : va_G} {a : Nat → Nat} {k : Nat → ClassId} {p1 : Int32} {p2 : Int32} {x0 xz : bq_S} {rz : Int32} (h : fX4_areTwo  8 p1 p2 x0 = some (rz, xz)) : bq_M l D bq_cl (bq_ty k) (bq_wC a k) yX4_areTwo cX4_areTwo 3 (some .boolean) { frames := 1, cells := 0, slots := 0, locals := 22 } [.ref (a 8), .int p1, .int p2] x0 (some rz) xz := by
  refine bq_ofW RX4 [(0, .ref (a 8)), (1, .int p1), (2, .int p2)] (by decide +kernel) rfl (Nat.le_of_ble_eq_true rfl) rfl (bq_adC a k) ?_
  intro p e s m below meth c A Q ls S hK hD hA hR hS hP hl
  have hx := S.1; have hb := S.2.1; have hml := S.2.2.1; have hown := S.2.2.2.1; have hts := S.2.2.2.2
  have hret : ∀ z, some z = some (rz, xz) → (rz, xz) = z := fun z h => (Option.some.inj h).symm
  unfold fX4_areTwo at h
  refine lv_aload_n hx hb dX4_areTwo_0 rfl (lv_at hl 0 rfl) ?_
  refine lv_iload_n hx hb dX4_areTwo_1 rfl (lv_at hl 1 rfl) ?_
  refine lv_i2l hx hb dX4_areTwo_2 rfl ?_
  obtain ⟨q1, hq1, h⟩ := Option.bind_eq_some_iff.mp h
  obtain ⟨v3, x2⟩ := q1
  replace h := un2_e h
  refine bq_callVi (q0 := 8) (As := [.long _]) S hK hD hA hP hS (cX4_isBook_k_8 hq1) hd_yX4_isBook ml_X4_80 in_yX4_isBook sl_X4_X4_yX4_isBook ⟨rfl, rfl⟩ ⟨by decide, by decide⟩ rfl rfl rfl hl.1 rfl (Nat.le_of_ble_eq_true rfl) ⟨Nat.zero_le _, Nat.zero_le _⟩ dX4_areTwo_3 (fun H locs hP hS => ?_)
  refine lv_if_eq (tgt := 27) hx hb dX4_areTwo_6 (by decide) (fun c4 => ?_) (fun c4 => ?_)
  · replace h := (if_pos c4).symm.trans h
    refine lv_iconst (v := (0 : Int32)) hx hb dX4_areTwo_27 (by decide) ?_
    obtain ⟨e1, e2⟩ := Prod.mk.inj (hret _ h)
    exact hR _ _ _ _ _ (congrArg some e1) rfl (by rw [e2]; exact hP) hS dX4_areTwo_28
  · replace h := (if_neg c4).symm.trans h
    refine lv_aload_n hx hb dX4_areTwo_9 rfl (lv_at hl 0 rfl) ?_
    refine lv_iload_n hx hb dX4_areTwo_10 rfl (lv_at hl 2 rfl) ?_
    refine lv_i2l hx hb dX4_areTwo_11 rfl ?_
    obtain ⟨q5, hq5, h⟩ := Option.bind_eq_some_iff.mp h
    obtain ⟨v7, x6⟩ := q5
    replace h := un2_e h
    refine bq_callVi (q0 := 8) (As := [.long _]) S hK hD hA hP hS (cX4_isBook_k_8 hq5) hd_yX4_isBook ml_X4_80 in_yX4_isBook sl_X4_X4_yX4_isBook ⟨rfl, rfl⟩ ⟨by decide, by decide⟩ rfl rfl rfl hl.1 rfl (Nat.le_of_ble_eq_true rfl) ⟨Nat.zero_le _, Nat.zero_le _⟩ dX4_areTwo_12 (fun H locs hP hS => ?_)
    refine lv_if_eq (tgt := 27) hx hb dX4_areTwo_15 (by decide) (fun c8 => ?_) (fun c8 => ?_)
    · replace h := (if_pos c8).symm.trans h
      refine lv_iconst (v := (0 : Int32)) hx hb dX4_areTwo_27 (by decide) ?_
      obtain ⟨e1, e2⟩ := Prod.mk.inj (hret _ h)
      exact hR _ _ _ _ _ (congrArg some e1) rfl (by rw [e2]; exact hP) hS dX4_areTwo_28
    · replace h := (if_neg c8).symm.trans h
      refine lv_iload_n hx hb dX4_areTwo_18 rfl (lv_at hl 1 rfl) ?_
      refine lv_iload_n hx hb dX4_areTwo_19 rfl (lv_at hl 2 rfl) ?_
      refine lv_icmp_eq (tgt := 27) hx hb dX4_areTwo_20 (by decide) (fun c9 => ?_) (fun c9 => ?_)
      · replace h := (if_pos c9).symm.trans h
        refine lv_iconst (v := (0 : Int32)) hx hb dX4_areTwo_27 (by decide) ?_
        obtain ⟨e1, e2⟩ := Prod.mk.inj (hret _ h)
        exact hR _ _ _ _ _ (congrArg some e1) rfl (by rw [e2]; exact hP) hS dX4_areTwo_28
      · replace h := (if_neg c9).symm.trans h
        refine lv_iconst (v := (1 : Int32)) hx hb dX4_areTwo_23 (by decide) ?_
        refine lv_goto (tgt := 28) hx hb dX4_areTwo_24 (by decide) ?_
        obtain ⟨e1, e2⟩ := Prod.mk.inj (hret _ h)
        exact hR _ _ _ _ _ (congrArg some e1) rfl (by rw [e2]; exact hP) hS dX4_areTwo_28
set_option maxHeartbeats 4000000 in
set_option maxRecDepth 100000 in
theorem cX4_mayTouch_k_8 {l : Launch} {D : va_G} {a : Nat → Nat} {k : Nat → ClassId} {p1 : Int32} {p2 : Int32} {x0 xz : bq_S} {rz : Int32} (h : fX4_mayTouch  8 p1 p2 x0 = some (rz, xz)) : bq_M l D bq_cl (bq_ty k) (bq_wC a k) yX4_mayTouch cX4_mayTouch 3 (some .boolean) { frames := 1, cells := 0, slots := 0, locals := 21 } [.ref (a 8), .int p1, .int p2] x0 (some rz) xz := by
  refine bq_ofW RX4 [(0, .ref (a 8)), (1, .int p1), (2, .int p2)] (by decide +kernel) rfl (Nat.le_of_ble_eq_true rfl) rfl (bq_adC a k) ?_
  intro p e s m below meth c A Q ls S hK hD hA hR hS hP hl
  have hx := S.1; have hb := S.2.1; have hml := S.2.2.1; have hown := S.2.2.2.1; have hts := S.2.2.2.2
  have hret : ∀ z, some z = some (rz, xz) → (rz, xz) = z := fun z h => (Option.some.inj h).symm
  unfold fX4_mayTouch at h
  refine lv_aload_n hx hb dX4_mayTouch_0 rfl (lv_at hl 0 rfl) ?_
  refine bq_get (q0 := 8) S hK hP fl_X4_28_X4_5 rfl rfl rfl dX4_mayTouch_1 ?_
  refine lv_iload_n hx hb dX4_mayTouch_4 rfl (lv_at hl 1 rfl) ?_
  obtain ⟨g1, h⟩ := bq_gd h
  refine va_iald (D := D) hx hb hK hP 11 0 rfl rfl g1 dX4_mayTouch_5 ?_
  refine lv_iload_n hx hb dX4_mayTouch_6 rfl (lv_at hl 2 rfl) ?_
  obtain ⟨q2, hq2, h⟩ := Option.bind_eq_some_iff.mp h
  obtain ⟨v4, x3⟩ := q2
  replace h := un2_e h
  refine bq_callSNi (As := [.int _, .int _]) S hK hD hA hP hS (cX9_has_k hq2) hd_yX9_has mn_X4_62 st_yX9_has ⟨rfl, rfl⟩ ⟨by decide, by decide⟩ rfl hl.1 rfl (Nat.le_of_ble_eq_true rfl) ⟨Nat.zero_le _, Nat.zero_le _⟩ dX4_mayTouch_7 (fun H locs hP hS => ?_)
  refine lv_if_eq (tgt := 15) hx hb dX4_mayTouch_10 (by decide) (fun c5 => ?_) (fun c5 => ?_)
  · replace h := (if_pos c5).symm.trans h
    refine lv_aload_n hx hb dX4_mayTouch_15 rfl (lv_at hl 0 rfl) ?_
    refine bq_get (q0 := 8) S hK hP fl_X4_15_X4_1 rfl rfl rfl dX4_mayTouch_16 ?_
    refine lv_iload_n hx hb dX4_mayTouch_19 rfl (lv_at hl 1 rfl) ?_
    obtain ⟨q6, hq6, h⟩ := Option.bind_eq_some_iff.mp h
    obtain ⟨v8, x7⟩ := q6
    replace h := un2_e h
    refine bq_callSNi (As := [.int _, .int _]) S hK hD hA hP hS (cX9_has_k hq6) hd_yX9_has mn_X4_62 st_yX9_has ⟨rfl, rfl⟩ ⟨by decide, by decide⟩ rfl hl.1 rfl (Nat.le_of_ble_eq_true rfl) ⟨Nat.zero_le _, Nat.zero_le _⟩ dX4_mayTouch_20 (fun H locs hP hS => ?_)
    refine lv_if_ne (tgt := 37) hx hb dX4_mayTouch_23 (by decide) (fun c9 => ?_) (fun c9 => ?_)
    · replace h := (if_neg c9).symm.trans h
      refine lv_iconst (v := (1 : Int32)) hx hb dX4_mayTouch_37 (by decide) ?_
      obtain ⟨e1, e2⟩ := Prod.mk.inj (hret _ h)
      exact hR _ _ _ _ _ (congrArg some e1) rfl (by rw [e2]; exact hP) hS dX4_mayTouch_38
    · replace h := (if_pos c9).symm.trans h
      refine lv_aload_n hx hb dX4_mayTouch_26 rfl (lv_at hl 0 rfl) ?_
      refine bq_get (q0 := 8) S hK hP fl_X4_15_X4_1 rfl rfl rfl dX4_mayTouch_27 ?_
      refine lv_iload_n hx hb dX4_mayTouch_30 rfl (lv_at hl 2 rfl) ?_
      obtain ⟨q10, hq10, h⟩ := Option.bind_eq_some_iff.mp h
      obtain ⟨v12, x11⟩ := q10
      replace h := un2_e h
      refine bq_callSNi (As := [.int _, .int _]) S hK hD hA hP hS (cX9_has_k hq10) hd_yX9_has mn_X4_62 st_yX9_has ⟨rfl, rfl⟩ ⟨by decide, by decide⟩ rfl hl.1 rfl (Nat.le_of_ble_eq_true rfl) ⟨Nat.zero_le _, Nat.zero_le _⟩ dX4_mayTouch_31 (fun H locs hP hS => ?_)
      refine lv_if_eq (tgt := 39) hx hb dX4_mayTouch_34 (by decide) (fun c13 => ?_) (fun c13 => ?_)
      · replace h := (if_pos c13).symm.trans h
        refine lv_aload_n hx hb dX4_mayTouch_39 rfl (lv_at hl 0 rfl) ?_
        refine bq_get (q0 := 8) S hK hP fl_X4_25_X4_4 rfl rfl rfl dX4_mayTouch_40 ?_
        refine lv_iload_n hx hb dX4_mayTouch_43 rfl (lv_at hl 1 rfl) ?_
        obtain ⟨g14, h⟩ := bq_gd h
        refine va_iald (D := D) hx hb hK hP 10 0 rfl rfl g14 dX4_mayTouch_44 ?_
        refine lv_iload_n hx hb dX4_mayTouch_45 rfl (lv_at hl 2 rfl) ?_
        obtain ⟨q15, hq15, h⟩ := Option.bind_eq_some_iff.mp h
        obtain ⟨v17, x16⟩ := q15
        replace h := un2_e h
        refine bq_callSNi (As := [.int _, .int _]) S hK hD hA hP hS (cX9_has_k hq15) hd_yX9_has mn_X4_62 st_yX9_has ⟨rfl, rfl⟩ ⟨by decide, by decide⟩ rfl hl.1 rfl (Nat.le_of_ble_eq_true rfl) ⟨Nat.zero_le _, Nat.zero_le _⟩ dX4_mayTouch_46 (fun H locs hP hS => ?_)
        refine lv_if_ne (tgt := 65) hx hb dX4_mayTouch_49 (by decide) (fun c18 => ?_) (fun c18 => ?_)
        · replace h := (if_neg c18).symm.trans h
          refine lv_iconst (v := (1 : Int32)) hx hb dX4_mayTouch_65 (by decide) ?_
          obtain ⟨e1, e2⟩ := Prod.mk.inj (hret _ h)
          exact hR _ _ _ _ _ (congrArg some e1) rfl (by rw [e2]; exact hP) hS dX4_mayTouch_66
        · replace h := (if_pos c18).symm.trans h
          refine lv_aload_n hx hb dX4_mayTouch_52 rfl (lv_at hl 0 rfl) ?_
          refine bq_get (q0 := 8) S hK hP fl_X4_25_X4_4 rfl rfl rfl dX4_mayTouch_53 ?_
          refine lv_iload_n hx hb dX4_mayTouch_56 rfl (lv_at hl 2 rfl) ?_
          obtain ⟨g19, h⟩ := bq_gd h
          refine va_iald (D := D) hx hb hK hP 10 0 rfl rfl g19 dX4_mayTouch_57 ?_
          refine lv_iload_n hx hb dX4_mayTouch_58 rfl (lv_at hl 1 rfl) ?_
          obtain ⟨q20, hq20, h⟩ := Option.bind_eq_some_iff.mp h
          obtain ⟨v22, x21⟩ := q20
          replace h := un2_e h
          refine bq_callSNi (As := [.int _, .int _]) S hK hD hA hP hS (cX9_has_k hq20) hd_yX9_has mn_X4_62 st_yX9_has ⟨rfl, rfl⟩ ⟨by decide, by decide⟩ rfl hl.1 rfl (Nat.le_of_ble_eq_true rfl) ⟨Nat.zero_le _, Nat.zero_le _⟩ dX4_mayTouch_59 (fun H locs hP hS => ?_)
          refine lv_if_eq (tgt := 67) hx hb dX4_mayTouch_62 (by decide) (fun c23 => ?_) (fun c23 => ?_)
          · replace h := (if_pos c23).symm.trans h
            refine lv_aload_n hx hb dX4_mayTouch_67 rfl (lv_at hl 0 rfl) ?_
            refine bq_get (q0 := 8) S hK hP fl_X4_31_X4_6 rfl rfl rfl dX4_mayTouch_68 ?_
            refine lv_iconst (v := (1 : Int32)) hx hb dX4_mayTouch_71 (by decide) ?_
            refine va_iald (D := D) hx hb hK hP 12 0 rfl rfl (bq_inl rfl) dX4_mayTouch_72 ?_
            refine lv_iconst (v := (1 : Int32)) hx hb dX4_mayTouch_73 (by decide) ?_
            refine lv_icmp_ne (tgt := 97) hx hb dX4_mayTouch_74 (by decide) (fun c24 => ?_) (fun c24 => ?_)
            · replace h := (if_neg c24).symm.trans h
              refine lv_iconst (v := (0 : Int32)) hx hb dX4_mayTouch_97 (by decide) ?_
              obtain ⟨e1, e2⟩ := Prod.mk.inj (hret _ h)
              exact hR _ _ _ _ _ (congrArg some e1) rfl (by rw [e2]; exact hP) hS dX4_mayTouch_98
            · replace h := (if_pos c24).symm.trans h
              refine lv_aload_n hx hb dX4_mayTouch_77 rfl (lv_at hl 0 rfl) ?_
              refine bq_get (q0 := 8) S hK hP fl_X4_25_X4_4 rfl rfl rfl dX4_mayTouch_78 ?_
              refine lv_iload_n hx hb dX4_mayTouch_81 rfl (lv_at hl 1 rfl) ?_
              obtain ⟨g25, h⟩ := bq_gd h
              refine va_iald (D := D) hx hb hK hP 10 0 rfl rfl g25 dX4_mayTouch_82 ?_
              refine lv_aload_n hx hb dX4_mayTouch_83 rfl (lv_at hl 0 rfl) ?_
              refine bq_get (q0 := 8) S hK hP fl_X4_25_X4_4 rfl rfl rfl dX4_mayTouch_84 ?_
              refine lv_iload_n hx hb dX4_mayTouch_87 rfl (lv_at hl 2 rfl) ?_
              obtain ⟨g26, h⟩ := bq_gd h
              refine va_iald (D := D) hx hb hK hP 10 0 rfl rfl g26 dX4_mayTouch_88 ?_
              refine lv_iand hx hb dX4_mayTouch_89 ?_
              refine lv_if_eq (tgt := 97) hx hb dX4_mayTouch_90 (by decide) (fun c27 => ?_) (fun c27 => ?_)
              · replace h := (if_pos c27).symm.trans h
                refine lv_iconst (v := (0 : Int32)) hx hb dX4_mayTouch_97 (by decide) ?_
                obtain ⟨e1, e2⟩ := Prod.mk.inj (hret _ h)
                exact hR _ _ _ _ _ (congrArg some e1) rfl (by rw [e2]; exact hP) hS dX4_mayTouch_98
              · replace h := (if_neg c27).symm.trans h
                refine lv_iconst (v := (1 : Int32)) hx hb dX4_mayTouch_93 (by decide) ?_
                refine lv_goto (tgt := 98) hx hb dX4_mayTouch_94 (by decide) ?_
                obtain ⟨e1, e2⟩ := Prod.mk.inj (hret _ h)
                exact hR _ _ _ _ _ (congrArg some e1) rfl (by rw [e2]; exact hP) hS dX4_mayTouch_98
          · replace h := (if_neg c23).symm.trans h
            refine lv_iconst (v := (1 : Int32)) hx hb dX4_mayTouch_65 (by decide) ?_
            obtain ⟨e1, e2⟩ := Prod.mk.inj (hret _ h)
            exact hR _ _ _ _ _ (congrArg some e1) rfl (by rw [e2]; exact hP) hS dX4_mayTouch_66
      · replace h := (if_neg c13).symm.trans h
        refine lv_iconst (v := (1 : Int32)) hx hb dX4_mayTouch_37 (by decide) ?_
        obtain ⟨e1, e2⟩ := Prod.mk.inj (hret _ h)
        exact hR _ _ _ _ _ (congrArg some e1) rfl (by rw [e2]; exact hP) hS dX4_mayTouch_38
  · replace h := (if_neg c5).symm.trans h
    refine lv_iconst (v := (0 : Int32)) hx hb dX4_mayTouch_13 (by decide) ?_
    obtain ⟨e1, e2⟩ := Prod.mk.inj (hret _ h)
    exact hR _ _ _ _ _ (congrArg some e1) rfl (by rw [e2]; exact hP) hS dX4_mayTouch_14
set_option maxHeartbeats 4000000 in
set_option maxRecDepth 100000 in
theorem cX4_learnNear_k_8 {l : Launch} {D : va_G} {a : Nat → Nat} {k : Nat → ClassId} {n : Nat} {x0 xz : bq_S} (h : fX4_learnNear n 8 x0 = some xz) : bq_M l D bq_cl (bq_ty k) (bq_wC a k) yX4_learnNear cX4_learnNear 4 none { frames := 2, cells := 0, slots := 0, locals := 44 } [.ref (a 8)] x0 none xz := by
  refine bq_ofWv RX4 [(0, .ref (a 8))] (by decide +kernel) rfl (Nat.le_of_ble_eq_true rfl) rfl (bq_adC a k) ?_
  intro p e s m below meth c A Q ls S hK hD hA hR hS hP hl
  have hx := S.1; have hb := S.2.1; have hml := S.2.2.1; have hown := S.2.2.2.1; have hts := S.2.2.2.2
  have hret : ∀ z, some z = some xz → xz = z := fun z h => (Option.some.inj h).symm
  unfold fX4_learnNear at h
  refine lv_iconst (v := (0 : Int32)) hx hb dX4_learnNear_0 (by decide) ?_
  refine lv_istore_n (lv' := [(1, .int (0 : Int32)), (0, .ref (a 8))]) hx hb dX4_learnNear_1 rfl hl (by decide) rfl (fun ls hl => ?_)
  have hl2 : ∀ (kf : Nat) (v2 : Int32) (x3 : bq_S) (eo : Int32 × bq_S) (H : Heap) (locs : List Loc) (ls : Array Slot), wh kf (fX4_learnNear_b2 n 8) (v2, x3) = some eo → va_P D bq_cl (bq_wC a k x3) H → va_S A s.heap H locs → lv_has ls 4 [(0, .ref (a 8)), (1, .int v2)] → (∀ (H : Heap) (locs : List Loc) (ls : Array Slot) (v34 : Int32) (x35 : bq_S), eo = (v34, x35) → va_P D bq_cl (bq_wC a k x35) H → va_S A s.heap H locs → lv_has ls 4 [] → W p l e { frames := 2, cells := 0, slots := 0, locals := 44 } s m [.ref (a 8)].toArray below meth c H locs 0 0 Q (F0 m 62 ls [])) → W p l e { frames := 2, cells := 0, slots := 0, locals := 44 } s m [.ref (a 8)].toArray below meth c H locs 0 0 Q (F0 m 2 ls []) := by
    intro  kf
    induction kf with
    | zero => intro v2 x3 eo H locs ls h; cases h
    | succ kf ih =>
      intro v2 x3 eo H locs ls h hP hS hl kx
      obtain ⟨out, h, hw⟩ := wh_s h
      unfold fX4_learnNear_b2 at h
      replace h := un2_e h
      refine lv_iload_n hx hb dX4_learnNear_2 rfl (lv_at hl 1 rfl) ?_
      refine lv_bipush (v := (8 : Int32)) hx hb dX4_learnNear_3 (by decide) ?_
      refine lv_icmp_ge (tgt := 62) hx hb dX4_learnNear_5 (by decide) (fun c4 => ?_) (fun c4 => ?_)
      · replace h := (if_pos c4).symm.trans h
        cases h
        exact kx _ _ _ _ _ (Option.some.inj hw).symm hP hS (lv_sub hl [] rfl)
      · replace h := (if_neg c4).symm.trans h
        refine lv_iconst (v := (0 : Int32)) hx hb dX4_learnNear_8 (by decide) ?_
        refine lv_istore_n (lv' := [(2, .int (0 : Int32)), (0, .ref (a 8)), (1, .int v2)]) hx hb dX4_learnNear_9 rfl hl (by decide) rfl (fun ls hl => ?_)
        refine lv_iconst (v := (0 : Int32)) hx hb dX4_learnNear_10 (by decide) ?_
        refine lv_istore_n (lv' := [(3, .int (0 : Int32)), (2, .int (0 : Int32)), (0, .ref (a 8)), (1, .int v2)]) hx hb dX4_learnNear_11 rfl hl (by decide) rfl (fun ls hl => ?_)
        have hl12 : ∀ (v6 : Int32) (kf : Nat) (v7 : Int32) (v8 : Int32) (x9 : bq_S) (eo : Int32 × Int32 × bq_S) (H : Heap) (locs : List Loc) (ls : Array Slot), wh kf (fX4_learnNear_b12 n 8 v6) (v7, v8, x9) = some eo → va_P D bq_cl (bq_wC a k x9) H → va_S A s.heap H locs → lv_has ls 4 [(0, .ref (a 8)), (1, .int v6), (2, .int v7), (3, .int v8)] → (∀ (H : Heap) (locs : List Loc) (ls : Array Slot) (v27 : Int32) (v28 : Int32) (x29 : bq_S), eo = (v27, v28, x29) → va_P D bq_cl (bq_wC a k x29) H → va_S A s.heap H locs → lv_has ls 4 [(0, .ref (a 8)), (1, .int v6), (2, .int v27)] → W p l e { frames := 2, cells := 0, slots := 0, locals := 44 } s m [.ref (a 8)].toArray below meth c H locs 0 0 Q (F0 m 49 ls [])) → W p l e { frames := 2, cells := 0, slots := 0, locals := 44 } s m [.ref (a 8)].toArray below meth c H locs 0 0 Q (F0 m 12 ls []) := by
          intro v6 kf
          induction kf with
          | zero => intro v7 v8 x9 eo H locs ls h; cases h
          | succ kf ih =>
            intro v7 v8 x9 eo H locs ls h hP hS hl kx
            obtain ⟨out, h, hw⟩ := wh_s h
            unfold fX4_learnNear_b12 at h
            replace h := un3_e h
            refine lv_iload_n hx hb dX4_learnNear_12 rfl (lv_at hl 3 rfl) ?_
            refine lv_bipush (v := (8 : Int32)) hx hb dX4_learnNear_13 (by decide) ?_
            refine lv_icmp_ge (tgt := 49) hx hb dX4_learnNear_15 (by decide) (fun c10 => ?_) (fun c10 => ?_)
            · replace h := (if_pos c10).symm.trans h
              cases h
              exact kx _ _ _ _ _ _ (Option.some.inj hw).symm hP hS (lv_sub hl [0, 1, 2] rfl)
            · replace h := (if_neg c10).symm.trans h
              refine lv_aload_n hx hb dX4_learnNear_18 rfl (lv_at hl 0 rfl) ?_
              refine lv_iload_n hx hb dX4_learnNear_19 rfl (lv_at hl 1 rfl) ?_
              refine lv_iload_n hx hb dX4_learnNear_20 rfl (lv_at hl 3 rfl) ?_
              obtain ⟨q11, hq11, h⟩ := Option.bind_eq_some_iff.mp h
              obtain ⟨v13, x12⟩ := q11
              replace h := un2_e h
              refine bq_callVi (q0 := 8) (As := [.int _, .int _]) S hK hD hA hP hS (cX4_areTwo_k_8 hq11) hd_yX4_areTwo ml_X4_74 in_yX4_areTwo sl_X4_X4_yX4_areTwo ⟨rfl, rfl⟩ ⟨by decide, by decide⟩ rfl rfl rfl hl.1 rfl (Nat.le_of_ble_eq_true rfl) ⟨Nat.zero_le _, Nat.zero_le _⟩ dX4_learnNear_21 (fun H locs hP hS => ?_)
              refine lv_if_eq (tgt := 43) hx hb dX4_learnNear_24 (by decide) (fun c14 => ?_) (fun c14 => ?_)
              · replace h := (if_pos c14).symm.trans h
                obtain ⟨v15, hv15, h⟩ := bq_b h
                refine lv_iinc (v := v15) (lv' := [(3, .int v15), (0, .ref (a 8)), (1, .int v6), (2, .int v7)]) hx hb dX4_learnNear_43 hl (k := 3) rfl (by rw [hv15]; rfl) (by decide) rfl (fun ls hl => ?_)
                refine lv_goto (tgt := 12) hx hb dX4_learnNear_46 (by decide) ?_
                cases h
                exact ih _ _ _ _ _ _ _ hw hP hS (lv_sub hl [1, 2, 3, 0] rfl) kx
              · replace h := (if_neg c14).symm.trans h
                refine lv_aload_n hx hb dX4_learnNear_27 rfl (lv_at hl 0 rfl) ?_
                refine lv_iload_n hx hb dX4_learnNear_28 rfl (lv_at hl 1 rfl) ?_
                refine lv_iload_n hx hb dX4_learnNear_29 rfl (lv_at hl 3 rfl) ?_
                obtain ⟨q16, hq16, h⟩ := Option.bind_eq_some_iff.mp h
                obtain ⟨v18, x17⟩ := q16
                replace h := un2_e h
                refine bq_callVi (q0 := 8) (As := [.int _, .int _]) S hK hD hA hP hS (cX4_mayTouch_k_8 hq16) hd_yX4_mayTouch ml_X4_77 in_yX4_mayTouch sl_X4_X4_yX4_mayTouch ⟨rfl, rfl⟩ ⟨by decide, by decide⟩ rfl rfl rfl hl.1 rfl (Nat.le_of_ble_eq_true rfl) ⟨Nat.zero_le _, Nat.zero_le _⟩ dX4_learnNear_30 (fun H locs hP hS => ?_)
                refine lv_if_eq (tgt := 43) hx hb dX4_learnNear_33 (by decide) (fun c19 => ?_) (fun c19 => ?_)
                · replace h := (if_pos c19).symm.trans h
                  obtain ⟨v20, hv20, h⟩ := bq_b h
                  refine lv_iinc (v := v20) (lv' := [(3, .int v20), (0, .ref (a 8)), (1, .int v6), (2, .int v7)]) hx hb dX4_learnNear_43 hl (k := 3) rfl (by rw [hv20]; rfl) (by decide) rfl (fun ls hl => ?_)
                  refine lv_goto (tgt := 12) hx hb dX4_learnNear_46 (by decide) ?_
                  cases h
                  exact ih _ _ _ _ _ _ _ hw hP hS (lv_sub hl [1, 2, 3, 0] rfl) kx
                · replace h := (if_neg c19).symm.trans h
                  refine lv_iload_n hx hb dX4_learnNear_36 rfl (lv_at hl 2 rfl) ?_
                  refine lv_iload_n hx hb dX4_learnNear_37 rfl (lv_at hl 3 rfl) ?_
                  obtain ⟨q21, hq21, h⟩ := Option.bind_eq_some_iff.mp h
                  obtain ⟨v23, x22⟩ := q21
                  replace h := un2_e h
                  refine bq_callSNi (As := [.int _]) S hK hD hA hP hS (cX9_bit_k hq21) hd_yX9_bit mn_X4_70 st_yX9_bit ⟨rfl, rfl⟩ ⟨by decide, by decide⟩ rfl hl.1 rfl (Nat.le_of_ble_eq_true rfl) ⟨Nat.zero_le _, Nat.zero_le _⟩ dX4_learnNear_38 (fun H locs hP hS => ?_)
                  refine lv_ior hx hb dX4_learnNear_41 ?_
                  refine lv_topi (fun v24 hv24 => ?_)
                  replace h := bq_bv h hv24
                  refine lv_istore_n (lv' := [(2, .int v24), (0, .ref (a 8)), (1, .int v6), (3, .int v8)]) hx hb dX4_learnNear_42 rfl hl (by decide) rfl (fun ls hl => ?_)
                  obtain ⟨v25, hv25, h⟩ := bq_b h
                  refine lv_iinc (v := v25) (lv' := [(3, .int v25), (2, .int v24), (0, .ref (a 8)), (1, .int v6)]) hx hb dX4_learnNear_43 hl (k := 3) rfl (by rw [hv25]; rfl) (by decide) rfl (fun ls hl => ?_)
                  refine lv_goto (tgt := 12) hx hb dX4_learnNear_46 (by decide) ?_
                  cases h
                  exact ih _ _ _ _ _ _ _ hw hP hS (lv_sub hl [2, 3, 1, 0] rfl) kx
        obtain ⟨e26, he26, h⟩ := Option.bind_eq_some_iff.mp h
        refine hl12 _ n _ _ _ e26 _ _ _ he26 hP hS (lv_sub hl [2, 3, 1, 0] rfl) (fun H locs ls v27 v28 x29 hz hP hS hl => ?_)
        subst hz
        replace h := un3_e h
        refine lv_aload_n hx hb dX4_learnNear_49 rfl (lv_at hl 0 rfl) ?_
        refine bq_get (q0 := 8) S hK hP fl_X4_37_X4_8 rfl rfl rfl dX4_learnNear_50 ?_
        refine lv_iload_n hx hb dX4_learnNear_53 rfl (lv_at hl 1 rfl) ?_
        refine lv_iload_n hx hb dX4_learnNear_54 rfl (lv_at hl 2 rfl) ?_
        obtain ⟨g31, h⟩ := bq_gd h
        obtain ⟨x30, hx30, h⟩ := bq_b h
        refine bq_iast (x1 := x30) (q0 := 14) (t0 := 0) S hK hD hP hS rfl rfl g31 (by rw [hx30]; rfl) dX4_learnNear_55 (fun H locs hP hS => ?_)
        obtain ⟨v32, hv32, h⟩ := bq_b h
        refine lv_iinc (v := v32) (lv' := [(1, .int v32), (0, .ref (a 8)), (2, .int v27)]) hx hb dX4_learnNear_56 hl (k := 1) rfl (by rw [hv32]; rfl) (by decide) rfl (fun ls hl => ?_)
        refine lv_goto (tgt := 2) hx hb dX4_learnNear_59 (by decide) ?_
        cases h
        exact ih _ _ _ _ _ _ hw hP hS (lv_sub hl [1, 0] rfl) kx
  obtain ⟨e33, he33, h⟩ := Option.bind_eq_some_iff.mp h
  refine hl2 n _ _ e33 _ _ _ he33 hP hS (lv_sub hl [1, 0] rfl) (fun H locs ls v34 x35 hz hP hS hl => ?_)
  subst hz
  replace h := un2_e h
  have e2 := hret _ h
  exact hR _ _ _ _ rfl (by rw [e2]; exact hP) hS dX4_learnNear_62
def fX4_takeBooks (n : Nat) (q0 : Nat) (q1 : Nat) (x0 : bq_S) : Option (bq_S) :=
  bd (bq_sI x0 q0 0 (x0.1 q1 0)) (fun x1 =>
  bd (bq_sI x1 q0 1 (x1.1 q1 1)) (fun x2 =>
  bd (bq_sI x2 q0 2 (0 : Int32)) (fun x3 =>
  if ¬ (0 : Int32) < 0 ∧ ¬ (0 : Int32) < 0 ∧ ¬ (8 : Int32) < 0 ∧ (0 : Int32).toNatClampNeg + (8 : Int32).toNatClampNeg ≤ 8 ∧ (0 : Int32).toNatClampNeg + (8 : Int32).toNatClampNeg ≤ 8 then
  bd (bq_cI x3 (q1 + 1) (q0 + 1) (0 : Int32).toNatClampNeg (0 : Int32).toNatClampNeg (8 : Int32).toNatClampNeg) (fun x5 =>
  if ¬ (0 : Int32) < 0 ∧ ¬ (0 : Int32) < 0 ∧ ¬ (8 : Int32) < 0 ∧ (0 : Int32).toNatClampNeg + (8 : Int32).toNatClampNeg ≤ 8 ∧ (0 : Int32).toNatClampNeg + (8 : Int32).toNatClampNeg ≤ 8 then
  bd (bq_cI x5 (q1 + 2) (q0 + 2) (0 : Int32).toNatClampNeg (0 : Int32).toNatClampNeg (8 : Int32).toNatClampNeg) (fun x7 =>
  (fJ7_fill n (q0 + 3) 8 (0 : Int32) x7).bind (fun x9 =>
  (fX4_learnNear n q0 x9).bind (fun x11 =>
  some x11)))
  else none)
  else none)))
theorem dX4_takeBooks_0 : decode cX4_takeBooks 0 = .ok (.aload_n 0, 1) := by decide +kernel
theorem dX4_takeBooks_1 : decode cX4_takeBooks 1 = .ok (.aload_n 1, 1) := by decide +kernel
theorem dX4_takeBooks_2 : decode cX4_takeBooks 2 = .ok (.getfield 9, 3) := by decide +kernel
theorem dX4_takeBooks_5 : decode cX4_takeBooks 5 = .ok (.putfield 9, 3) := by decide +kernel
theorem dX4_takeBooks_8 : decode cX4_takeBooks 8 = .ok (.aload_n 0, 1) := by decide +kernel
theorem dX4_takeBooks_9 : decode cX4_takeBooks 9 = .ok (.aload_n 1, 1) := by decide +kernel
theorem dX4_takeBooks_10 : decode cX4_takeBooks 10 = .ok (.getfield 15, 3) := by decide +kernel
theorem dX4_takeBooks_13 : decode cX4_takeBooks 13 = .ok (.putfield 15, 3) := by decide +kernel
theorem dX4_takeBooks_16 : decode cX4_takeBooks 16 = .ok (.aload_n 0, 1) := by decide +kernel
theorem dX4_takeBooks_17 : decode cX4_takeBooks 17 = .ok (.iconst 0, 1) := by decide +kernel
theorem dX4_takeBooks_18 : decode cX4_takeBooks 18 = .ok (.putfield 18, 3) := by decide +kernel
theorem dX4_takeBooks_21 : decode cX4_takeBooks 21 = .ok (.aload_n 1, 1) := by decide +kernel
theorem dX4_takeBooks_22 : decode cX4_takeBooks 22 = .ok (.getfield 21, 3) := by decide +kernel
theorem dX4_takeBooks_25 : decode cX4_takeBooks 25 = .ok (.iconst 0, 1) := by decide +kernel
theorem dX4_takeBooks_26 : decode cX4_takeBooks 26 = .ok (.aload_n 0, 1) := by decide +kernel
theorem dX4_takeBooks_27 : decode cX4_takeBooks 27 = .ok (.getfield 21, 3) := by decide +kernel
theorem dX4_takeBooks_30 : decode cX4_takeBooks 30 = .ok (.iconst 0, 1) := by decide +kernel
theorem dX4_takeBooks_31 : decode cX4_takeBooks 31 = .ok (.bipush 8, 2) := by decide +kernel
theorem dX4_takeBooks_33 : decode cX4_takeBooks 33 = .ok (.invokestatic 44, 3) := by decide +kernel
theorem dX4_takeBooks_36 : decode cX4_takeBooks 36 = .ok (.aload_n 1, 1) := by decide +kernel
theorem dX4_takeBooks_37 : decode cX4_takeBooks 37 = .ok (.getfield 25, 3) := by decide +kernel
theorem dX4_takeBooks_40 : decode cX4_takeBooks 40 = .ok (.iconst 0, 1) := by decide +kernel
theorem dX4_takeBooks_41 : decode cX4_takeBooks 41 = .ok (.aload_n 0, 1) := by decide +kernel
theorem dX4_takeBooks_42 : decode cX4_takeBooks 42 = .ok (.getfield 25, 3) := by decide +kernel
theorem dX4_takeBooks_45 : decode cX4_takeBooks 45 = .ok (.iconst 0, 1) := by decide +kernel
theorem dX4_takeBooks_46 : decode cX4_takeBooks 46 = .ok (.bipush 8, 2) := by decide +kernel
theorem dX4_takeBooks_48 : decode cX4_takeBooks 48 = .ok (.invokestatic 44, 3) := by decide +kernel
theorem dX4_takeBooks_51 : decode cX4_takeBooks 51 = .ok (.aload_n 0, 1) := by decide +kernel
theorem dX4_takeBooks_52 : decode cX4_takeBooks 52 = .ok (.getfield 28, 3) := by decide +kernel
theorem dX4_takeBooks_55 : decode cX4_takeBooks 55 = .ok (.iconst 0, 1) := by decide +kernel
theorem dX4_takeBooks_56 : decode cX4_takeBooks 56 = .ok (.invokestatic 57, 3) := by decide +kernel
theorem dX4_takeBooks_59 : decode cX4_takeBooks 59 = .ok (.aload_n 0, 1) := by decide +kernel
theorem dX4_takeBooks_60 : decode cX4_takeBooks 60 = .ok (.invokevirtual 54, 3) := by decide +kernel
theorem dX4_takeBooks_63 : decode cX4_takeBooks 63 = .ok (.return_, 1) := by decide +kernel
set_option maxHeartbeats 4000000 in
set_option maxRecDepth 100000 in
theorem cX4_takeBooks_k_8_1 {l : Launch} {D : va_G} {a : Nat → Nat} {k : Nat → ClassId} {n : Nat} {x0 xz : bq_S} (h : fX4_takeBooks n 8 1 x0 = some xz) : bq_M l D bq_cl (bq_ty k) (bq_wC a k) yX4_takeBooks cX4_takeBooks 2 none { frames := 3, cells := 0, slots := 0, locals := 67 } [.ref (a 8), .ref (a 1)] x0 none xz := by
  refine bq_ofWv RX4 [(0, .ref (a 8)), (1, .ref (a 1))] (by decide +kernel) rfl (Nat.le_of_ble_eq_true rfl) rfl (bq_adC a k) ?_
  intro p e s m below meth c A Q ls S hK hD hA hR hS hP hl
  have hx := S.1; have hb := S.2.1; have hml := S.2.2.1; have hown := S.2.2.2.1; have hts := S.2.2.2.2
  have hret : ∀ z, some z = some xz → xz = z := fun z h => (Option.some.inj h).symm
  unfold fX4_takeBooks at h
  refine lv_aload_n hx hb dX4_takeBooks_0 rfl (lv_at hl 0 rfl) ?_
  refine lv_aload_n hx hb dX4_takeBooks_1 rfl (lv_at hl 1 rfl) ?_
  refine bq_get (q0 := 1) S hK hP fl_X4_9_X4_0 rfl rfl rfl dX4_takeBooks_2 ?_
  obtain ⟨x1, hx1, h⟩ := bq_b h
  refine bq_put (x1 := x1) (q0 := 8) (ty := .int) S hK hD hP hS fl_X4_9_X4_0 bt_X4 rfl (by decide +kernel) rfl rfl (Nat.le_of_ble_eq_true rfl) rfl rfl (by rw [hx1]; rfl) dX4_takeBooks_5 (fun H locs hP hS => ?_)
  refine lv_aload_n hx hb dX4_takeBooks_8 rfl (lv_at hl 0 rfl) ?_
  refine lv_aload_n hx hb dX4_takeBooks_9 rfl (lv_at hl 1 rfl) ?_
  refine bq_get (q0 := 1) S hK hP fl_X4_15_X4_1 rfl rfl rfl dX4_takeBooks_10 ?_
  obtain ⟨x2, hx2, h⟩ := bq_b h
  refine bq_put (x1 := x2) (q0 := 8) (ty := .int) S hK hD hP hS fl_X4_15_X4_1 bt_X4 rfl (by decide +kernel) rfl rfl (Nat.le_of_ble_eq_true rfl) rfl rfl (by rw [hx2]; rfl) dX4_takeBooks_13 (fun H locs hP hS => ?_)
  refine lv_aload_n hx hb dX4_takeBooks_16 rfl (lv_at hl 0 rfl) ?_
  refine lv_iconst (v := (0 : Int32)) hx hb dX4_takeBooks_17 (by decide) ?_
  obtain ⟨x3, hx3, h⟩ := bq_b h
  refine bq_put (x1 := x3) (q0 := 8) (ty := .int) S hK hD hP hS fl_X4_18_X4_2 bt_X4 rfl (by decide +kernel) rfl rfl (Nat.le_of_ble_eq_true rfl) rfl rfl (by rw [hx3]; rfl) dX4_takeBooks_18 (fun H locs hP hS => ?_)
  refine lv_aload_n hx hb dX4_takeBooks_21 rfl (lv_at hl 1 rfl) ?_
  refine bq_get (q0 := 1) S hK hP fl_X4_21_X4_3 rfl rfl rfl dX4_takeBooks_22 ?_
  refine lv_iconst (v := (0 : Int32)) hx hb dX4_takeBooks_25 (by decide) ?_
  refine lv_aload_n hx hb dX4_takeBooks_26 rfl (lv_at hl 0 rfl) ?_
  refine bq_get (q0 := 8) S hK hP fl_X4_21_X4_3 rfl rfl rfl dX4_takeBooks_27 ?_
  refine lv_iconst (v := (0 : Int32)) hx hb dX4_takeBooks_30 (by decide) ?_
  refine lv_bipush (v := (8 : Int32)) hx hb dX4_takeBooks_31 (by decide) ?_
  obtain ⟨⟨g41, g42, g43, g44, g45⟩, h⟩ := bq_gp h
  obtain ⟨x5, hx5, h⟩ := bq_b h
  refine va_copyi (D := D) hx hb (hml.trans hl.1.symm) hown (hts _ ml_X4_44) (hts _ acn) (hts _ acs) (hts _ aci) hK hP (hD _) hS 2 9 0 0 rfl rfl rfl rfl rfl g41 g42 g43 g44 g45 (fun _ _ => rfl) (by decide) (by decide +kernel) dX4_takeBooks_33 (fun H locs hP _ hS => ?_)
  replace hP : va_P D bq_cl (bq_wC a k x5) H := by rw [hx5]; exact hP
  refine lv_aload_n hx hb dX4_takeBooks_36 rfl (lv_at hl 1 rfl) ?_
  refine bq_get (q0 := 1) S hK hP fl_X4_25_X4_4 rfl rfl rfl dX4_takeBooks_37 ?_
  refine lv_iconst (v := (0 : Int32)) hx hb dX4_takeBooks_40 (by decide) ?_
  refine lv_aload_n hx hb dX4_takeBooks_41 rfl (lv_at hl 0 rfl) ?_
  refine bq_get (q0 := 8) S hK hP fl_X4_25_X4_4 rfl rfl rfl dX4_takeBooks_42 ?_
  refine lv_iconst (v := (0 : Int32)) hx hb dX4_takeBooks_45 (by decide) ?_
  refine lv_bipush (v := (8 : Int32)) hx hb dX4_takeBooks_46 (by decide) ?_
  obtain ⟨⟨g61, g62, g63, g64, g65⟩, h⟩ := bq_gp h
  obtain ⟨x7, hx7, h⟩ := bq_b h
  refine va_copyi (D := D) hx hb (hml.trans hl.1.symm) hown (hts _ ml_X4_44) (hts _ acn) (hts _ acs) (hts _ aci) hK hP (hD _) hS 3 10 0 0 rfl rfl rfl rfl rfl g61 g62 g63 g64 g65 (fun _ _ => rfl) (by decide) (by decide +kernel) dX4_takeBooks_48 (fun H locs hP _ hS => ?_)
  replace hP : va_P D bq_cl (bq_wC a k x7) H := by rw [hx7]; exact hP
  refine lv_aload_n hx hb dX4_takeBooks_51 rfl (lv_at hl 0 rfl) ?_
  refine bq_get (q0 := 8) S hK hP fl_X4_28_X4_5 rfl rfl rfl dX4_takeBooks_52 ?_
  refine lv_iconst (v := (0 : Int32)) hx hb dX4_takeBooks_55 (by decide) ?_
  obtain ⟨x9, hq8, h⟩ := Option.bind_eq_some_iff.mp h
  refine bq_callSv (As := [.ref (a 11), .int _]) S hK hD hA hP hS (cJ7_fill_k_11 hq8) hd_yJ7_fill_53178 ml_X4_57 st_yJ7_fill_53178 ⟨rfl, rfl⟩ ⟨by decide, by decide⟩ rfl hl.1 rfl (Nat.le_of_ble_eq_true rfl) ⟨Nat.zero_le _, Nat.zero_le _⟩ dX4_takeBooks_56 (fun H locs hP hS => ?_)
  refine lv_aload_n hx hb dX4_takeBooks_59 rfl (lv_at hl 0 rfl) ?_
  obtain ⟨x11, hq10, h⟩ := Option.bind_eq_some_iff.mp h
  refine bq_callVv (q0 := 8) (As := []) S hK hD hA hP hS (cX4_learnNear_k_8 hq10) hd_yX4_learnNear ml_X4_54 in_yX4_learnNear sl_X4_X4_yX4_learnNear ⟨rfl, rfl⟩ ⟨by decide, by decide⟩ rfl rfl rfl hl.1 rfl (Nat.le_of_ble_eq_true rfl) ⟨Nat.zero_le _, Nat.zero_le _⟩ dX4_takeBooks_60 (fun H locs hP hS => ?_)
  have e2 := hret _ h
  exact hR _ _ _ _ rfl (by rw [e2]; exact hP) hS dX4_takeBooks_63
def fX4_takeHall (q0 : Nat) (q1 : Nat) (la1 : Nat) (p2 : Int32) (x0 : bq_S) : Option (bq_S) :=
  if ¬ (0 : Int32) < 0 ∧ ¬ (0 : Int32) < 0 ∧ ¬ p2 < 0 ∧ (0 : Int32).toNatClampNeg + p2.toNatClampNeg ≤ la1 ∧ (0 : Int32).toNatClampNeg + p2.toNatClampNeg ≤ 8 then
  bd (bq_cI x0 q1 (q0 + 5) (0 : Int32).toNatClampNeg (0 : Int32).toNatClampNeg p2.toNatClampNeg) (fun x2 =>
  bd (bq_sI x2 q0 2 p2) (fun x3 =>
  some x3))
  else none
theorem dX4_takeHall_0 : decode cX4_takeHall 0 = .ok (.aload_n 1, 1) := by decide +kernel
theorem dX4_takeHall_1 : decode cX4_takeHall 1 = .ok (.iconst 0, 1) := by decide +kernel
theorem dX4_takeHall_2 : decode cX4_takeHall 2 = .ok (.aload_n 0, 1) := by decide +kernel
theorem dX4_takeHall_3 : decode cX4_takeHall 3 = .ok (.getfield 34, 3) := by decide +kernel
theorem dX4_takeHall_6 : decode cX4_takeHall 6 = .ok (.iconst 0, 1) := by decide +kernel
theorem dX4_takeHall_7 : decode cX4_takeHall 7 = .ok (.iload_n 2, 1) := by decide +kernel
theorem dX4_takeHall_8 : decode cX4_takeHall 8 = .ok (.invokestatic 44, 3) := by decide +kernel
theorem dX4_takeHall_11 : decode cX4_takeHall 11 = .ok (.aload_n 0, 1) := by decide +kernel
theorem dX4_takeHall_12 : decode cX4_takeHall 12 = .ok (.iload_n 2, 1) := by decide +kernel
theorem dX4_takeHall_13 : decode cX4_takeHall 13 = .ok (.putfield 18, 3) := by decide +kernel
theorem dX4_takeHall_16 : decode cX4_takeHall 16 = .ok (.return_, 1) := by decide +kernel
set_option maxHeartbeats 4000000 in
set_option maxRecDepth 100000 in
theorem cX4_takeHall_k_8_6 {l : Launch} {D : va_G} {a : Nat → Nat} {k : Nat → ClassId} {p2 : Int32} {x0 xz : bq_S} (h : fX4_takeHall  8 6 8 p2 x0 = some xz) : bq_M l D bq_cl (bq_ty k) (bq_wC a k) yX4_takeHall cX4_takeHall 3 none { frames := 1, cells := 0, slots := 0, locals := 60 } [.ref (a 8), .ref (a 6), .int p2] x0 none xz := by
  refine bq_ofWv RX4 [(0, .ref (a 8)), (1, .ref (a 6)), (2, .int p2)] (by decide +kernel) rfl (Nat.le_of_ble_eq_true rfl) rfl (bq_adC a k) ?_
  intro p e s m below meth c A Q ls S hK hD hA hR hS hP hl
  have hx := S.1; have hb := S.2.1; have hml := S.2.2.1; have hown := S.2.2.2.1; have hts := S.2.2.2.2
  have hret : ∀ z, some z = some xz → xz = z := fun z h => (Option.some.inj h).symm
  unfold fX4_takeHall at h
  refine lv_aload_n hx hb dX4_takeHall_0 rfl (lv_at hl 1 rfl) ?_
  refine lv_iconst (v := (0 : Int32)) hx hb dX4_takeHall_1 (by decide) ?_
  refine lv_aload_n hx hb dX4_takeHall_2 rfl (lv_at hl 0 rfl) ?_
  refine bq_get (q0 := 8) S hK hP fl_X4_34_X4_7 rfl rfl rfl dX4_takeHall_3 ?_
  refine lv_iconst (v := (0 : Int32)) hx hb dX4_takeHall_6 (by decide) ?_
  refine lv_iload_n hx hb dX4_takeHall_7 rfl (lv_at hl 2 rfl) ?_
  obtain ⟨⟨g11, g12, g13, g14, g15⟩, h⟩ := bq_gp h
  obtain ⟨x2, hx2, h⟩ := bq_b h
  refine va_copyi (D := D) hx hb (hml.trans hl.1.symm) hown (hts _ ml_X4_44) (hts _ acn) (hts _ acs) (hts _ aci) hK hP (hD _) hS 6 13 0 0 rfl rfl rfl rfl rfl g11 g12 g13 g14 g15 (fun _ _ => rfl) (by decide) (by decide +kernel) dX4_takeHall_8 (fun H locs hP _ hS => ?_)
  replace hP : va_P D bq_cl (bq_wC a k x2) H := by rw [hx2]; exact hP
  refine lv_aload_n hx hb dX4_takeHall_11 rfl (lv_at hl 0 rfl) ?_
  refine lv_iload_n hx hb dX4_takeHall_12 rfl (lv_at hl 2 rfl) ?_
  obtain ⟨x3, hx3, h⟩ := bq_b h
  refine bq_put (x1 := x3) (q0 := 8) (ty := .int) S hK hD hP hS fl_X4_18_X4_2 bt_X4 rfl (by decide +kernel) rfl rfl (Nat.le_of_ble_eq_true rfl) rfl rfl (by rw [hx3]; rfl) dX4_takeHall_13 (fun H locs hP hS => ?_)
  have e2 := hret _ h
  exact hR _ _ _ _ rfl (by rw [e2]; exact hP) hS dX4_takeHall_16
def fX4_become (n : Nat) (q0 : Nat) (q1 : Nat) (x0 : bq_S) : Option (bq_S) :=
  (fX4_takeBooks n q0 q1 x0).bind (fun x2 =>
  if ¬ (0 : Int32) < 0 ∧ ¬ (0 : Int32) < 0 ∧ ¬ (8 : Int32) < 0 ∧ (0 : Int32).toNatClampNeg + (8 : Int32).toNatClampNeg ≤ 8 ∧ (0 : Int32).toNatClampNeg + (8 : Int32).toNatClampNeg ≤ 8 then
  bd (bq_cI x2 (q1 + 3) (q0 + 3) (0 : Int32).toNatClampNeg (0 : Int32).toNatClampNeg (8 : Int32).toNatClampNeg) (fun x4 =>
  if ¬ (0 : Int32) < 0 ∧ ¬ (0 : Int32) < 0 ∧ ¬ (2 : Int32) < 0 ∧ (0 : Int32).toNatClampNeg + (2 : Int32).toNatClampNeg ≤ 2 ∧ (0 : Int32).toNatClampNeg + (2 : Int32).toNatClampNeg ≤ 2 then
  bd (bq_cI x4 (q1 + 4) (q0 + 4) (0 : Int32).toNatClampNeg (0 : Int32).toNatClampNeg (2 : Int32).toNatClampNeg) (fun x6 =>
  (fX4_takeHall q0 (q1 + 5) 8 (x6.1 q1 2) x6).bind (fun x8 =>
  (fX4_learnNear n q0 x8).bind (fun x10 =>
  some x10)))
  else none)
  else none)
theorem dX4_become_0 : decode cX4_become 0 = .ok (.aload_n 0, 1) := by decide +kernel
theorem dX4_become_1 : decode cX4_become 1 = .ok (.aload_n 1, 1) := by decide +kernel
theorem dX4_become_2 : decode cX4_become 2 = .ok (.invokevirtual 40, 3) := by decide +kernel
theorem dX4_become_5 : decode cX4_become 5 = .ok (.aload_n 1, 1) := by decide +kernel
theorem dX4_become_6 : decode cX4_become 6 = .ok (.getfield 28, 3) := by decide +kernel
theorem dX4_become_9 : decode cX4_become 9 = .ok (.iconst 0, 1) := by decide +kernel
theorem dX4_become_10 : decode cX4_become 10 = .ok (.aload_n 0, 1) := by decide +kernel
theorem dX4_become_11 : decode cX4_become 11 = .ok (.getfield 28, 3) := by decide +kernel
theorem dX4_become_14 : decode cX4_become 14 = .ok (.iconst 0, 1) := by decide +kernel
theorem dX4_become_15 : decode cX4_become 15 = .ok (.bipush 8, 2) := by decide +kernel
theorem dX4_become_17 : decode cX4_become 17 = .ok (.invokestatic 44, 3) := by decide +kernel
theorem dX4_become_20 : decode cX4_become 20 = .ok (.aload_n 1, 1) := by decide +kernel
theorem dX4_become_21 : decode cX4_become 21 = .ok (.getfield 31, 3) := by decide +kernel
theorem dX4_become_24 : decode cX4_become 24 = .ok (.iconst 0, 1) := by decide +kernel
theorem dX4_become_25 : decode cX4_become 25 = .ok (.aload_n 0, 1) := by decide +kernel
theorem dX4_become_26 : decode cX4_become 26 = .ok (.getfield 31, 3) := by decide +kernel
theorem dX4_become_29 : decode cX4_become 29 = .ok (.iconst 0, 1) := by decide +kernel
theorem dX4_become_30 : decode cX4_become 30 = .ok (.iconst 2, 1) := by decide +kernel
theorem dX4_become_31 : decode cX4_become 31 = .ok (.invokestatic 44, 3) := by decide +kernel
theorem dX4_become_34 : decode cX4_become 34 = .ok (.aload_n 0, 1) := by decide +kernel
theorem dX4_become_35 : decode cX4_become 35 = .ok (.aload_n 1, 1) := by decide +kernel
theorem dX4_become_36 : decode cX4_become 36 = .ok (.getfield 34, 3) := by decide +kernel
theorem dX4_become_39 : decode cX4_become 39 = .ok (.aload_n 1, 1) := by decide +kernel
theorem dX4_become_40 : decode cX4_become 40 = .ok (.getfield 18, 3) := by decide +kernel
theorem dX4_become_43 : decode cX4_become 43 = .ok (.invokevirtual 50, 3) := by decide +kernel
theorem dX4_become_46 : decode cX4_become 46 = .ok (.aload_n 0, 1) := by decide +kernel
theorem dX4_become_47 : decode cX4_become 47 = .ok (.invokevirtual 54, 3) := by decide +kernel
theorem dX4_become_50 : decode cX4_become 50 = .ok (.return_, 1) := by decide +kernel
set_option maxHeartbeats 4000000 in
set_option maxRecDepth 100000 in
theorem cX4_become_k_8_1 {l : Launch} {D : va_G} {a : Nat → Nat} {k : Nat → ClassId} {n : Nat} {x0 xz : bq_S} (h : fX4_become n 8 1 x0 = some xz) : bq_M l D bq_cl (bq_ty k) (bq_wC a k) yX4_become cX4_become 2 none { frames := 4, cells := 0, slots := 0, locals := 88 } [.ref (a 8), .ref (a 1)] x0 none xz := by
  refine bq_ofWv RX4 [(0, .ref (a 8)), (1, .ref (a 1))] (by decide +kernel) rfl (Nat.le_of_ble_eq_true rfl) rfl (bq_adC a k) ?_
  intro p e s m below meth c A Q ls S hK hD hA hR hS hP hl
  have hx := S.1; have hb := S.2.1; have hml := S.2.2.1; have hown := S.2.2.2.1; have hts := S.2.2.2.2
  have hret : ∀ z, some z = some xz → xz = z := fun z h => (Option.some.inj h).symm
  unfold fX4_become at h
  refine lv_aload_n hx hb dX4_become_0 rfl (lv_at hl 0 rfl) ?_
  refine lv_aload_n hx hb dX4_become_1 rfl (lv_at hl 1 rfl) ?_
  obtain ⟨x2, hq1, h⟩ := Option.bind_eq_some_iff.mp h
  refine bq_callVv (q0 := 8) (As := [.ref (a 1)]) S hK hD hA hP hS (cX4_takeBooks_k_8_1 hq1) hd_yX4_takeBooks ml_X4_40 in_yX4_takeBooks sl_X4_X4_yX4_takeBooks ⟨rfl, rfl⟩ ⟨by decide, by decide⟩ rfl rfl rfl hl.1 rfl (Nat.le_of_ble_eq_true rfl) ⟨Nat.zero_le _, Nat.zero_le _⟩ dX4_become_2 (fun H locs hP hS => ?_)
  refine lv_aload_n hx hb dX4_become_5 rfl (lv_at hl 1 rfl) ?_
  refine bq_get (q0 := 1) S hK hP fl_X4_28_X4_5 rfl rfl rfl dX4_become_6 ?_
  refine lv_iconst (v := (0 : Int32)) hx hb dX4_become_9 (by decide) ?_
  refine lv_aload_n hx hb dX4_become_10 rfl (lv_at hl 0 rfl) ?_
  refine bq_get (q0 := 8) S hK hP fl_X4_28_X4_5 rfl rfl rfl dX4_become_11 ?_
  refine lv_iconst (v := (0 : Int32)) hx hb dX4_become_14 (by decide) ?_
  refine lv_bipush (v := (8 : Int32)) hx hb dX4_become_15 (by decide) ?_
  obtain ⟨⟨g31, g32, g33, g34, g35⟩, h⟩ := bq_gp h
  obtain ⟨x4, hx4, h⟩ := bq_b h
  refine va_copyi (D := D) hx hb (hml.trans hl.1.symm) hown (hts _ ml_X4_44) (hts _ acn) (hts _ acs) (hts _ aci) hK hP (hD _) hS 4 11 0 0 rfl rfl rfl rfl rfl g31 g32 g33 g34 g35 (fun _ _ => rfl) (by decide) (by decide +kernel) dX4_become_17 (fun H locs hP _ hS => ?_)
  replace hP : va_P D bq_cl (bq_wC a k x4) H := by rw [hx4]; exact hP
  refine lv_aload_n hx hb dX4_become_20 rfl (lv_at hl 1 rfl) ?_
  refine bq_get (q0 := 1) S hK hP fl_X4_31_X4_6 rfl rfl rfl dX4_become_21 ?_
  refine lv_iconst (v := (0 : Int32)) hx hb dX4_become_24 (by decide) ?_
  refine lv_aload_n hx hb dX4_become_25 rfl (lv_at hl 0 rfl) ?_
  refine bq_get (q0 := 8) S hK hP fl_X4_31_X4_6 rfl rfl rfl dX4_become_26 ?_
  refine lv_iconst (v := (0 : Int32)) hx hb dX4_become_29 (by decide) ?_
  refine lv_iconst (v := (2 : Int32)) hx hb dX4_become_30 (by decide) ?_
  obtain ⟨⟨g51, g52, g53, g54, g55⟩, h⟩ := bq_gp h
  obtain ⟨x6, hx6, h⟩ := bq_b h
  refine va_copyi (D := D) hx hb (hml.trans hl.1.symm) hown (hts _ ml_X4_44) (hts _ acn) (hts _ acs) (hts _ aci) hK hP (hD _) hS 5 12 0 0 rfl rfl rfl rfl rfl g51 g52 g53 g54 g55 (fun _ _ => rfl) (by decide) (by decide +kernel) dX4_become_31 (fun H locs hP _ hS => ?_)
  replace hP : va_P D bq_cl (bq_wC a k x6) H := by rw [hx6]; exact hP
  refine lv_aload_n hx hb dX4_become_34 rfl (lv_at hl 0 rfl) ?_
  refine lv_aload_n hx hb dX4_become_35 rfl (lv_at hl 1 rfl) ?_
  refine bq_get (q0 := 1) S hK hP fl_X4_34_X4_7 rfl rfl rfl dX4_become_36 ?_
  refine lv_aload_n hx hb dX4_become_39 rfl (lv_at hl 1 rfl) ?_
  refine bq_get (q0 := 1) S hK hP fl_X4_18_X4_2 rfl rfl rfl dX4_become_40 ?_
  obtain ⟨x8, hq7, h⟩ := Option.bind_eq_some_iff.mp h
  refine bq_callVv (q0 := 8) (As := [.ref (a 6), .int _]) S hK hD hA hP hS (cX4_takeHall_k_8_6 hq7) hd_yX4_takeHall ml_X4_50 in_yX4_takeHall sl_X4_X4_yX4_takeHall ⟨rfl, rfl⟩ ⟨by decide, by decide⟩ rfl rfl rfl hl.1 rfl (Nat.le_of_ble_eq_true rfl) ⟨Nat.zero_le _, Nat.zero_le _⟩ dX4_become_43 (fun H locs hP hS => ?_)
  refine lv_aload_n hx hb dX4_become_46 rfl (lv_at hl 0 rfl) ?_
  obtain ⟨x10, hq9, h⟩ := Option.bind_eq_some_iff.mp h
  refine bq_callVv (q0 := 8) (As := []) S hK hD hA hP hS (cX4_learnNear_k_8 hq9) hd_yX4_learnNear ml_X4_54 in_yX4_learnNear sl_X4_X4_yX4_learnNear ⟨rfl, rfl⟩ ⟨by decide, by decide⟩ rfl rfl rfl hl.1 rfl (Nat.le_of_ble_eq_true rfl) ⟨Nat.zero_le _, Nat.zero_le _⟩ dX4_become_47 (fun H locs hP hS => ?_)
  have e2 := hret _ h
  exact hR _ _ _ _ rfl (by rw [e2]; exact hP) hS dX4_become_50
def fX9_image (n : Nat) (x0 : bq_S) : Option (Int32 × bq_S) :=
  (fX4_become n 8 1 x0).bind (fun x2 =>
  bd (bq_sI x2 0 11 (1 : Int32)) (fun x3 =>
  some ((1 : Int32), x3)))
theorem dX9_image_0 : decode cX9_image 0 = .ok (.aload_n 0, 1) := by decide +kernel
theorem dX9_image_1 : decode cX9_image 1 = .ok (.getfield 16, 3) := by decide +kernel
theorem dX9_image_4 : decode cX9_image 4 = .ok (.aload_n 0, 1) := by decide +kernel
theorem dX9_image_5 : decode cX9_image 5 = .ok (.getfield 10, 3) := by decide +kernel
theorem dX9_image_8 : decode cX9_image 8 = .ok (.invokevirtual 230, 3) := by decide +kernel
theorem dX9_image_11 : decode cX9_image 11 = .ok (.aload_n 0, 1) := by decide +kernel
theorem dX9_image_12 : decode cX9_image 12 = .ok (.iconst 1, 1) := by decide +kernel
theorem dX9_image_13 : decode cX9_image 13 = .ok (.putfield 79, 3) := by decide +kernel
theorem dX9_image_16 : decode cX9_image 16 = .ok (.iconst 1, 1) := by decide +kernel
theorem dX9_image_17 : decode cX9_image 17 = .ok (.ireturn, 1) := by decide +kernel
set_option maxHeartbeats 4000000 in
set_option maxRecDepth 100000 in
theorem cX9_image_k_0 {l : Launch} {D : va_G} {a : Nat → Nat} {k : Nat → ClassId} {n : Nat} {x0 xz : bq_S} {rz : Int32} (h : fX9_image n  x0 = some (rz, xz)) : bq_M l D bq_cl (bq_ty k) (bq_wC a k) yX9_image cX9_image 1 (some .int) { frames := 5, cells := 0, slots := 0, locals := 109 } [.ref (a 0)] x0 (some rz) xz := by
  refine bq_ofW RX9 [(0, .ref (a 0))] (by decide +kernel) rfl (Nat.le_of_ble_eq_true rfl) rfl (bq_adC a k) ?_
  intro p e s m below meth c A Q ls S hK hD hA hR hS hP hl
  have hx := S.1; have hb := S.2.1; have hml := S.2.2.1; have hown := S.2.2.2.1; have hts := S.2.2.2.2
  have hret : ∀ z, some z = some (rz, xz) → (rz, xz) = z := fun z h => (Option.some.inj h).symm
  unfold fX9_image at h
  refine lv_aload_n hx hb dX9_image_0 rfl (lv_at hl 0 rfl) ?_
  refine bq_get (q0 := 0) S hK hP fl_X9_16_X9_1 rfl rfl rfl dX9_image_1 ?_
  refine lv_aload_n hx hb dX9_image_4 rfl (lv_at hl 0 rfl) ?_
  refine bq_get (q0 := 0) S hK hP fl_X9_10_X9_0 rfl rfl rfl dX9_image_5 ?_
  obtain ⟨x2, hq1, h⟩ := Option.bind_eq_some_iff.mp h
  refine bq_callVv (q0 := 8) (As := [.ref (a 1)]) S hK hD hA hP hS (cX4_become_k_8_1 hq1) hd_yX4_become ml_X9_230 in_yX4_become sl_X4_X4_yX4_become ⟨rfl, rfl⟩ ⟨by decide, by decide⟩ rfl rfl rfl hl.1 rfl (Nat.le_of_ble_eq_true rfl) ⟨Nat.zero_le _, Nat.zero_le _⟩ dX9_image_8 (fun H locs hP hS => ?_)
  refine lv_aload_n hx hb dX9_image_11 rfl (lv_at hl 0 rfl) ?_
  refine lv_iconst (v := (1 : Int32)) hx hb dX9_image_12 (by decide) ?_
  obtain ⟨x3, hx3, h⟩ := bq_b h
  refine bq_put (x1 := x3) (q0 := 0) (ty := .boolean) S hK hD hP hS fl_X9_79_X9_11 bt_X9 rfl (by decide +kernel) rfl rfl (Nat.le_of_ble_eq_true rfl) rfl rfl (by rw [hx3]; rfl) dX9_image_13 (fun H locs hP hS => ?_)
  refine lv_iconst (v := (1 : Int32)) hx hb dX9_image_16 (by decide) ?_
  obtain ⟨e1, e2⟩ := Prod.mk.inj (hret _ h)
  exact hR _ _ _ _ _ (congrArg some e1) rfl (by rw [e2]; exact hP) hS dX9_image_17
def fX7_byteOf (p0 : Int64) (p2 : Int32) (x0 : bq_S) : Option (Int32 × bq_S) :=
  some (((p0.toUInt64 >>> (((8 : Int32) * p2).toInt64.toUInt64 &&& Int64.toUInt64 63)).toInt64.toInt32 &&& (255 : Int32)), x0)
theorem dX7_byteOf_0 : decode cX7_byteOf 0 = .ok (.lload_n 0, 1) := by decide +kernel
theorem dX7_byteOf_1 : decode cX7_byteOf 1 = .ok (.bipush 8, 2) := by decide +kernel
theorem dX7_byteOf_3 : decode cX7_byteOf 3 = .ok (.iload_n 2, 1) := by decide +kernel
theorem dX7_byteOf_4 : decode cX7_byteOf 4 = .ok (.imul, 1) := by decide +kernel
theorem dX7_byteOf_5 : decode cX7_byteOf 5 = .ok (.lushr, 1) := by decide +kernel
theorem dX7_byteOf_6 : decode cX7_byteOf 6 = .ok (.l2i, 1) := by decide +kernel
theorem dX7_byteOf_7 : decode cX7_byteOf 7 = .ok (.sipush 255, 3) := by decide +kernel
theorem dX7_byteOf_10 : decode cX7_byteOf 10 = .ok (.iand, 1) := by decide +kernel
theorem dX7_byteOf_11 : decode cX7_byteOf 11 = .ok (.ireturn, 1) := by decide +kernel
set_option maxHeartbeats 4000000 in
set_option maxRecDepth 100000 in
theorem cX7_byteOf_k {l : Launch} {D : va_G} {a : Nat → Nat} {k : Nat → ClassId} {p0 : Int64} {p2 : Int32} {x0 xz : bq_S} {rz : Int32} (h : fX7_byteOf  p0 p2 x0 = some (rz, xz)) : bq_M l D bq_cl (bq_ty k) (bq_wC a k) yX7_byteOf cX7_byteOf 3 (some .int) { frames := 0, cells := 0, slots := 0, locals := 0 } [.long p0, .int p2] x0 (some rz) xz := by
  refine bq_ofW RX7 [(0, .long p0), (2, .int p2)] (by decide +kernel) rfl (Nat.le_of_ble_eq_true rfl) rfl (bq_adC a k) ?_
  intro p e s m below meth c A Q ls S hK hD hA hR hS hP hl
  have hx := S.1; have hb := S.2.1; have hml := S.2.2.1; have hown := S.2.2.2.1; have hts := S.2.2.2.2
  have hret : ∀ z, some z = some (rz, xz) → (rz, xz) = z := fun z h => (Option.some.inj h).symm
  unfold fX7_byteOf at h
  refine lv_lload_n hx hb dX7_byteOf_0 rfl (lv_at hl 0 rfl) ?_
  refine lv_bipush (v := (8 : Int32)) hx hb dX7_byteOf_1 (by decide) ?_
  refine lv_iload_n hx hb dX7_byteOf_3 rfl (lv_at hl 1 rfl) ?_
  refine lv_imul hx hb dX7_byteOf_4 ?_
  refine lv_lushr hx hb dX7_byteOf_5 rfl ?_
  refine lv_l2i hx hb dX7_byteOf_6 rfl ?_
  refine lv_sipush (v := (255 : Int32)) hx hb dX7_byteOf_7 (by decide) ?_
  refine lv_iand hx hb dX7_byteOf_10 ?_
  obtain ⟨e1, e2⟩ := Prod.mk.inj (hret _ h)
  exact hR _ _ _ _ _ (congrArg some e1) rfl (by rw [e2]; exact hP) hS dX7_byteOf_11
def fX7_canHold_b2 (n : Nat) (v1 : Int64) (v2 : Int32) (v : Int32 × bq_S) : Option ((Int32 × bq_S) ⊕ ((Int32 × bq_S) ⊕ (Int32 × bq_S))) :=
  un2 v (fun v3 x4 =>
  if v2 ≤ v3 then
  some (.inr (.inl (v3, x4)))
  else
  (fX7_byteOf v1 v3 x4).bind (fun q6 => un2 q6 (fun v8 x7 =>
  if v8 < (32 : Int32) then
  some (.inr (.inr ((0 : Int32), x7)))
  else
  if v8 ≤ (126 : Int32) then
  bd (v3 + (1 : Int32)) (fun v11 =>
  some (.inl (v11, x7)))
  else
  some (.inr (.inr ((0 : Int32), x7))))))
def fX7_canHold (n : Nat) (p0 : Int64) (p2 : Int32) (x0 : bq_S) : Option (Int32 × bq_S) :=
  (wh n (fX7_canHold_b2 n p0 p2) ((0 : Int32), x0)).bind (fun e12 =>
  Sum.elim (fun z => un2 z (fun v13 x14 =>
  some ((1 : Int32), x14))) (fun z => some z) e12)
theorem dX7_canHold_0 : decode cX7_canHold 0 = .ok (.iconst 0, 1) := by decide +kernel
theorem dX7_canHold_1 : decode cX7_canHold 1 = .ok (.istore_n 3, 1) := by decide +kernel
theorem dX7_canHold_2 : decode cX7_canHold 2 = .ok (.iload_n 3, 1) := by decide +kernel
theorem dX7_canHold_3 : decode cX7_canHold 3 = .ok (.iload_n 2, 1) := by decide +kernel
theorem dX7_canHold_4 : decode cX7_canHold 4 = .ok (.if_icmp .ge 32, 3) := by decide +kernel
theorem dX7_canHold_7 : decode cX7_canHold 7 = .ok (.lload_n 0, 1) := by decide +kernel
theorem dX7_canHold_8 : decode cX7_canHold 8 = .ok (.iload_n 3, 1) := by decide +kernel
theorem dX7_canHold_9 : decode cX7_canHold 9 = .ok (.invokestatic 26, 3) := by decide +kernel
theorem dX7_canHold_12 : decode cX7_canHold 12 = .ok (.istore 4, 2) := by decide +kernel
theorem dX7_canHold_14 : decode cX7_canHold 14 = .ok (.iload 4, 2) := by decide +kernel
theorem dX7_canHold_16 : decode cX7_canHold 16 = .ok (.bipush 32, 2) := by decide +kernel
theorem dX7_canHold_18 : decode cX7_canHold 18 = .ok (.if_icmp .lt 10, 3) := by decide +kernel
theorem dX7_canHold_21 : decode cX7_canHold 21 = .ok (.iload 4, 2) := by decide +kernel
theorem dX7_canHold_23 : decode cX7_canHold 23 = .ok (.bipush 126, 2) := by decide +kernel
theorem dX7_canHold_25 : decode cX7_canHold 25 = .ok (.if_icmp .le 5, 3) := by decide +kernel
theorem dX7_canHold_28 : decode cX7_canHold 28 = .ok (.iconst 0, 1) := by decide +kernel
theorem dX7_canHold_29 : decode cX7_canHold 29 = .ok (.ireturn, 1) := by decide +kernel
theorem dX7_canHold_30 : decode cX7_canHold 30 = .ok (.iinc 3 1, 3) := by decide +kernel
theorem dX7_canHold_33 : decode cX7_canHold 33 = .ok (.goto (-31), 3) := by decide +kernel
theorem dX7_canHold_36 : decode cX7_canHold 36 = .ok (.iconst 1, 1) := by decide +kernel
theorem dX7_canHold_37 : decode cX7_canHold 37 = .ok (.ireturn, 1) := by decide +kernel
set_option maxHeartbeats 4000000 in
set_option maxRecDepth 100000 in
theorem cX7_canHold_k {l : Launch} {D : va_G} {a : Nat → Nat} {k : Nat → ClassId} {n : Nat} {p0 : Int64} {p2 : Int32} {x0 xz : bq_S} {rz : Int32} (h : fX7_canHold n p0 p2 x0 = some (rz, xz)) : bq_M l D bq_cl (bq_ty k) (bq_wC a k) yX7_canHold cX7_canHold 5 (some .boolean) { frames := 1, cells := 0, slots := 0, locals := 22 } [.long p0, .int p2] x0 (some rz) xz := by
  refine bq_ofW RX7 [(0, .long p0), (2, .int p2)] (by decide +kernel) rfl (Nat.le_of_ble_eq_true rfl) rfl (bq_adC a k) ?_
  intro p e s m below meth c A Q ls S hK hD hA hR hS hP hl
  have hx := S.1; have hb := S.2.1; have hml := S.2.2.1; have hown := S.2.2.2.1; have hts := S.2.2.2.2
  have hret : ∀ z, some z = some (rz, xz) → (rz, xz) = z := fun z h => (Option.some.inj h).symm
  unfold fX7_canHold at h
  refine lv_iconst (v := (0 : Int32)) hx hb dX7_canHold_0 (by decide) ?_
  refine lv_istore_n (lv' := [(3, .int (0 : Int32)), (0, .long p0), (2, .int p2)]) hx hb dX7_canHold_1 rfl hl (by decide) rfl (fun ls hl => ?_)
  have hl2 : ∀ (v1 : Int64) (v2 : Int32) (kf : Nat) (v3 : Int32) (x4 : bq_S) (eo : (Int32 × bq_S) ⊕ (Int32 × bq_S)) (H : Heap) (locs : List Loc) (ls : Array Slot), wh kf (fX7_canHold_b2 n v1 v2) (v3, x4) = some eo → va_P D bq_cl (bq_wC a k x4) H → va_S A s.heap H locs → lv_has ls 5 [(0, .long v1), (2, .int v2), (3, .int v3)] → (∀ (H : Heap) (locs : List Loc) (ls : Array Slot) (v13 : Int32) (x14 : bq_S), eo = .inl (v13, x14) → va_P D bq_cl (bq_wC a k x14) H → va_S A s.heap H locs → lv_has ls 5 [] → W p l e { frames := 1, cells := 0, slots := 0, locals := 22 } s m [.long p0, .int p2].toArray below meth c H locs 0 0 Q (F0 m 36 ls [])) → (∀ z, eo = .inr z → (rz, xz) = z) → W p l e { frames := 1, cells := 0, slots := 0, locals := 22 } s m [.long p0, .int p2].toArray below meth c H locs 0 0 Q (F0 m 2 ls []) := by
    intro v1 v2 kf
    induction kf with
    | zero => intro v3 x4 eo H locs ls h; cases h
    | succ kf ih =>
      intro v3 x4 eo H locs ls h hP hS hl kx kr
      obtain ⟨out, h, hw⟩ := wh_s h
      have hret : ∀ z, (some (.inr (.inr z)) : Option ((Int32 × bq_S) ⊕ ((Int32 × bq_S) ⊕ (Int32 × bq_S)))) = some out → (rz, xz) = z := fun z h => kr z (by cases h; exact (Option.some.inj hw).symm)
      unfold fX7_canHold_b2 at h
      replace h := un2_e h
      refine lv_iload_n hx hb dX7_canHold_2 rfl (lv_at hl 2 rfl) ?_
      refine lv_iload_n hx hb dX7_canHold_3 rfl (lv_at hl 1 rfl) ?_
      refine lv_icmp_ge (tgt := 36) hx hb dX7_canHold_4 (by decide) (fun c5 => ?_) (fun c5 => ?_)
      · replace h := (if_pos c5).symm.trans h
        cases h
        exact kx _ _ _ _ _ (Option.some.inj hw).symm hP hS (lv_sub hl [] rfl)
      · replace h := (if_neg c5).symm.trans h
        refine lv_lload_n hx hb dX7_canHold_7 rfl (lv_at hl 0 rfl) ?_
        refine lv_iload_n hx hb dX7_canHold_8 rfl (lv_at hl 2 rfl) ?_
        obtain ⟨q6, hq6, h⟩ := Option.bind_eq_some_iff.mp h
        obtain ⟨v8, x7⟩ := q6
        replace h := un2_e h
        refine bq_callSi (As := [.long _, .int _]) S hK hD hA hP hS (cX7_byteOf_k hq6) hd_yX7_byteOf ml_X7_26 st_yX7_byteOf ⟨rfl, rfl⟩ ⟨by decide, by decide⟩ rfl hl.1 rfl (Nat.le_of_ble_eq_true rfl) ⟨Nat.zero_le _, Nat.zero_le _⟩ dX7_canHold_9 (fun H locs hP hS => ?_)
        refine lv_istore (lv' := [(4, .int v8), (0, .long v1), (2, .int v2), (3, .int v3)]) hx hb dX7_canHold_12 hl (by decide) rfl (fun ls hl => ?_)
        refine lv_iload hx hb dX7_canHold_14 (lv_at hl 0 rfl) ?_
        refine lv_bipush (v := (32 : Int32)) hx hb dX7_canHold_16 (by decide) ?_
        refine lv_icmp_lt (tgt := 28) hx hb dX7_canHold_18 (by decide) (fun c9 => ?_) (fun c9 => ?_)
        · replace h := (if_pos c9).symm.trans h
          refine lv_iconst (v := (0 : Int32)) hx hb dX7_canHold_28 (by decide) ?_
          obtain ⟨e1, e2⟩ := Prod.mk.inj (hret _ h)
          exact hR _ _ _ _ _ (congrArg some e1) rfl (by rw [e2]; exact hP) hS dX7_canHold_29
        · replace h := (if_neg c9).symm.trans h
          refine lv_iload hx hb dX7_canHold_21 (lv_at hl 0 rfl) ?_
          refine lv_bipush (v := (126 : Int32)) hx hb dX7_canHold_23 (by decide) ?_
          refine lv_icmp_le (tgt := 30) hx hb dX7_canHold_25 (by decide) (fun c10 => ?_) (fun c10 => ?_)
          · replace h := (if_pos c10).symm.trans h
            obtain ⟨v11, hv11, h⟩ := bq_b h
            refine lv_iinc (v := v11) (lv' := [(3, .int v11), (4, .int v8), (0, .long v1), (2, .int v2)]) hx hb dX7_canHold_30 hl (k := 3) rfl (by rw [hv11]; rfl) (by decide) rfl (fun ls hl => ?_)
            refine lv_goto (tgt := 2) hx hb dX7_canHold_33 (by decide) ?_
            cases h
            exact ih _ _ _ _ _ _ hw hP hS (lv_sub hl [2, 3, 0] rfl) kx kr
          · replace h := (if_neg c10).symm.trans h
            refine lv_iconst (v := (0 : Int32)) hx hb dX7_canHold_28 (by decide) ?_
            obtain ⟨e1, e2⟩ := Prod.mk.inj (hret _ h)
            exact hR _ _ _ _ _ (congrArg some e1) rfl (by rw [e2]; exact hP) hS dX7_canHold_29
  obtain ⟨e12, he12, h⟩ := Option.bind_eq_some_iff.mp h
  refine hl2 _ _ n _ _ e12 _ _ _ he12 hP hS (lv_sub hl [1, 2, 0] rfl) (fun H locs ls v13 x14 hz hP hS hl => ?_) (fun z hz => hret z (bq_ir h hz))
  replace h := bq_il h hz
  replace h := un2_e h
  refine lv_iconst (v := (1 : Int32)) hx hb dX7_canHold_36 (by decide) ?_
  obtain ⟨e1, e2⟩ := Prod.mk.inj (hret _ h)
  exact hR _ _ _ _ _ (congrArg some e1) rfl (by rw [e2]; exact hP) hS dX7_canHold_37
def fX7_append_b5 (n : Nat) (v2 : Int64) (v : Int32 × bq_S) : Option ((Int32 × bq_S) ⊕ (Int32 × bq_S)) :=
  un2 v (fun v3 x4 =>
  if v3 < 0 then
  some (.inr (v3, x4))
  else
  (fX7_byteOf v2 v3 x4).bind (fun q6 => un2 q6 (fun v8 x7 =>
  if ok_i (x4.1 22 2) 60 then
  bd (bq_sI x7 23 (x4.1 22 2).toNatClampNeg (vp_nar .byte v8.toInt8.toInt32)) (fun x9 =>
  bd (bq_sI x9 22 2 ((x9.1 22 2) + (1 : Int32))) (fun x11 =>
  bd (v3 + (-1 : Int32)) (fun v12 =>
  some (.inl (v12, x11)))))
  else none)))
def fX7_append (n : Nat) (p1 : Int64) (p3 : Int32) (x0 : bq_S) : Option (Int32 × bq_S) :=
  bd (p3 - (1 : Int32)) (fun v1 =>
  (wh n (fX7_append_b5 n p1) (v1, x0)).bind (fun e13 => un2 e13 (fun v14 x15 =>
  some ((x15.1 22 2), x15))))
theorem dX7_append_0 : decode cX7_append 0 = .ok (.iload_n 3, 1) := by decide +kernel
theorem dX7_append_1 : decode cX7_append 1 = .ok (.iconst 1, 1) := by decide +kernel
theorem dX7_append_2 : decode cX7_append 2 = .ok (.isub, 1) := by decide +kernel
theorem dX7_append_3 : decode cX7_append 3 = .ok (.istore 4, 2) := by decide +kernel
theorem dX7_append_5 : decode cX7_append 5 = .ok (.iload 4, 2) := by decide +kernel
theorem dX7_append_7 : decode cX7_append 7 = .ok (.ifCond .lt 35, 3) := by decide +kernel
theorem dX7_append_10 : decode cX7_append 10 = .ok (.aload_n 0, 1) := by decide +kernel
theorem dX7_append_11 : decode cX7_append 11 = .ok (.getfield 9, 3) := by decide +kernel
theorem dX7_append_14 : decode cX7_append 14 = .ok (.aload_n 0, 1) := by decide +kernel
theorem dX7_append_15 : decode cX7_append 15 = .ok (.getfield 19, 3) := by decide +kernel
theorem dX7_append_18 : decode cX7_append 18 = .ok (.lload_n 1, 1) := by decide +kernel
theorem dX7_append_19 : decode cX7_append 19 = .ok (.iload 4, 2) := by decide +kernel
theorem dX7_append_21 : decode cX7_append 21 = .ok (.invokestatic 26, 3) := by decide +kernel
theorem dX7_append_24 : decode cX7_append 24 = .ok (.i2b, 1) := by decide +kernel
theorem dX7_append_25 : decode cX7_append 25 = .ok (.bastore, 1) := by decide +kernel
theorem dX7_append_26 : decode cX7_append 26 = .ok (.aload_n 0, 1) := by decide +kernel
theorem dX7_append_27 : decode cX7_append 27 = .ok (.dup, 1) := by decide +kernel
theorem dX7_append_28 : decode cX7_append 28 = .ok (.getfield 19, 3) := by decide +kernel
theorem dX7_append_31 : decode cX7_append 31 = .ok (.iconst 1, 1) := by decide +kernel
theorem dX7_append_32 : decode cX7_append 32 = .ok (.iadd, 1) := by decide +kernel
theorem dX7_append_33 : decode cX7_append 33 = .ok (.putfield 19, 3) := by decide +kernel
theorem dX7_append_36 : decode cX7_append 36 = .ok (.iinc 4 (-1), 3) := by decide +kernel
theorem dX7_append_39 : decode cX7_append 39 = .ok (.goto (-34), 3) := by decide +kernel
theorem dX7_append_42 : decode cX7_append 42 = .ok (.aload_n 0, 1) := by decide +kernel
theorem dX7_append_43 : decode cX7_append 43 = .ok (.getfield 19, 3) := by decide +kernel
theorem dX7_append_46 : decode cX7_append 46 = .ok (.ireturn, 1) := by decide +kernel
set_option maxHeartbeats 4000000 in
set_option maxRecDepth 100000 in
theorem cX7_append_k_22 {l : Launch} {D : va_G} {a : Nat → Nat} {k : Nat → ClassId} {n : Nat} {p1 : Int64} {p3 : Int32} {x0 xz : bq_S} {rz : Int32} (h : fX7_append n p1 p3 x0 = some (rz, xz)) : bq_M l D bq_cl (bq_ty k) (bq_wC a k) yX7_append cX7_append 5 (some .int) { frames := 1, cells := 0, slots := 0, locals := 22 } [.ref (a 22), .long p1, .int p3] x0 (some rz) xz := by
  refine bq_ofW RX7 [(0, .ref (a 22)), (1, .long p1), (3, .int p3)] (by decide +kernel) rfl (Nat.le_of_ble_eq_true rfl) rfl (bq_adC a k) ?_
  intro p e s m below meth c A Q ls S hK hD hA hR hS hP hl
  have hx := S.1; have hb := S.2.1; have hml := S.2.2.1; have hown := S.2.2.2.1; have hts := S.2.2.2.2
  have hret : ∀ z, some z = some (rz, xz) → (rz, xz) = z := fun z h => (Option.some.inj h).symm
  unfold fX7_append at h
  refine lv_iload_n hx hb dX7_append_0 rfl (lv_at hl 2 rfl) ?_
  refine lv_iconst (v := (1 : Int32)) hx hb dX7_append_1 (by decide) ?_
  refine lv_isub hx hb dX7_append_2 ?_
  refine lv_topi (fun v1 hv1 => ?_)
  replace h := bq_bv h hv1
  refine lv_istore (lv' := [(4, .int v1), (0, .ref (a 22)), (1, .long p1), (3, .int p3)]) hx hb dX7_append_3 hl (by decide) rfl (fun ls hl => ?_)
  have hl5 : ∀ (v2 : Int64) (kf : Nat) (v3 : Int32) (x4 : bq_S) (eo : Int32 × bq_S) (H : Heap) (locs : List Loc) (ls : Array Slot), wh kf (fX7_append_b5 n v2) (v3, x4) = some eo → va_P D bq_cl (bq_wC a k x4) H → va_S A s.heap H locs → lv_has ls 5 [(0, .ref (a 22)), (1, .long v2), (4, .int v3)] → (∀ (H : Heap) (locs : List Loc) (ls : Array Slot) (v14 : Int32) (x15 : bq_S), eo = (v14, x15) → va_P D bq_cl (bq_wC a k x15) H → va_S A s.heap H locs → lv_has ls 5 [(0, .ref (a 22))] → W p l e { frames := 1, cells := 0, slots := 0, locals := 22 } s m [.ref (a 22), .long p1, .int p3].toArray below meth c H locs 0 0 Q (F0 m 42 ls [])) → W p l e { frames := 1, cells := 0, slots := 0, locals := 22 } s m [.ref (a 22), .long p1, .int p3].toArray below meth c H locs 0 0 Q (F0 m 5 ls []) := by
    intro v2 kf
    induction kf with
    | zero => intro v3 x4 eo H locs ls h; cases h
    | succ kf ih =>
      intro v3 x4 eo H locs ls h hP hS hl kx
      obtain ⟨out, h, hw⟩ := wh_s h
      unfold fX7_append_b5 at h
      replace h := un2_e h
      refine lv_iload hx hb dX7_append_5 (lv_at hl 2 rfl) ?_
      refine lv_if_lt (tgt := 42) hx hb dX7_append_7 (by decide) (fun c5 => ?_) (fun c5 => ?_)
      · replace h := (if_pos c5).symm.trans h
        cases h
        exact kx _ _ _ _ _ (Option.some.inj hw).symm hP hS (lv_sub hl [0] rfl)
      · replace h := (if_neg c5).symm.trans h
        refine lv_aload_n hx hb dX7_append_10 rfl (lv_at hl 0 rfl) ?_
        refine bq_get (q0 := 22) S hK hP fl_X7_9_X7_0 rfl rfl rfl dX7_append_11 ?_
        refine lv_aload_n hx hb dX7_append_14 rfl (lv_at hl 0 rfl) ?_
        refine bq_get (q0 := 22) S hK hP fl_X7_19_X7_2 rfl rfl rfl dX7_append_15 ?_
        refine lv_lload_n hx hb dX7_append_18 rfl (lv_at hl 1 rfl) ?_
        refine lv_iload hx hb dX7_append_19 (lv_at hl 2 rfl) ?_
        obtain ⟨q6, hq6, h⟩ := Option.bind_eq_some_iff.mp h
        obtain ⟨v8, x7⟩ := q6
        replace h := un2_e h
        refine bq_callSi (As := [.long _, .int _]) S hK hD hA hP hS (cX7_byteOf_k hq6) hd_yX7_byteOf ml_X7_26 st_yX7_byteOf ⟨rfl, rfl⟩ ⟨by decide, by decide⟩ rfl hl.1 rfl (Nat.le_of_ble_eq_true rfl) ⟨Nat.zero_le _, Nat.zero_le _⟩ dX7_append_21 (fun H locs hP hS => ?_)
        refine lv_i2b hx hb dX7_append_24 rfl ?_
        obtain ⟨g10, h⟩ := bq_gd h
        obtain ⟨x9, hx9, h⟩ := bq_b h
        refine bq_bast (x1 := x9) (q0 := 23) (t0 := 2) S hK hD hP hS rfl rfl g10 (by rw [hx9]; rfl) dX7_append_25 (fun H locs hP hS => ?_)
        refine lv_aload_n hx hb dX7_append_26 rfl (lv_at hl 0 rfl) ?_
        refine lv_dup hx hb dX7_append_27 rfl ?_
        refine bq_get (q0 := 22) S hK hP fl_X7_19_X7_2 rfl rfl rfl dX7_append_28 ?_
        refine lv_iconst (v := (1 : Int32)) hx hb dX7_append_31 (by decide) ?_
        refine lv_iadd hx hb dX7_append_32 ?_
        obtain ⟨x11, hx11, h⟩ := bq_b h
        refine bq_put (x1 := x11) (q0 := 22) (ty := .int) S hK hD hP hS fl_X7_19_X7_2 bt_X7 rfl (by decide +kernel) rfl rfl (Nat.le_of_ble_eq_true rfl) rfl rfl (by rw [hx11]; rfl) dX7_append_33 (fun H locs hP hS => ?_)
        obtain ⟨v12, hv12, h⟩ := bq_b h
        refine lv_iinc (v := v12) (lv' := [(4, .int v12), (0, .ref (a 22)), (1, .long v2)]) hx hb dX7_append_36 hl (k := 2) rfl (by rw [hv12]; rfl) (by decide) rfl (fun ls hl => ?_)
        refine lv_goto (tgt := 5) hx hb dX7_append_39 (by decide) ?_
        cases h
        exact ih _ _ _ _ _ _ hw hP hS (lv_sub hl [1, 2, 0] rfl) kx
  obtain ⟨e13, he13, h⟩ := Option.bind_eq_some_iff.mp h
  refine hl5 _ n _ _ e13 _ _ _ he13 hP hS (lv_sub hl [1, 2, 0] rfl) (fun H locs ls v14 x15 hz hP hS hl => ?_)
  subst hz
  replace h := un2_e h
  refine lv_aload_n hx hb dX7_append_42 rfl (lv_at hl 0 rfl) ?_
  refine bq_get (q0 := 22) S hK hP fl_X7_19_X7_2 rfl rfl rfl dX7_append_43 ?_
  obtain ⟨e1, e2⟩ := Prod.mk.inj (hret _ h)
  exact hR _ _ _ _ _ (congrArg some e1) rfl (by rw [e2]; exact hP) hS dX7_append_46
def fX9_type (n : Nat) (p1 : Int64) (p3 : Int32) (x0 : bq_S) : Option (Int32 × bq_S) :=
  if p3 < (1 : Int32) then
  some ((-1 : Int32), x0)
  else
  if (8 : Int32) < p3 then
  some ((-1 : Int32), x0)
  else
  (fX7_canHold n p1 p3 x0).bind (fun q3 => un2 q3 (fun v5 x4 =>
  if v5 = 0 then
  some ((-1 : Int32), x4)
  else
  if ((x4.1 22 2) + p3) ≤ (60 : Int32) then
  (fX7_append n p1 p3 x4).bind (fun q8 => un2 q8 (fun v10 x9 =>
  some (v10, x9)))
  else
  some ((-3 : Int32), x4)))
theorem dX9_type_0 : decode cX9_type 0 = .ok (.iload_n 3, 1) := by decide +kernel
theorem dX9_type_1 : decode cX9_type 1 = .ok (.iconst 1, 1) := by decide +kernel
theorem dX9_type_2 : decode cX9_type 2 = .ok (.if_icmp .lt 17, 3) := by decide +kernel
theorem dX9_type_5 : decode cX9_type 5 = .ok (.iload_n 3, 1) := by decide +kernel
theorem dX9_type_6 : decode cX9_type 6 = .ok (.bipush 8, 2) := by decide +kernel
theorem dX9_type_8 : decode cX9_type 8 = .ok (.if_icmp .gt 11, 3) := by decide +kernel
theorem dX9_type_11 : decode cX9_type 11 = .ok (.lload_n 1, 1) := by decide +kernel
theorem dX9_type_12 : decode cX9_type 12 = .ok (.iload_n 3, 1) := by decide +kernel
theorem dX9_type_13 : decode cX9_type 13 = .ok (.invokestatic 124, 3) := by decide +kernel
theorem dX9_type_16 : decode cX9_type 16 = .ok (.ifCond .ne 5, 3) := by decide +kernel
theorem dX9_type_19 : decode cX9_type 19 = .ok (.iconst (-1), 1) := by decide +kernel
theorem dX9_type_20 : decode cX9_type 20 = .ok (.ireturn, 1) := by decide +kernel
theorem dX9_type_21 : decode cX9_type 21 = .ok (.aload_n 0, 1) := by decide +kernel
theorem dX9_type_22 : decode cX9_type 22 = .ok (.getfield 25, 3) := by decide +kernel
theorem dX9_type_25 : decode cX9_type 25 = .ok (.getfield 128, 3) := by decide +kernel
theorem dX9_type_28 : decode cX9_type 28 = .ok (.iload_n 3, 1) := by decide +kernel
theorem dX9_type_29 : decode cX9_type 29 = .ok (.iadd, 1) := by decide +kernel
theorem dX9_type_30 : decode cX9_type 30 = .ok (.bipush 60, 2) := by decide +kernel
theorem dX9_type_32 : decode cX9_type 32 = .ok (.if_icmp .le 6, 3) := by decide +kernel
theorem dX9_type_35 : decode cX9_type 35 = .ok (.bipush (-3), 2) := by decide +kernel
theorem dX9_type_37 : decode cX9_type 37 = .ok (.ireturn, 1) := by decide +kernel
theorem dX9_type_38 : decode cX9_type 38 = .ok (.aload_n 0, 1) := by decide +kernel
theorem dX9_type_39 : decode cX9_type 39 = .ok (.getfield 25, 3) := by decide +kernel
theorem dX9_type_42 : decode cX9_type 42 = .ok (.lload_n 1, 1) := by decide +kernel
theorem dX9_type_43 : decode cX9_type 43 = .ok (.iload_n 3, 1) := by decide +kernel
theorem dX9_type_44 : decode cX9_type 44 = .ok (.invokevirtual 131, 3) := by decide +kernel
theorem dX9_type_47 : decode cX9_type 47 = .ok (.ireturn, 1) := by decide +kernel
set_option maxHeartbeats 4000000 in
set_option maxRecDepth 100000 in
theorem cX9_type_k_0 {l : Launch} {D : va_G} {a : Nat → Nat} {k : Nat → ClassId} {n : Nat} {p1 : Int64} {p3 : Int32} {x0 xz : bq_S} {rz : Int32} (h : fX9_type n p1 p3 x0 = some (rz, xz)) : bq_M l D bq_cl (bq_ty k) (bq_wC a k) yX9_type cX9_type 4 (some .int) { frames := 2, cells := 0, slots := 0, locals := 46 } [.ref (a 0), .long p1, .int p3] x0 (some rz) xz := by
  refine bq_ofW RX9 [(0, .ref (a 0)), (1, .long p1), (3, .int p3)] (by decide +kernel) rfl (Nat.le_of_ble_eq_true rfl) rfl (bq_adC a k) ?_
  intro p e s m below meth c A Q ls S hK hD hA hR hS hP hl
  have hx := S.1; have hb := S.2.1; have hml := S.2.2.1; have hown := S.2.2.2.1; have hts := S.2.2.2.2
  have hret : ∀ z, some z = some (rz, xz) → (rz, xz) = z := fun z h => (Option.some.inj h).symm
  unfold fX9_type at h
  refine lv_iload_n hx hb dX9_type_0 rfl (lv_at hl 2 rfl) ?_
  refine lv_iconst (v := (1 : Int32)) hx hb dX9_type_1 (by decide) ?_
  refine lv_icmp_lt (tgt := 19) hx hb dX9_type_2 (by decide) (fun c1 => ?_) (fun c1 => ?_)
  · replace h := (if_pos c1).symm.trans h
    refine lv_iconst (v := (-1 : Int32)) hx hb dX9_type_19 (by decide) ?_
    obtain ⟨e1, e2⟩ := Prod.mk.inj (hret _ h)
    exact hR _ _ _ _ _ (congrArg some e1) rfl (by rw [e2]; exact hP) hS dX9_type_20
  · replace h := (if_neg c1).symm.trans h
    refine lv_iload_n hx hb dX9_type_5 rfl (lv_at hl 2 rfl) ?_
    refine lv_bipush (v := (8 : Int32)) hx hb dX9_type_6 (by decide) ?_
    refine lv_icmp_gt (tgt := 19) hx hb dX9_type_8 (by decide) (fun c2 => ?_) (fun c2 => ?_)
    · replace h := (if_pos c2).symm.trans h
      refine lv_iconst (v := (-1 : Int32)) hx hb dX9_type_19 (by decide) ?_
      obtain ⟨e1, e2⟩ := Prod.mk.inj (hret _ h)
      exact hR _ _ _ _ _ (congrArg some e1) rfl (by rw [e2]; exact hP) hS dX9_type_20
    · replace h := (if_neg c2).symm.trans h
      refine lv_lload_n hx hb dX9_type_11 rfl (lv_at hl 1 rfl) ?_
      refine lv_iload_n hx hb dX9_type_12 rfl (lv_at hl 2 rfl) ?_
      obtain ⟨q3, hq3, h⟩ := Option.bind_eq_some_iff.mp h
      obtain ⟨v5, x4⟩ := q3
      replace h := un2_e h
      refine bq_callSi (As := [.long _, .int _]) S hK hD hA hP hS (cX7_canHold_k hq3) hd_yX7_canHold ml_X9_124 st_yX7_canHold ⟨rfl, rfl⟩ ⟨by decide, by decide⟩ rfl hl.1 rfl (Nat.le_of_ble_eq_true rfl) ⟨Nat.zero_le _, Nat.zero_le _⟩ dX9_type_13 (fun H locs hP hS => ?_)
      refine lv_if_ne (tgt := 21) hx hb dX9_type_16 (by decide) (fun c6 => ?_) (fun c6 => ?_)
      · replace h := (if_neg c6).symm.trans h
        refine lv_aload_n hx hb dX9_type_21 rfl (lv_at hl 0 rfl) ?_
        refine bq_get (q0 := 0) S hK hP fl_X9_25_X9_3 rfl rfl rfl dX9_type_22 ?_
        refine bq_get (q0 := 22) S hK hP fl_X9_128_X7_2 rfl rfl rfl dX9_type_25 ?_
        refine lv_iload_n hx hb dX9_type_28 rfl (lv_at hl 2 rfl) ?_
        refine lv_iadd hx hb dX9_type_29 ?_
        refine lv_bipush (v := (60 : Int32)) hx hb dX9_type_30 (by decide) ?_
        refine lv_icmp_le (tgt := 38) hx hb dX9_type_32 (by decide) (fun c7 => ?_) (fun c7 => ?_)
        · replace h := (if_pos c7).symm.trans h
          refine lv_aload_n hx hb dX9_type_38 rfl (lv_at hl 0 rfl) ?_
          refine bq_get (q0 := 0) S hK hP fl_X9_25_X9_3 rfl rfl rfl dX9_type_39 ?_
          refine lv_lload_n hx hb dX9_type_42 rfl (lv_at hl 1 rfl) ?_
          refine lv_iload_n hx hb dX9_type_43 rfl (lv_at hl 2 rfl) ?_
          obtain ⟨q8, hq8, h⟩ := Option.bind_eq_some_iff.mp h
          obtain ⟨v10, x9⟩ := q8
          replace h := un2_e h
          refine bq_callVi (q0 := 22) (As := [.long _, .int _]) S hK hD hA hP hS (cX7_append_k_22 hq8) hd_yX7_append ml_X9_131 in_yX7_append sl_X7_X7_yX7_append ⟨rfl, rfl⟩ ⟨by decide, by decide⟩ rfl rfl rfl hl.1 rfl (Nat.le_of_ble_eq_true rfl) ⟨Nat.zero_le _, Nat.zero_le _⟩ dX9_type_44 (fun H locs hP hS => ?_)
          obtain ⟨e1, e2⟩ := Prod.mk.inj (hret _ h)
          exact hR _ _ _ _ _ (congrArg some e1) rfl (by rw [e2]; exact hP) hS dX9_type_47
        · replace h := (if_neg c7).symm.trans h
          refine lv_bipush (v := (-3 : Int32)) hx hb dX9_type_35 (by decide) ?_
          obtain ⟨e1, e2⟩ := Prod.mk.inj (hret _ h)
          exact hR _ _ _ _ _ (congrArg some e1) rfl (by rw [e2]; exact hP) hS dX9_type_37
      · replace h := (if_pos c6).symm.trans h
        refine lv_iconst (v := (-1 : Int32)) hx hb dX9_type_19 (by decide) ?_
        obtain ⟨e1, e2⟩ := Prod.mk.inj (hret _ h)
        exact hR _ _ _ _ _ (congrArg some e1) rfl (by rw [e2]; exact hP) hS dX9_type_20
