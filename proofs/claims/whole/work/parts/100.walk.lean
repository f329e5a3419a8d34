def fX9_isThickness (p0 : Int32) (x0 : bq_S) : Option (Int32 × bq_S) :=
  if p0 < (1 : Int32) then
  some ((0 : Int32), x0)
  else
  if (9 : Int32) < p0 then
  some ((0 : Int32), x0)
  else
  some ((1 : Int32), x0)
theorem dX9_isThickness_0 : decode cX9_isThickness 0 = .ok (.iload_n 0, 1) := by decide +kernel
theorem dX9_isThickness_1 : decode cX9_isThickness 1 = .ok (.iconst 1, 1) := by decide +kernel
theorem dX9_isThickness_2 : decode cX9_isThickness 2 = .ok (.if_icmp .lt 13, 3) := by decide +kernel
theorem dX9_isThickness_5 : decode cX9_isThickness 5 = .ok (.iload_n 0, 1) := by decide +kernel
theorem dX9_isThickness_6 : decode cX9_isThickness 6 = .ok (.bipush 9, 2) := by decide +kernel
theorem dX9_isThickness_8 : decode cX9_isThickness 8 = .ok (.if_icmp .gt 7, 3) := by decide +kernel
theorem dX9_isThickness_11 : decode cX9_isThickness 11 = .ok (.iconst 1, 1) := by decide +kernel
theorem dX9_isThickness_12 : decode cX9_isThickness 12 = .ok (.goto 4, 3) := by decide +kernel
theorem dX9_isThickness_15 : decode cX9_isThickness 15 = .ok (.iconst 0, 1) := by decide +kernel
theorem dX9_isThickness_16 : decode cX9_isThickness 16 = .ok (.ireturn, 1) := by decide +kernel
set_option maxHeartbeats 4000000 in
set_option maxRecDepth 100000 in
theorem cX9_isThickness_k {l : Launch} {D : va_G} {a : Nat → Nat} {k : Nat → ClassId} {p0 : Int32} {x0 xz : bq_S} {rz : Int32} (h : fX9_isThickness  p0 x0 = some (rz, xz)) : bq_M l D bq_cl (bq_ty k) (bq_wC a k) yX9_isThickness cX9_isThickness 1 (some .boolean) { frames := 0, cells := 0, slots := 0, locals := 0 } [.int p0] x0 (some rz) xz := by
  refine bq_ofW RX9 [(0, .int p0)] (by decide +kernel) rfl (Nat.le_of_ble_eq_true rfl) rfl (bq_adC a k) ?_
  intro p e s m below meth c A Q ls S hK hD hA hR hS hP hl
  have hx := S.1; have hb := S.2.1; have hml := S.2.2.1; have hown := S.2.2.2.1; have hts := S.2.2.2.2
  have hret : ∀ z, some z = some (rz, xz) → (rz, xz) = z := fun z h => (Option.some.inj h).symm
  unfold fX9_isThickness at h
  refine lv_iload_n hx hb dX9_isThickness_0 rfl (lv_at hl 0 rfl) ?_
  refine lv_iconst (v := (1 : Int32)) hx hb dX9_isThickness_1 (by decide) ?_
  refine lv_icmp_lt (tgt := 15) hx hb dX9_isThickness_2 (by decide) (fun c1 => ?_) (fun c1 => ?_)
  · replace h := (if_pos c1).symm.trans h
    refine lv_iconst (v := (0 : Int32)) hx hb dX9_isThickness_15 (by decide) ?_
    obtain ⟨e1, e2⟩ := Prod.mk.inj (hret _ h)
    exact hR _ _ _ _ _ (congrArg some e1) rfl (by rw [e2]; exact hP) hS dX9_isThickness_16
  · replace h := (if_neg c1).symm.trans h
    refine lv_iload_n hx hb dX9_isThickness_5 rfl (lv_at hl 0 rfl) ?_
    refine lv_bipush (v := (9 : Int32)) hx hb dX9_isThickness_6 (by decide) ?_
    refine lv_icmp_gt (tgt := 15) hx hb dX9_isThickness_8 (by decide) (fun c2 => ?_) (fun c2 => ?_)
    · replace h := (if_pos c2).symm.trans h
      refine lv_iconst (v := (0 : Int32)) hx hb dX9_isThickness_15 (by decide) ?_
      obtain ⟨e1, e2⟩ := Prod.mk.inj (hret _ h)
      exact hR _ _ _ _ _ (congrArg some e1) rfl (by rw [e2]; exact hP) hS dX9_isThickness_16
    · replace h := (if_neg c2).symm.trans h
      refine lv_iconst (v := (1 : Int32)) hx hb dX9_isThickness_11 (by decide) ?_
      refine lv_goto (tgt := 16) hx hb dX9_isThickness_12 (by decide) ?_
      obtain ⟨e1, e2⟩ := Prod.mk.inj (hret _ h)
      exact hR _ _ _ _ _ (congrArg some e1) rfl (by rw [e2]; exact hP) hS dX9_isThickness_16
def fX4_isBook (q0 : Nat) (p1 : Int64) (x0 : bq_S) : Option (Int32 × bq_S) :=
  if (lg_cmp p1 (0 : Int64)) < 0 then
  some ((0 : Int32), x0)
  else
  if 0 ≤ (lg_cmp p1 (x0.1 q0 0).toInt64) then
  some ((0 : Int32), x0)
  else
  some ((1 : Int32), x0)
theorem dX4_isBook_0 : decode cX4_isBook 0 = .ok (.lload_n 1, 1) := by decide +kernel
theorem dX4_isBook_1 : decode cX4_isBook 1 = .ok (.lconst 0, 1) := by decide +kernel
theorem dX4_isBook_2 : decode cX4_isBook 2 = .ok (.lcmp, 1) := by decide +kernel
theorem dX4_isBook_3 : decode cX4_isBook 3 = .ok (.ifCond .lt 17, 3) := by decide +kernel
theorem dX4_isBook_6 : decode cX4_isBook 6 = .ok (.lload_n 1, 1) := by decide +kernel
theorem dX4_isBook_7 : decode cX4_isBook 7 = .ok (.aload_n 0, 1) := by decide +kernel
theorem dX4_isBook_8 : decode cX4_isBook 8 = .ok (.getfield 9, 3) := by decide +kernel
theorem dX4_isBook_11 : decode cX4_isBook 11 = .ok (.i2l, 1) := by decide +kernel
theorem dX4_isBook_12 : decode cX4_isBook 12 = .ok (.lcmp, 1) := by decide +kernel
theorem dX4_isBook_13 : decode cX4_isBook 13 = .ok (.ifCond .ge 7, 3) := by decide +kernel
theorem dX4_isBook_16 : decode cX4_isBook 16 = .ok (.iconst 1, 1) := by decide +kernel
theorem dX4_isBook_17 : decode cX4_isBook 17 = .ok (.goto 4, 3) := by decide +kernel
theorem dX4_isBook_20 : decode cX4_isBook 20 = .ok (.iconst 0, 1) := by decide +kernel
theorem dX4_isBook_21 : decode cX4_isBook 21 = .ok (.ireturn, 1) := by decide +kernel
set_option maxHeartbeats 4000000 in
set_option maxRecDepth 100000 in
theorem cX4_isBook_k_1 {l : Launch} {D : va_G} {a : Nat → Nat} {k : Nat → ClassId} {p1 : Int64} {x0 xz : bq_S} {rz : Int32} (h : fX4_isBook  1 p1 x0 = some (rz, xz)) : bq_M l D bq_cl (bq_ty k) (bq_wC a k) yX4_isBook cX4_isBook 3 (some .boolean) { frames := 0, cells := 0, slots := 0, locals := 0 } [.ref (a 1), .long p1] x0 (some rz) xz := by
  refine bq_ofW RX4 [(0, .ref (a 1)), (1, .long p1)] (by decide +kernel) rfl (Nat.le_of_ble_eq_true rfl) rfl (bq_adC a k) ?_
  intro p e s m below meth c A Q ls S hK hD hA hR hS hP hl
  have hx := S.1; have hb := S.2.1; have hml := S.2.2.1; have hown := S.2.2.2.1; have hts := S.2.2.2.2
  have hret : ∀ z, some z = some (rz, xz) → (rz, xz) = z := fun z h => (Option.some.inj h).symm
  unfold fX4_isBook at h
  refine lv_lload_n hx hb dX4_isBook_0 rfl (lv_at hl 1 rfl) ?_
  refine lv_lconst (v := (0 : Int64)) hx hb dX4_isBook_1 (by decide) ?_
  refine W.lcmp hx hb dX4_isBook_2 ?_
  refine lv_if_lt (tgt := 20) hx hb dX4_isBook_3 (by decide) (fun c1 => ?_) (fun c1 => ?_)
  · replace h := (if_pos c1).symm.trans h
    refine lv_iconst (v := (0 : Int32)) hx hb dX4_isBook_20 (by decide) ?_
    obtain ⟨e1, e2⟩ := Prod.mk.inj (hret _ h)
    exact hR _ _ _ _ _ (congrArg some e1) rfl (by rw [e2]; exact hP) hS dX4_isBook_21
  · replace h := (if_neg c1).symm.trans h
    refine lv_lload_n hx hb dX4_isBook_6 rfl (lv_at hl 1 rfl) ?_
    refine lv_aload_n hx hb dX4_isBook_7 rfl (lv_at hl 0 rfl) ?_
    refine bq_get (q0 := 1) S hK hP fl_X4_9_X4_0 rfl rfl rfl dX4_isBook_8 ?_
    refine lv_i2l hx hb dX4_isBook_11 rfl ?_
    refine W.lcmp hx hb dX4_isBook_12 ?_
    refine lv_if_ge (tgt := 20) hx hb dX4_isBook_13 (by decide) (fun c2 => ?_) (fun c2 => ?_)
    · replace h := (if_pos c2).symm.trans h
      refine lv_iconst (v := (0 : Int32)) hx hb dX4_isBook_20 (by decide) ?_
      obtain ⟨e1, e2⟩ := Prod.mk.inj (hret _ h)
      exact hR _ _ _ _ _ (congrArg some e1) rfl (by rw [e2]; exact hP) hS dX4_isBook_21
    · replace h := (if_neg c2).symm.trans h
      refine lv_iconst (v := (1 : Int32)) hx hb dX4_isBook_16 (by decide) ?_
      refine lv_goto (tgt := 21) hx hb dX4_isBook_17 (by decide) ?_
      obtain ⟨e1, e2⟩ := Prod.mk.inj (hret _ h)
      exact hR _ _ _ _ _ (congrArg some e1) rfl (by rw [e2]; exact hP) hS dX4_isBook_21
def fX4_areTwo (q0 : Nat) (p1 : Int32) (p2 : Int32) (x0 : bq_S) : Option (Int32 × bq_S) :=
  (fX4_isBook q0 p1.toInt64 x0).bind (fun o1 => un2 o1 (fun v3 x2 =>
  if v3 = 0 then
  some ((0 : Int32), x2)
  else
  (fX4_isBook q0 p2.toInt64 x2).bind (fun o5 => un2 o5 (fun v7 x6 =>
  if v7 = 0 then
  some ((0 : Int32), x6)
  else
  if p1 = p2 then
  some ((0 : Int32), x6)
  else
  some ((1 : Int32), x6)))))
theorem dX4_areTwo_0 : decode cX4_areTwo 0 = .ok (.aload_n 0, 1) := by decide +kernel
theorem dX4_areTwo_1 : decode cX4_areTwo 1 = .ok (.iload_n 1, 1) := by decide +kernel
theorem dX4_areTwo_2 : decode cX4_areTwo 2 = .ok (.i2l, 1) := by decide +kernel
theorem dX4_areTwo_3 : decode cX4_areTwo 3 = .ok (.invokevirtual 80, 3) := by decide +kernel
theorem dX4_areTwo_6 : decode cX4_areTwo 6 = .ok (.ifCond .eq 21, 3) := by decide +kernel
theorem dX4_areTwo_9 : decode cX4_areTwo 9 = .ok (.aload_n 0, 1) := by decide +kernel
theorem dX4_areTwo_10 : decode cX4_areTwo 10 = .ok (.iload_n 2, 1) := by decide +kernel
theorem dX4_areTwo_11 : decode cX4_areTwo 11 = .ok (.i2l, 1) := by decide +kernel
theorem dX4_areTwo_12 : decode cX4_areTwo 12 = .ok (.invokevirtual 80, 3) := by decide +kernel
theorem dX4_areTwo_15 : decode cX4_areTwo 15 = .ok (.ifCond .eq 12, 3) := by decide +kernel
theorem dX4_areTwo_18 : decode cX4_areTwo 18 = .ok (.iload_n 1, 1) := by decide +kernel
theorem dX4_areTwo_19 : decode cX4_areTwo 19 = .ok (.iload_n 2, 1) := by decide +kernel
theorem dX4_areTwo_20 : decode cX4_areTwo 20 = .ok (.if_icmp .eq 7, 3) := by decide +kernel
theorem dX4_areTwo_23 : decode cX4_areTwo 23 = .ok (.iconst 1, 1) := by decide +kernel
theorem dX4_areTwo_24 : decode cX4_areTwo 24 = .ok (.goto 4, 3) := by decide +kernel
theorem dX4_areTwo_27 : decode cX4_areTwo 27 = .ok (.iconst 0, 1) := by decide +kernel
theorem dX4_areTwo_28 : decode cX4_areTwo 28 = .ok (.ireturn, 1) := by decide +kernel
set_option maxHeartbeats 4000000 in
set_option maxRecDepth 100000 in
theorem cX4_areTwo_k_1 {l : Launch} {D : va_G} {a : Nat → Nat} {k : Nat → ClassId} {p1 : Int32} {p2 : Int32} {x0 xz : bq_S} {rz : Int32} (h : fX4_areTwo  1 p1 p2 x0 = some (rz, xz)) : bq_M l D bq_cl (bq_ty k) (bq_wC a k) yX4_areTwo cX4_areTwo 3 (some .boolean) { frames := 1, cells := 0, slots := 0, locals := 22 } [.ref (a 1), .int p1, .int p2] x0 (some rz) xz := by
  refine bq_ofW RX4 [(0, .ref (a 1)), (1, .int p1), (2, .int p2)] (by decide +kernel) rfl (Nat.le_of_ble_eq_true rfl) rfl (bq_adC a k) ?_
  intro p e s m below meth c A Q ls S hK hD hA hR hS hP hl
  have hx := S.1; have hb := S.2.1; have hml := S.2.2.1; have hown := S.2.2.2.1; have hts := S.2.2.2.2
  have hret : ∀ z, some z = some (rz, xz) → (rz, xz) = z := fun z h => (Option.some.inj h).symm
  unfold fX4_areTwo at h
  refine lv_aload_n hx hb dX4_areTwo_0 rfl (lv_at hl 0 rfl) ?_
  refine lv_iload_n hx hb dX4_areTwo_1 rfl (lv_at hl 1 rfl) ?_
  refine lv_i2l hx hb dX4_areTwo_2 rfl ?_
  obtain ⟨o1, ho1, h⟩ := Option.bind_eq_some_iff.mp h
  obtain ⟨v3, x2⟩ := o1
  replace h := un2_e h
  refine bq_callVi (q0 := 1) (As := [.long _]) S hK hD hA hP hS (cX4_isBook_k_1 ho1) hd_yX4_isBook ml_X4_80 in_yX4_isBook (hts _ sl_X4_X4_yX4_isBook) ⟨rfl, rfl⟩ ⟨by decide, by decide⟩ rfl rfl rfl hl.1 rfl (Nat.le_of_ble_eq_true rfl) ⟨Nat.zero_le _, Nat.zero_le _⟩ dX4_areTwo_3 (fun H locs hP hS => ?_)
  refine lv_if_eq (tgt := 27) hx hb dX4_areTwo_6 (by decide) (fun c4 => ?_) (fun c4 => ?_)
  · replace h := (if_pos c4).symm.trans h
    refine lv_iconst (v := (0 : Int32)) hx hb dX4_areTwo_27 (by decide) ?_
    obtain ⟨e1, e2⟩ := Prod.mk.inj (hret _ h)
    exact hR _ _ _ _ _ (congrArg some e1) rfl (by rw [e2]; exact hP) hS dX4_areTwo_28
  · replace h := (if_neg c4).symm.trans h
    refine lv_aload_n hx hb dX4_areTwo_9 rfl (lv_at hl 0 rfl) ?_
    refine lv_iload_n hx hb dX4_areTwo_10 rfl (lv_at hl 2 rfl) ?_
    refine lv_i2l hx hb dX4_areTwo_11 rfl ?_
    obtain ⟨o5, ho5, h⟩ := Option.bind_eq_some_iff.mp h
    obtain ⟨v7, x6⟩ := o5
    replace h := un2_e h
    refine bq_callVi (q0 := 1) (As := [.long _]) S hK hD hA hP hS (cX4_isBook_k_1 ho5) hd_yX4_isBook ml_X4_80 in_yX4_isBook (hts _ sl_X4_X4_yX4_isBook) ⟨rfl, rfl⟩ ⟨by decide, by decide⟩ rfl rfl rfl hl.1 rfl (Nat.le_of_ble_eq_true rfl) ⟨Nat.zero_le _, Nat.zero_le _⟩ dX4_areTwo_12 (fun H locs hP hS => ?_)
    refine lv_if_eq (tgt := 27) hx hb dX4_areTwo_15 (by decide) (fun c8 => ?_) (fun c8 => ?_)
    · replace h := (if_pos c8).symm.trans h
      refine lv_iconst (v := (0 : Int32)) hx hb dX4_areTwo_27 (by decide) ?_
      obtain ⟨e1, e2⟩ := Prod.mk.inj (hret _ h)
      exact hR _ _ _ _ _ (congrArg some e1) rfl (by rw [e2]; exact hP) hS dX4_areTwo_28
    · replace h := (if_neg c8).symm.trans h
      refine lv_iload_n hx hb dX4_areTwo_18 rfl (lv_at hl 1 rfl) ?_
      refine lv_iload_n hx hb dX4_areTwo_19 rfl (lv_at hl 2 rfl) ?_
      refine lv_icmp_eq (tgt := 27) hx hb dX4_areTwo_20 (by decide) (fun c9 => ?_) (fun c9 => ?_)
      · replace h := (if_pos c9).symm.trans h
        refine lv_iconst (v := (0 : Int32)) hx hb dX4_areTwo_27 (by decide) ?_
        obtain ⟨e1, e2⟩ := Prod.mk.inj (hret _ h)
        exact hR _ _ _ _ _ (congrArg some e1) rfl (by rw [e2]; exact hP) hS dX4_areTwo_28
      · replace h := (if_neg c9).symm.trans h
        refine lv_iconst (v := (1 : Int32)) hx hb dX4_areTwo_23 (by decide) ?_
        refine lv_goto (tgt := 28) hx hb dX4_areTwo_24 (by decide) ?_
        obtain ⟨e1, e2⟩ := Prod.mk.inj (hret _ h)
        exact hR _ _ _ _ _ (congrArg some e1) rfl (by rw [e2]; exact hP) hS dX4_areTwo_28
def fX9_has (p0 : Int32) (p1 : Int32) (x0 : bq_S) : Option (Int32 × bq_S) :=
  if (p0 &&& ((1 : Int32) <<< (p1 &&& 31))) = 0 then
  some ((0 : Int32), x0)
  else
  some ((1 : Int32), x0)
theorem dX9_has_0 : decode cX9_has 0 = .ok (.iload_n 0, 1) := by decide +kernel
theorem dX9_has_1 : decode cX9_has 1 = .ok (.iconst 1, 1) := by decide +kernel
theorem dX9_has_2 : decode cX9_has 2 = .ok (.iload_n 1, 1) := by decide +kernel
theorem dX9_has_3 : decode cX9_has 3 = .ok (.ishl, 1) := by decide +kernel
theorem dX9_has_4 : decode cX9_has 4 = .ok (.iand, 1) := by decide +kernel
theorem dX9_has_5 : decode cX9_has 5 = .ok (.ifCond .eq 7, 3) := by decide +kernel
theorem dX9_has_8 : decode cX9_has 8 = .ok (.iconst 1, 1) := by decide +kernel
theorem dX9_has_9 : decode cX9_has 9 = .ok (.goto 4, 3) := by decide +kernel
theorem dX9_has_12 : decode cX9_has 12 = .ok (.iconst 0, 1) := by decide +kernel
theorem dX9_has_13 : decode cX9_has 13 = .ok (.ireturn, 1) := by decide +kernel
set_option maxHeartbeats 4000000 in
set_option maxRecDepth 100000 in
theorem cX9_has_k {l : Launch} {D : va_G} {a : Nat → Nat} {k : Nat → ClassId} {p0 : Int32} {p1 : Int32} {x0 xz : bq_S} {rz : Int32} (h : fX9_has  p0 p1 x0 = some (rz, xz)) : bq_M l D bq_cl (bq_ty k) (bq_wC a k) yX9_has cX9_has 2 (some .boolean) { frames := 0, cells := 0, slots := 0, locals := 0 } [.int p0, .int p1] x0 (some rz) xz := by
  refine bq_ofW RX9 [(0, .int p0), (1, .int p1)] (by decide +kernel) rfl (Nat.le_of_ble_eq_true rfl) rfl (bq_adC a k) ?_
  intro p e s m below meth c A Q ls S hK hD hA hR hS hP hl
  have hx := S.1; have hb := S.2.1; have hml := S.2.2.1; have hown := S.2.2.2.1; have hts := S.2.2.2.2
  have hret : ∀ z, some z = some (rz, xz) → (rz, xz) = z := fun z h => (Option.some.inj h).symm
  unfold fX9_has at h
  refine lv_iload_n hx hb dX9_has_0 rfl (lv_at hl 0 rfl) ?_
  refine lv_iconst (v := (1 : Int32)) hx hb dX9_has_1 (by decide) ?_
  refine lv_iload_n hx hb dX9_has_2 rfl (lv_at hl 1 rfl) ?_
  refine lv_ishl hx hb dX9_has_3 ?_
  refine lv_iand hx hb dX9_has_4 ?_
  refine lv_if_eq (tgt := 12) hx hb dX9_has_5 (by decide) (fun c1 => ?_) (fun c1 => ?_)
  · replace h := (if_pos c1).symm.trans h
    refine lv_iconst (v := (0 : Int32)) hx hb dX9_has_12 (by decide) ?_
    obtain ⟨e1, e2⟩ := Prod.mk.inj (hret _ h)
    exact hR _ _ _ _ _ (congrArg some e1) rfl (by rw [e2]; exact hP) hS dX9_has_13
  · replace h := (if_neg c1).symm.trans h
    refine lv_iconst (v := (1 : Int32)) hx hb dX9_has_8 (by decide) ?_
    refine lv_goto (tgt := 13) hx hb dX9_has_9 (by decide) ?_
    obtain ⟨e1, e2⟩ := Prod.mk.inj (hret _ h)
    exact hR _ _ _ _ _ (congrArg some e1) rfl (by rw [e2]; exact hP) hS dX9_has_13
def fX4_mayTouch (q0 : Nat) (p1 : Int32) (p2 : Int32) (x0 : bq_S) : Option (Int32 × bq_S) :=
  if ok_i p1 8 then
  (fX9_has (x0.1 (q0 + 3) p1.toNatClampNeg) p2 x0).bind (fun o2 => un2 o2 (fun v4 x3 =>
  if v4 = 0 then
  (fX9_has (x3.1 q0 1) p1 x3).bind (fun o6 => un2 o6 (fun v8 x7 =>
  if v8 = 0 then
  (fX9_has (x7.1 q0 1) p2 x7).bind (fun o10 => un2 o10 (fun v12 x11 =>
  if v12 = 0 then
  if ok_i p1 8 then
  (fX9_has (x11.1 (q0 + 2) p1.toNatClampNeg) p2 x11).bind (fun o15 => un2 o15 (fun v17 x16 =>
  if v17 = 0 then
  if ok_i p2 8 then
  (fX9_has (x16.1 (q0 + 2) p2.toNatClampNeg) p1 x16).bind (fun o20 => un2 o20 (fun v22 x21 =>
  if v22 = 0 then
  if (x21.1 (q0 + 4) (1 : Int32).toNatClampNeg) = (1 : Int32) then
  if ok_i p1 8 then
  if ok_i p2 8 then
  if ((x21.1 (q0 + 2) p1.toNatClampNeg) &&& (x21.1 (q0 + 2) p2.toNatClampNeg)) = 0 then
  some ((0 : Int32), x21)
  else
  some ((1 : Int32), x21)
  else none
  else none
  else
  some ((0 : Int32), x21)
  else
  some ((1 : Int32), x21)))
  else none
  else
  some ((1 : Int32), x16)))
  else none
  else
  some ((1 : Int32), x11)))
  else
  some ((1 : Int32), x7)))
  else
  some ((0 : Int32), x3)))
  else none
theorem dX4_mayTouch_0 : decode cX4_mayTouch 0 = .ok (.aload_n 0, 1) := by decide +kernel
theorem dX4_mayTouch_1 : decode cX4_mayTouch 1 = .ok (.getfield 28, 3) := by decide +kernel
theorem dX4_mayTouch_4 : decode cX4_mayTouch 4 = .ok (.iload_n 1, 1) := by decide +kernel
theorem dX4_mayTouch_5 : decode cX4_mayTouch 5 = .ok (.iaload, 1) := by decide +kernel
theorem dX4_mayTouch_6 : decode cX4_mayTouch 6 = .ok (.iload_n 2, 1) := by decide +kernel
theorem dX4_mayTouch_7 : decode cX4_mayTouch 7 = .ok (.invokestatic 62, 3) := by decide +kernel
theorem dX4_mayTouch_10 : decode cX4_mayTouch 10 = .ok (.ifCond .eq 5, 3) := by decide +kernel
theorem dX4_mayTouch_13 : decode cX4_mayTouch 13 = .ok (.iconst 0, 1) := by decide +kernel
theorem dX4_mayTouch_14 : decode cX4_mayTouch 14 = .ok (.ireturn, 1) := by decide +kernel
theorem dX4_mayTouch_15 : decode cX4_mayTouch 15 = .ok (.aload_n 0, 1) := by decide +kernel
theorem dX4_mayTouch_16 : decode cX4_mayTouch 16 = .ok (.getfield 15, 3) := by decide +kernel
theorem dX4_mayTouch_19 : decode cX4_mayTouch 19 = .ok (.iload_n 1, 1) := by decide +kernel
theorem dX4_mayTouch_20 : decode cX4_mayTouch 20 = .ok (.invokestatic 62, 3) := by decide +kernel
theorem dX4_mayTouch_23 : decode cX4_mayTouch 23 = .ok (.ifCond .ne 14, 3) := by decide +kernel
theorem dX4_mayTouch_26 : decode cX4_mayTouch 26 = .ok (.aload_n 0, 1) := by decide +kernel
theorem dX4_mayTouch_27 : decode cX4_mayTouch 27 = .ok (.getfield 15, 3) := by decide +kernel
theorem dX4_mayTouch_30 : decode cX4_mayTouch 30 = .ok (.iload_n 2, 1) := by decide +kernel
theorem dX4_mayTouch_31 : decode cX4_mayTouch 31 = .ok (.invokestatic 62, 3) := by decide +kernel
theorem dX4_mayTouch_34 : decode cX4_mayTouch 34 = .ok (.ifCond .eq 5, 3) := by decide +kernel
theorem dX4_mayTouch_37 : decode cX4_mayTouch 37 = .ok (.iconst 1, 1) := by decide +kernel
theorem dX4_mayTouch_38 : decode cX4_mayTouch 38 = .ok (.ireturn, 1) := by decide +kernel
theorem dX4_mayTouch_39 : decode cX4_mayTouch 39 = .ok (.aload_n 0, 1) := by decide +kernel
theorem dX4_mayTouch_40 : decode cX4_mayTouch 40 = .ok (.getfield 25, 3) := by decide +kernel
theorem dX4_mayTouch_43 : decode cX4_mayTouch 43 = .ok (.iload_n 1, 1) := by decide +kernel
theorem dX4_mayTouch_44 : decode cX4_mayTouch 44 = .ok (.iaload, 1) := by decide +kernel
theorem dX4_mayTouch_45 : decode cX4_mayTouch 45 = .ok (.iload_n 2, 1) := by decide +kernel
theorem dX4_mayTouch_46 : decode cX4_mayTouch 46 = .ok (.invokestatic 62, 3) := by decide +kernel
theorem dX4_mayTouch_49 : decode cX4_mayTouch 49 = .ok (.ifCond .ne 16, 3) := by decide +kernel
theorem dX4_mayTouch_52 : decode cX4_mayTouch 52 = .ok (.aload_n 0, 1) := by decide +kernel
theorem dX4_mayTouch_53 : decode cX4_mayTouch 53 = .ok (.getfield 25, 3) := by decide +kernel
theorem dX4_mayTouch_56 : decode cX4_mayTouch 56 = .ok (.iload_n 2, 1) := by decide +kernel
theorem dX4_mayTouch_57 : decode cX4_mayTouch 57 = .ok (.iaload, 1) := by decide +kernel
theorem dX4_mayTouch_58 : decode cX4_mayTouch 58 = .ok (.iload_n 1, 1) := by decide +kernel
theorem dX4_mayTouch_59 : decode cX4_mayTouch 59 = .ok (.invokestatic 62, 3) := by decide +kernel
theorem dX4_mayTouch_62 : decode cX4_mayTouch 62 = .ok (.ifCond .eq 5, 3) := by decide +kernel
theorem dX4_mayTouch_65 : decode cX4_mayTouch 65 = .ok (.iconst 1, 1) := by decide +kernel
theorem dX4_mayTouch_66 : decode cX4_mayTouch 66 = .ok (.ireturn, 1) := by decide +kernel
theorem dX4_mayTouch_67 : decode cX4_mayTouch 67 = .ok (.aload_n 0, 1) := by decide +kernel
theorem dX4_mayTouch_68 : decode cX4_mayTouch 68 = .ok (.getfield 31, 3) := by decide +kernel
theorem dX4_mayTouch_71 : decode cX4_mayTouch 71 = .ok (.iconst 1, 1) := by decide +kernel
theorem dX4_mayTouch_72 : decode cX4_mayTouch 72 = .ok (.iaload, 1) := by decide +kernel
theorem dX4_mayTouch_73 : decode cX4_mayTouch 73 = .ok (.iconst 1, 1) := by decide +kernel
theorem dX4_mayTouch_74 : decode cX4_mayTouch 74 = .ok (.if_icmp .ne 23, 3) := by decide +kernel
theorem dX4_mayTouch_77 : decode cX4_mayTouch 77 = .ok (.aload_n 0, 1) := by decide +kernel
theorem dX4_mayTouch_78 : decode cX4_mayTouch 78 = .ok (.getfield 25, 3) := by decide +kernel
theorem dX4_mayTouch_81 : decode cX4_mayTouch 81 = .ok (.iload_n 1, 1) := by decide +kernel
theorem dX4_mayTouch_82 : decode cX4_mayTouch 82 = .ok (.iaload, 1) := by decide +kernel
theorem dX4_mayTouch_83 : decode cX4_mayTouch 83 = .ok (.aload_n 0, 1) := by decide +kernel
theorem dX4_mayTouch_84 : decode cX4_mayTouch 84 = .ok (.getfield 25, 3) := by decide +kernel
theorem dX4_mayTouch_87 : decode cX4_mayTouch 87 = .ok (.iload_n 2, 1) := by decide +kernel
theorem dX4_mayTouch_88 : decode cX4_mayTouch 88 = .ok (.iaload, 1) := by decide +kernel
theorem dX4_mayTouch_89 : decode cX4_mayTouch 89 = .ok (.iand, 1) := by decide +kernel
theorem dX4_mayTouch_90 : decode cX4_mayTouch 90 = .ok (.ifCond .eq 7, 3) := by decide +kernel
theorem dX4_mayTouch_93 : decode cX4_mayTouch 93 = .ok (.iconst 1, 1) := by decide +kernel
theorem dX4_mayTouch_94 : decode cX4_mayTouch 94 = .ok (.goto 4, 3) := by decide +kernel
theorem dX4_mayTouch_97 : decode cX4_mayTouch 97 = .ok (.iconst 0, 1) := by decide +kernel
theorem dX4_mayTouch_98 : decode cX4_mayTouch 98 = .ok (.ireturn, 1) := by decide +kernel
set_option maxHeartbeats 4000000 in
set_option maxRecDepth 100000 in
theorem cX4_mayTouch_k_1 {l : Launch} {D : va_G} {a : Nat → Nat} {k : Nat → ClassId} {p1 : Int32} {p2 : Int32} {x0 xz : bq_S} {rz : Int32} (h : fX4_mayTouch  1 p1 p2 x0 = some (rz, xz)) : bq_M l D bq_cl (bq_ty k) (bq_wC a k) yX4_mayTouch cX4_mayTouch 3 (some .boolean) { frames := 1, cells := 0, slots := 0, locals := 21 } [.ref (a 1), .int p1, .int p2] x0 (some rz) xz := by
  refine bq_ofW RX4 [(0, .ref (a 1)), (1, .int p1), (2, .int p2)] (by decide +kernel) rfl (Nat.le_of_ble_eq_true rfl) rfl (bq_adC a k) ?_
  intro p e s m below meth c A Q ls S hK hD hA hR hS hP hl
  have hx := S.1; have hb := S.2.1; have hml := S.2.2.1; have hown := S.2.2.2.1; have hts := S.2.2.2.2
  have hret : ∀ z, some z = some (rz, xz) → (rz, xz) = z := fun z h => (Option.some.inj h).symm
  unfold fX4_mayTouch at h
  refine lv_aload_n hx hb dX4_mayTouch_0 rfl (lv_at hl 0 rfl) ?_
  refine bq_get (q0 := 1) S hK hP fl_X4_28_X4_5 rfl rfl rfl dX4_mayTouch_1 ?_
  refine lv_iload_n hx hb dX4_mayTouch_4 rfl (lv_at hl 1 rfl) ?_
  obtain ⟨g1, h⟩ := bq_gd h
  refine va_iald (D := D) hx hb hK hP 4 0 rfl rfl g1 dX4_mayTouch_5 ?_
  refine lv_iload_n hx hb dX4_mayTouch_6 rfl (lv_at hl 2 rfl) ?_
  obtain ⟨o2, ho2, h⟩ := Option.bind_eq_some_iff.mp h
  obtain ⟨v4, x3⟩ := o2
  replace h := un2_e h
  refine bq_callSNi (As := [.int _, .int _]) S hK hD hA hP hS (cX9_has_k ho2) hd_yX9_has mn_X4_62 st_yX9_has ⟨rfl, rfl⟩ ⟨by decide, by decide⟩ rfl hl.1 rfl (Nat.le_of_ble_eq_true rfl) ⟨Nat.zero_le _, Nat.zero_le _⟩ dX4_mayTouch_7 (fun H locs hP hS => ?_)
  refine lv_if_eq (tgt := 15) hx hb dX4_mayTouch_10 (by decide) (fun c5 => ?_) (fun c5 => ?_)
  · replace h := (if_pos c5).symm.trans h
    refine lv_aload_n hx hb dX4_mayTouch_15 rfl (lv_at hl 0 rfl) ?_
    refine bq_get (q0 := 1) S hK hP fl_X4_15_X4_1 rfl rfl rfl dX4_mayTouch_16 ?_
    refine lv_iload_n hx hb dX4_mayTouch_19 rfl (lv_at hl 1 rfl) ?_
    obtain ⟨o6, ho6, h⟩ := Option.bind_eq_some_iff.mp h
    obtain ⟨v8, x7⟩ := o6
    replace h := un2_e h
    refine bq_callSNi (As := [.int _, .int _]) S hK hD hA hP hS (cX9_has_k ho6) hd_yX9_has mn_X4_62 st_yX9_has ⟨rfl, rfl⟩ ⟨by decide, by decide⟩ rfl hl.1 rfl (Nat.le_of_ble_eq_true rfl) ⟨Nat.zero_le _, Nat.zero_le _⟩ dX4_mayTouch_20 (fun H locs hP hS => ?_)
    refine lv_if_ne (tgt := 37) hx hb dX4_mayTouch_23 (by decide) (fun c9 => ?_) (fun c9 => ?_)
    · replace h := (if_neg c9).symm.trans h
      refine lv_iconst (v := (1 : Int32)) hx hb dX4_mayTouch_37 (by decide) ?_
      obtain ⟨e1, e2⟩ := Prod.mk.inj (hret _ h)
      exact hR _ _ _ _ _ (congrArg some e1) rfl (by rw [e2]; exact hP) hS dX4_mayTouch_38
    · replace h := (if_pos c9).symm.trans h
      refine lv_aload_n hx hb dX4_mayTouch_26 rfl (lv_at hl 0 rfl) ?_
      refine bq_get (q0 := 1) S hK hP fl_X4_15_X4_1 rfl rfl rfl dX4_mayTouch_27 ?_
      refine lv_iload_n hx hb dX4_mayTouch_30 rfl (lv_at hl 2 rfl) ?_
      obtain ⟨o10, ho10, h⟩ := Option.bind_eq_some_iff.mp h
      obtain ⟨v12, x11⟩ := o10
      replace h := un2_e h
      refine bq_callSNi (As := [.int _, .int _]) S hK hD hA hP hS (cX9_has_k ho10) hd_yX9_has mn_X4_62 st_yX9_has ⟨rfl, rfl⟩ ⟨by decide, by decide⟩ rfl hl.1 rfl (Nat.le_of_ble_eq_true rfl) ⟨Nat.zero_le _, Nat.zero_le _⟩ dX4_mayTouch_31 (fun H locs hP hS => ?_)
      refine lv_if_eq (tgt := 39) hx hb dX4_mayTouch_34 (by decide) (fun c13 => ?_) (fun c13 => ?_)
      · replace h := (if_pos c13).symm.trans h
        refine lv_aload_n hx hb dX4_mayTouch_39 rfl (lv_at hl 0 rfl) ?_
        refine bq_get (q0 := 1) S hK hP fl_X4_25_X4_4 rfl rfl rfl dX4_mayTouch_40 ?_
        refine lv_iload_n hx hb dX4_mayTouch_43 rfl (lv_at hl 1 rfl) ?_
        obtain ⟨g14, h⟩ := bq_gd h
        refine va_iald (D := D) hx hb hK hP 3 0 rfl rfl g14 dX4_mayTouch_44 ?_
        refine lv_iload_n hx hb dX4_mayTouch_45 rfl (lv_at hl 2 rfl) ?_
        obtain ⟨o15, ho15, h⟩ := Option.bind_eq_some_iff.mp h
        obtain ⟨v17, x16⟩ := o15
        replace h := un2_e h
        refine bq_callSNi (As := [.int _, .int _]) S hK hD hA hP hS (cX9_has_k ho15) hd_yX9_has mn_X4_62 st_yX9_has ⟨rfl, rfl⟩ ⟨by decide, by decide⟩ rfl hl.1 rfl (Nat.le_of_ble_eq_true rfl) ⟨Nat.zero_le _, Nat.zero_le _⟩ dX4_mayTouch_46 (fun H locs hP hS => ?_)
        refine lv_if_ne (tgt := 65) hx hb dX4_mayTouch_49 (by decide) (fun c18 => ?_) (fun c18 => ?_)
        · replace h := (if_neg c18).symm.trans h
          refine lv_iconst (v := (1 : Int32)) hx hb dX4_mayTouch_65 (by decide) ?_
          obtain ⟨e1, e2⟩ := Prod.mk.inj (hret _ h)
          exact hR _ _ _ _ _ (congrArg some e1) rfl (by rw [e2]; exact hP) hS dX4_mayTouch_66
        · replace h := (if_pos c18).symm.trans h
          refine lv_aload_n hx hb dX4_mayTouch_52 rfl (lv_at hl 0 rfl) ?_
          refine bq_get (q0 := 1) S hK hP fl_X4_25_X4_4 rfl rfl rfl dX4_mayTouch_53 ?_
          refine lv_iload_n hx hb dX4_mayTouch_56 rfl (lv_at hl 2 rfl) ?_
          obtain ⟨g19, h⟩ := bq_gd h
          refine va_iald (D := D) hx hb hK hP 3 0 rfl rfl g19 dX4_mayTouch_57 ?_
          refine lv_iload_n hx hb dX4_mayTouch_58 rfl (lv_at hl 1 rfl) ?_
          obtain ⟨o20, ho20, h⟩ := Option.bind_eq_some_iff.mp h
          obtain ⟨v22, x21⟩ := o20
          replace h := un2_e h
          refine bq_callSNi (As := [.int _, .int _]) S hK hD hA hP hS (cX9_has_k ho20) hd_yX9_has mn_X4_62 st_yX9_has ⟨rfl, rfl⟩ ⟨by decide, by decide⟩ rfl hl.1 rfl (Nat.le_of_ble_eq_true rfl) ⟨Nat.zero_le _, Nat.zero_le _⟩ dX4_mayTouch_59 (fun H locs hP hS => ?_)
          refine lv_if_eq (tgt := 67) hx hb dX4_mayTouch_62 (by decide) (fun c23 => ?_) (fun c23 => ?_)
          · replace h := (if_pos c23).symm.trans h
            refine lv_aload_n hx hb dX4_mayTouch_67 rfl (lv_at hl 0 rfl) ?_
            refine bq_get (q0 := 1) S hK hP fl_X4_31_X4_6 rfl rfl rfl dX4_mayTouch_68 ?_
            refine lv_iconst (v := (1 : Int32)) hx hb dX4_mayTouch_71 (by decide) ?_
            refine va_iald (D := D) hx hb hK hP 5 0 rfl rfl (bq_inl rfl) dX4_mayTouch_72 ?_
            refine lv_iconst (v := (1 : Int32)) hx hb dX4_mayTouch_73 (by decide) ?_
            refine lv_icmp_ne (tgt := 97) hx hb dX4_mayTouch_74 (by decide) (fun c24 => ?_) (fun c24 => ?_)
            · replace h := (if_neg c24).symm.trans h
              refine lv_iconst (v := (0 : Int32)) hx hb dX4_mayTouch_97 (by decide) ?_
              obtain ⟨e1, e2⟩ := Prod.mk.inj (hret _ h)
              exact hR _ _ _ _ _ (congrArg some e1) rfl (by rw [e2]; exact hP) hS dX4_mayTouch_98
            · replace h := (if_pos c24).symm.trans h
              refine lv_aload_n hx hb dX4_mayTouch_77 rfl (lv_at hl 0 rfl) ?_
              refine bq_get (q0 := 1) S hK hP fl_X4_25_X4_4 rfl rfl rfl dX4_mayTouch_78 ?_
              refine lv_iload_n hx hb dX4_mayTouch_81 rfl (lv_at hl 1 rfl) ?_
              obtain ⟨g25, h⟩ := bq_gd h
              refine va_iald (D := D) hx hb hK hP 3 0 rfl rfl g25 dX4_mayTouch_82 ?_
              refine lv_aload_n hx hb dX4_mayTouch_83 rfl (lv_at hl 0 rfl) ?_
              refine bq_get (q0 := 1) S hK hP fl_X4_25_X4_4 rfl rfl rfl dX4_mayTouch_84 ?_
              refine lv_iload_n hx hb dX4_mayTouch_87 rfl (lv_at hl 2 rfl) ?_
              obtain ⟨g26, h⟩ := bq_gd h
              refine va_iald (D := D) hx hb hK hP 3 0 rfl rfl g26 dX4_mayTouch_88 ?_
              refine lv_iand hx hb dX4_mayTouch_89 ?_
              refine lv_if_eq (tgt := 97) hx hb dX4_mayTouch_90 (by decide) (fun c27 => ?_) (fun c27 => ?_)
              · replace h := (if_pos c27).symm.trans h
                refine lv_iconst (v := (0 : Int32)) hx hb dX4_mayTouch_97 (by decide) ?_
                obtain ⟨e1, e2⟩ := Prod.mk.inj (hret _ h)
                exact hR _ _ _ _ _ (congrArg some e1) rfl (by rw [e2]; exact hP) hS dX4_mayTouch_98
              · replace h := (if_neg c27).symm.trans h
                refine lv_iconst (v := (1 : Int32)) hx hb dX4_mayTouch_93 (by decide) ?_
                refine lv_goto (tgt := 98) hx hb dX4_mayTouch_94 (by decide) ?_
                obtain ⟨e1, e2⟩ := Prod.mk.inj (hret _ h)
                exact hR _ _ _ _ _ (congrArg some e1) rfl (by rw [e2]; exact hP) hS dX4_mayTouch_98
          · replace h := (if_neg c23).symm.trans h
            refine lv_iconst (v := (1 : Int32)) hx hb dX4_mayTouch_65 (by decide) ?_
            obtain ⟨e1, e2⟩ := Prod.mk.inj (hret _ h)
            exact hR _ _ _ _ _ (congrArg some e1) rfl (by rw [e2]; exact hP) hS dX4_mayTouch_66
      · replace h := (if_neg c13).symm.trans h
        refine lv_iconst (v := (1 : Int32)) hx hb dX4_mayTouch_37 (by decide) ?_
        obtain ⟨e1, e2⟩ := Prod.mk.inj (hret _ h)
        exact hR _ _ _ _ _ (congrArg some e1) rfl (by rw [e2]; exact hP) hS dX4_mayTouch_38
  · replace h := (if_neg c5).symm.trans h
    refine lv_iconst (v := (0 : Int32)) hx hb dX4_mayTouch_13 (by decide) ?_
    obtain ⟨e1, e2⟩ := Prod.mk.inj (hret _ h)
    exact hR _ _ _ _ _ (congrArg some e1) rfl (by rw [e2]; exact hP) hS dX4_mayTouch_14
def fX9_bit (p0 : Int32) (x0 : bq_S) : Option (Int32 × bq_S) :=
  some (((1 : Int32) <<< (p0 &&& 31)), x0)
theorem dX9_bit_0 : decode cX9_bit 0 = .ok (.iconst 1, 1) := by decide +kernel
theorem dX9_bit_1 : decode cX9_bit 1 = .ok (.iload_n 0, 1) := by decide +kernel
theorem dX9_bit_2 : decode cX9_bit 2 = .ok (.ishl, 1) := by decide +kernel
theorem dX9_bit_3 : decode cX9_bit 3 = .ok (.ireturn, 1) := by decide +kernel
set_option maxHeartbeats 4000000 in
set_option maxRecDepth 100000 in
theorem cX9_bit_k {l : Launch} {D : va_G} {a : Nat → Nat} {k : Nat → ClassId} {p0 : Int32} {x0 xz : bq_S} {rz : Int32} (h : fX9_bit  p0 x0 = some (rz, xz)) : bq_M l D bq_cl (bq_ty k) (bq_wC a k) yX9_bit cX9_bit 1 (some .int) { frames := 0, cells := 0, slots := 0, locals := 0 } [.int p0] x0 (some rz) xz := by
  refine bq_ofW RX9 [(0, .int p0)] (by decide +kernel) rfl (Nat.le_of_ble_eq_true rfl) rfl (bq_adC a k) ?_
  intro p e s m below meth c A Q ls S hK hD hA hR hS hP hl
  have hx := S.1; have hb := S.2.1; have hml := S.2.2.1; have hown := S.2.2.2.1; have hts := S.2.2.2.2
  have hret : ∀ z, some z = some (rz, xz) → (rz, xz) = z := fun z h => (Option.some.inj h).symm
  unfold fX9_bit at h
  refine lv_iconst (v := (1 : Int32)) hx hb dX9_bit_0 (by decide) ?_
  refine lv_iload_n hx hb dX9_bit_1 rfl (lv_at hl 0 rfl) ?_
  refine lv_ishl hx hb dX9_bit_2 ?_
  obtain ⟨e1, e2⟩ := Prod.mk.inj (hret _ h)
  exact hR _ _ _ _ _ (congrArg some e1) rfl (by rw [e2]; exact hP) hS dX9_bit_3
def fX4_learnNear_b12 (n : Nat) (r5 : Nat) (v6 : Int32) (v : Int32 × Int32 × bq_S) : Option ((Int32 × Int32 × bq_S) ⊕ (Int32 × Int32 × bq_S)) :=
  un3 v (fun v7 v8 x9 =>
  if (8 : Int32) ≤ v8 then
  some (.inr (v7, v8, x9))
  else
  (fX4_areTwo r5 v6 v8 x9).bind (fun o11 => un2 o11 (fun v13 x12 =>
  if v13 = 0 then
  bd (v8 + (1 : Int32)) (fun v15 =>
  some (.inl (v7, v15, x12)))
  else
  (fX4_mayTouch r5 v6 v8 x12).bind (fun o16 => un2 o16 (fun v18 x17 =>
  if v18 = 0 then
  bd (v8 + (1 : Int32)) (fun v20 =>
  some (.inl (v7, v20, x17)))
  else
  (fX9_bit v8 x17).bind (fun o21 => un2 o21 (fun v23 x22 =>
  bd (v7 ||| v23) (fun v24 =>
  bd (v8 + (1 : Int32)) (fun v25 =>
  some (.inl (v24, v25, x22)))))))))))
def fX4_learnNear_b2 (n : Nat) (r1 : Nat) (v : Int32 × bq_S) : Option ((Int32 × bq_S) ⊕ (Int32 × bq_S)) :=
  un2 v (fun v2 x3 =>
  if (8 : Int32) ≤ v2 then
  some (.inr (v2, x3))
  else
  (wh n (fX4_learnNear_b12 n r1 v2) ((0 : Int32), (0 : Int32), x3)).bind (fun e26 => un3 e26 (fun v27 v28 x29 =>
  if ok_i v2 8 then
  bd (bq_sI x29 (r1 + 6) v2.toNatClampNeg v27) (fun x30 =>
  bd (v2 + (1 : Int32)) (fun v32 =>
  some (.inl (v32, x30))))
  else none)))
def fX4_learnNear (n : Nat) (q0 : Nat) (x0 : bq_S) : Option (bq_S) :=
  (wh n (fX4_learnNear_b2 n q0) ((0 : Int32), x0)).bind (fun e33 => un2 e33 (fun v34 x35 =>
  some x35))
theorem dX4_learnNear_0 : decode cX4_learnNear 0 = .ok (.iconst 0, 1) := by decide +kernel
theorem dX4_learnNear_1 : decode cX4_learnNear 1 = .ok (.istore_n 1, 1) := by decide +kernel
theorem dX4_learnNear_2 : decode cX4_learnNear 2 = .ok (.iload_n 1, 1) := by decide +kernel
theorem dX4_learnNear_3 : decode cX4_learnNear 3 = .ok (.bipush 8, 2) := by decide +kernel
theorem dX4_learnNear_5 : decode cX4_learnNear 5 = .ok (.if_icmp .ge 57, 3) := by decide +kernel
theorem dX4_learnNear_8 : decode cX4_learnNear 8 = .ok (.iconst 0, 1) := by decide +kernel
theorem dX4_learnNear_9 : decode cX4_learnNear 9 = .ok (.istore_n 2, 1) := by decide +kernel
theorem dX4_learnNear_10 : decode cX4_learnNear 10 = .ok (.iconst 0, 1) := by decide +kernel
theorem dX4_learnNear_11 : decode cX4_learnNear 11 = .ok (.istore_n 3, 1) := by decide +kernel
theorem dX4_learnNear_12 : decode cX4_learnNear 12 = .ok (.iload_n 3, 1) := by decide +kernel
theorem dX4_learnNear_13 : decode cX4_learnNear 13 = .ok (.bipush 8, 2) := by decide +kernel
theorem dX4_learnNear_15 : decode cX4_learnNear 15 = .ok (.if_icmp .ge 34, 3) := by decide +kernel
theorem dX4_learnNear_18 : decode cX4_learnNear 18 = .ok (.aload_n 0, 1) := by decide +kernel
theorem dX4_learnNear_19 : decode cX4_learnNear 19 = .ok (.iload_n 1, 1) := by decide +kernel
theorem dX4_learnNear_20 : decode cX4_learnNear 20 = .ok (.iload_n 3, 1) := by decide +kernel
theorem dX4_learnNear_21 : decode cX4_learnNear 21 = .ok (.invokevirtual 74, 3) := by decide +kernel
theorem dX4_learnNear_24 : decode cX4_learnNear 24 = .ok (.ifCond .eq 19, 3) := by decide +kernel
theorem dX4_learnNear_27 : decode cX4_learnNear 27 = .ok (.aload_n 0, 1) := by decide +kernel
theorem dX4_learnNear_28 : decode cX4_learnNear 28 = .ok (.iload_n 1, 1) := by decide +kernel
theorem dX4_learnNear_29 : decode cX4_learnNear 29 = .ok (.iload_n 3, 1) := by decide +kernel
theorem dX4_learnNear_30 : decode cX4_learnNear 30 = .ok (.invokevirtual 77, 3) := by decide +kernel
theorem dX4_learnNear_33 : decode cX4_learnNear 33 = .ok (.ifCond .eq 10, 3) := by decide +kernel
theorem dX4_learnNear_36 : decode cX4_learnNear 36 = .ok (.iload_n 2, 1) := by decide +kernel
theorem dX4_learnNear_37 : decode cX4_learnNear 37 = .ok (.iload_n 3, 1) := by decide +kernel
theorem dX4_learnNear_38 : decode cX4_learnNear 38 = .ok (.invokestatic 70, 3) := by decide +kernel
theorem dX4_learnNear_41 : decode cX4_learnNear 41 = .ok (.ior, 1) := by decide +kernel
theorem dX4_learnNear_42 : decode cX4_learnNear 42 = .ok (.istore_n 2, 1) := by decide +kernel
theorem dX4_learnNear_43 : decode cX4_learnNear 43 = .ok (.iinc 3 1, 3) := by decide +kernel
theorem dX4_learnNear_46 : decode cX4_learnNear 46 = .ok (.goto (-34), 3) := by decide +kernel
theorem dX4_learnNear_49 : decode cX4_learnNear 49 = .ok (.aload_n 0, 1) := by decide +kernel
theorem dX4_learnNear_50 : decode cX4_learnNear 50 = .ok (.getfield 37, 3) := by decide +kernel
theorem dX4_learnNear_53 : decode cX4_learnNear 53 = .ok (.iload_n 1, 1) := by decide +kernel
theorem dX4_learnNear_54 : decode cX4_learnNear 54 = .ok (.iload_n 2, 1) := by decide +kernel
theorem dX4_learnNear_55 : decode cX4_learnNear 55 = .ok (.iastore, 1) := by decide +kernel
theorem dX4_learnNear_56 : decode cX4_learnNear 56 = .ok (.iinc 1 1, 3) := by decide +kernel
theorem dX4_learnNear_59 : decode cX4_learnNear 59 = .ok (.goto (-57), 3) := by decide +kernel
theorem dX4_learnNear_62 : decode cX4_learnNear 62 = .ok (.return_, 1) := by decide +kernel
set_option maxHeartbeats 4000000 in
set_option maxRecDepth 100000 in
theorem cX4_learnNear_k_1 {l : Launch} {D : va_G} {a : Nat → Nat} {k : Nat → ClassId} {n : Nat} {x0 xz : bq_S} (h : fX4_learnNear n 1 x0 = some xz) : bq_M l D bq_cl (bq_ty k) (bq_wC a k) yX4_learnNear cX4_learnNear 4 none { frames := 2, cells := 0, slots := 0, locals := 44 } [.ref (a 1)] x0 none xz := by
  refine bq_ofWv RX4 [(0, .ref (a 1))] (by decide +kernel) rfl (Nat.le_of_ble_eq_true rfl) rfl (bq_adC a k) ?_
  intro p e s m below meth c A Q ls S hK hD hA hR hS hP hl
  have hx := S.1; have hb := S.2.1; have hml := S.2.2.1; have hown := S.2.2.2.1; have hts := S.2.2.2.2
  have hret : ∀ z, some z = some xz → xz = z := fun z h => (Option.some.inj h).symm
  unfold fX4_learnNear at h
  refine lv_iconst (v := (0 : Int32)) hx hb dX4_learnNear_0 (by decide) ?_
  refine lv_istore_n (lv' := [(1, .int (0 : Int32)), (0, .ref (a 1))]) hx hb dX4_learnNear_1 rfl hl (by decide) rfl (fun ls hl => ?_)
  have hl2 : ∀ (kf : Nat) (v2 : Int32) (x3 : bq_S) (eo : Int32 × bq_S) (H : Heap) (locs : List Loc) (ls : Array Slot), wh kf (fX4_learnNear_b2 n 1) (v2, x3) = some eo → va_P D bq_cl (bq_wC a k x3) H → va_S A s.heap H locs → lv_has ls 4 [(0, .ref (a 1)), (1, .int v2)] → (∀ (H : Heap) (locs : List Loc) (ls : Array Slot) (v34 : Int32) (x35 : bq_S), eo = (v34, x35) → va_P D bq_cl (bq_wC a k x35) H → va_S A s.heap H locs → lv_has ls 4 [] → W p l e { frames := 2, cells := 0, slots := 0, locals := 44 } s m [.ref (a 1)].toArray below meth c H locs 0 0 Q (F0 m 62 ls [])) → W p l e { frames := 2, cells := 0, slots := 0, locals := 44 } s m [.ref (a 1)].toArray below meth c H locs 0 0 Q (F0 m 2 ls []) := by
    intro  kf
    induction kf with
    | zero => intro v2 x3 eo H locs ls h; cases h
    | succ kf ih =>
      intro v2 x3 eo H locs ls h hP hS hl kx
      obtain ⟨out, h, hw⟩ := wh_s h
      unfold fX4_learnNear_b2 at h
      replace h := un2_e h
      refine lv_iload_n hx hb dX4_learnNear_2 rfl (lv_at hl 1 rfl) ?_
      refine lv_bipush (v := (8 : Int32)) hx hb dX4_learnNear_3 (by decide) ?_
      refine lv_icmp_ge (tgt := 62) hx hb dX4_learnNear_5 (by decide) (fun c4 => ?_) (fun c4 => ?_)
      · replace h := (if_pos c4).symm.trans h
        cases h
        exact kx _ _ _ _ _ (Option.some.inj hw).symm hP hS (lv_sub hl [] rfl)
      · replace h := (if_neg c4).symm.trans h
        refine lv_iconst (v := (0 : Int32)) hx hb dX4_learnNear_8 (by decide) ?_
        refine lv_istore_n (lv' := [(2, .int (0 : Int32)), (0, .ref (a 1)), (1, .int v2)]) hx hb dX4_learnNear_9 rfl hl (by decide) rfl (fun ls hl => ?_)
        refine lv_iconst (v := (0 : Int32)) hx hb dX4_learnNear_10 (by decide) ?_
        refine lv_istore_n (lv' := [(3, .int (0 : Int32)), (2, .int (0 : Int32)), (0, .ref (a 1)), (1, .int v2)]) hx hb dX4_learnNear_11 rfl hl (by decide) rfl (fun ls hl => ?_)
        have hl12 : ∀ (v6 : Int32) (kf : Nat) (v7 : Int32) (v8 : Int32) (x9 : bq_S) (eo : Int32 × Int32 × bq_S) (H : Heap) (locs : List Loc) (ls : Array Slot), wh kf (fX4_learnNear_b12 n 1 v6) (v7, v8, x9) = some eo → va_P D bq_cl (bq_wC a k x9) H → va_S A s.heap H locs → lv_has ls 4 [(0, .ref (a 1)), (1, .int v6), (2, .int v7), (3, .int v8)] → (∀ (H : Heap) (locs : List Loc) (ls : Array Slot) (v27 : Int32) (v28 : Int32) (x29 : bq_S), eo = (v27, v28, x29) → va_P D bq_cl (bq_wC a k x29) H → va_S A s.heap H locs → lv_has ls 4 [(0, .ref (a 1)), (1, .int v6), (2, .int v27)] → W p l e { frames := 2, cells := 0, slots := 0, locals := 44 } s m [.ref (a 1)].toArray below meth c H locs 0 0 Q (F0 m 49 ls [])) → W p l e { frames := 2, cells := 0, slots := 0, locals := 44 } s m [.ref (a 1)].toArray below meth c H locs 0 0 Q (F0 m 12 ls []) := by
          intro v6 kf
          induction kf with
          | zero => intro v7 v8 x9 eo H locs ls h; cases h
          | succ kf ih =>
            intro v7 v8 x9 eo H locs ls h hP hS hl kx
            obtain ⟨out, h, hw⟩ := wh_s h
            unfold fX4_learnNear_b12 at h
            replace h := un3_e h
            refine lv_iload_n hx hb dX4_learnNear_12 rfl (lv_at hl 3 rfl) ?_
            refine lv_bipush (v := (8 : Int32)) hx hb dX4_learnNear_13 (by decide) ?_
            refine lv_icmp_ge (tgt := 49) hx hb dX4_learnNear_15 (by decide) (fun c10 => ?_) (fun c10 => ?_)
            · replace h := (if_pos c10).symm.trans h
              cases h
              exact kx _ _ _ _ _ _ (Option.some.inj hw).symm hP hS (lv_sub hl [0, 1, 2] rfl)
            · replace h := (if_neg c10).symm.trans h
              refine lv_aload_n hx hb dX4_learnNear_18 rfl (lv_at hl 0 rfl) ?_
              refine lv_iload_n hx hb dX4_learnNear_19 rfl (lv_at hl 1 rfl) ?_
              refine lv_iload_n hx hb dX4_learnNear_20 rfl (lv_at hl 3 rfl) ?_
              obtain ⟨o11, ho11, h⟩ := Option.bind_eq_some_iff.mp h
              obtain ⟨v13, x12⟩ := o11
              replace h := un2_e h
              refine bq_callVi (q0 := 1) (As := [.int _, .int _]) S hK hD hA hP hS (cX4_areTwo_k_1 ho11) hd_yX4_areTwo ml_X4_74 in_yX4_areTwo (hts _ sl_X4_X4_yX4_areTwo) ⟨rfl, rfl⟩ ⟨by decide, by decide⟩ rfl rfl rfl hl.1 rfl (Nat.le_of_ble_eq_true rfl) ⟨Nat.zero_le _, Nat.zero_le _⟩ dX4_learnNear_21 (fun H locs hP hS => ?_)
              refine lv_if_eq (tgt := 43) hx hb dX4_learnNear_24 (by decide) (fun c14 => ?_) (fun c14 => ?_)
              · replace h := (if_pos c14).symm.trans h
                obtain ⟨v15, hv15, h⟩ := bq_b h
                refine lv_iinc (v := v15) (lv' := [(3, .int v15), (0, .ref (a 1)), (1, .int v6), (2, .int v7)]) hx hb dX4_learnNear_43 hl (k := 3) rfl (by rw [hv15]; rfl) (by decide) rfl (fun ls hl => ?_)
                refine lv_goto (tgt := 12) hx hb dX4_learnNear_46 (by decide) ?_
                cases h
                exact ih _ _ _ _ _ _ _ hw hP hS (lv_sub hl [1, 2, 3, 0] rfl) kx
              · replace h := (if_neg c14).symm.trans h
                refine lv_aload_n hx hb dX4_learnNear_27 rfl (lv_at hl 0 rfl) ?_
                refine lv_iload_n hx hb dX4_learnNear_28 rfl (lv_at hl 1 rfl) ?_
                refine lv_iload_n hx hb dX4_learnNear_29 rfl (lv_at hl 3 rfl) ?_
                obtain ⟨o16, ho16, h⟩ := Option.bind_eq_some_iff.mp h
                obtain ⟨v18, x17⟩ := o16
                replace h := un2_e h
                refine bq_callVi (q0 := 1) (As := [.int _, .int _]) S hK hD hA hP hS (cX4_mayTouch_k_1 ho16) hd_yX4_mayTouch ml_X4_77 in_yX4_mayTouch (hts _ sl_X4_X4_yX4_mayTouch) ⟨rfl, rfl⟩ ⟨by decide, by decide⟩ rfl rfl rfl hl.1 rfl (Nat.le_of_ble_eq_true rfl) ⟨Nat.zero_le _, Nat.zero_le _⟩ dX4_learnNear_30 (fun H locs hP hS => ?_)
                refine lv_if_eq (tgt := 43) hx hb dX4_learnNear_33 (by decide) (fun c19 => ?_) (fun c19 => ?_)
                · replace h := (if_pos c19).symm.trans h
                  obtain ⟨v20, hv20, h⟩ := bq_b h
                  refine lv_iinc (v := v20) (lv' := [(3, .int v20), (0, .ref (a 1)), (1, .int v6), (2, .int v7)]) hx hb dX4_learnNear_43 hl (k := 3) rfl (by rw [hv20]; rfl) (by decide) rfl (fun ls hl => ?_)
                  refine lv_goto (tgt := 12) hx hb dX4_learnNear_46 (by decide) ?_
                  cases h
                  exact ih _ _ _ _ _ _ _ hw hP hS (lv_sub hl [1, 2, 3, 0] rfl) kx
                · replace h := (if_neg c19).symm.trans h
                  refine lv_iload_n hx hb dX4_learnNear_36 rfl (lv_at hl 2 rfl) ?_
                  refine lv_iload_n hx hb dX4_learnNear_37 rfl (lv_at hl 3 rfl) ?_
                  obtain ⟨o21, ho21, h⟩ := Option.bind_eq_some_iff.mp h
                  obtain ⟨v23, x22⟩ := o21
                  replace h := un2_e h
                  refine bq_callSNi (As := [.int _]) S hK hD hA hP hS (cX9_bit_k ho21) hd_yX9_bit mn_X4_70 st_yX9_bit ⟨rfl, rfl⟩ ⟨by decide, by decide⟩ rfl hl.1 rfl (Nat.le_of_ble_eq_true rfl) ⟨Nat.zero_le _, Nat.zero_le _⟩ dX4_learnNear_38 (fun H locs hP hS => ?_)
                  refine lv_ior hx hb dX4_learnNear_41 ?_
                  refine lv_topi (fun v24 hv24 => ?_)
                  replace h := bq_bv h hv24
                  refine lv_istore_n (lv' := [(2, .int v24), (0, .ref (a 1)), (1, .int v6), (3, .int v8)]) hx hb dX4_learnNear_42 rfl hl (by decide) rfl (fun ls hl => ?_)
                  obtain ⟨v25, hv25, h⟩ := bq_b h
                  refine lv_iinc (v := v25) (lv' := [(3, .int v25), (2, .int v24), (0, .ref (a 1)), (1, .int v6)]) hx hb dX4_learnNear_43 hl (k := 3) rfl (by rw [hv25]; rfl) (by decide) rfl (fun ls hl => ?_)
                  refine lv_goto (tgt := 12) hx hb dX4_learnNear_46 (by decide) ?_
                  cases h
                  exact ih _ _ _ _ _ _ _ hw hP hS (lv_sub hl [2, 3, 1, 0] rfl) kx
        obtain ⟨e26, he26, h⟩ := Option.bind_eq_some_iff.mp h
        refine hl12 _ n _ _ _ e26 _ _ _ he26 hP hS (lv_sub hl [2, 3, 1, 0] rfl) (fun H locs ls v27 v28 x29 hz hP hS hl => ?_)
        subst hz
        replace h := un3_e h
        refine lv_aload_n hx hb dX4_learnNear_49 rfl (lv_at hl 0 rfl) ?_
        refine bq_get (q0 := 1) S hK hP fl_X4_37_X4_8 rfl rfl rfl dX4_learnNear_50 ?_
        refine lv_iload_n hx hb dX4_learnNear_53 rfl (lv_at hl 1 rfl) ?_
        refine lv_iload_n hx hb dX4_learnNear_54 rfl (lv_at hl 2 rfl) ?_
        obtain ⟨g31, h⟩ := bq_gd h
        obtain ⟨x30, hx30, h⟩ := bq_b h
        refine bq_iast (x1 := x30) (q0 := 7) (t0 := 0) S hK hD hP hS rfl rfl g31 (by rw [hx30]; rfl) dX4_learnNear_55 (fun H locs hP hS => ?_)
        obtain ⟨v32, hv32, h⟩ := bq_b h
        refine lv_iinc (v := v32) (lv' := [(1, .int v32), (0, .ref (a 1)), (2, .int v27)]) hx hb dX4_learnNear_56 hl (k := 1) rfl (by rw [hv32]; rfl) (by decide) rfl (fun ls hl => ?_)
        refine lv_goto (tgt := 2) hx hb dX4_learnNear_59 (by decide) ?_
        cases h
        exact ih _ _ _ _ _ _ hw hP hS (lv_sub hl [1, 0] rfl) kx
  obtain ⟨e33, he33, h⟩ := Option.bind_eq_some_iff.mp h
  refine hl2 n _ _ e33 _ _ _ he33 hP hS (lv_sub hl [1, 0] rfl) (fun H locs ls v34 x35 hz hP hS hl => ?_)
  subst hz
  replace h := un2_e h
  have e2 := hret _ h
  exact hR _ _ _ _ rfl (by rw [e2]; exact hP) hS dX4_learnNear_62
def fX4_add (n : Nat) (q0 : Nat) (p1 : Int32) (x0 : bq_S) : Option (Int32 × bq_S) :=
  if ok_i (x0.1 q0 0) 8 then
  bd (bq_sI x0 (q0 + 1) (x0.1 q0 0).toNatClampNeg p1) (fun x1 =>
  bd (bq_sI x1 q0 0 ((x1.1 q0 0) + (1 : Int32))) (fun x3 =>
  (fX4_learnNear n q0 x3).bind (fun x5 =>
  some (((x5.1 q0 0) - (1 : Int32)), x5))))
  else none
theorem dX4_add_0 : decode cX4_add 0 = .ok (.aload_n 0, 1) := by decide +kernel
theorem dX4_add_1 : decode cX4_add 1 = .ok (.getfield 21, 3) := by decide +kernel
theorem dX4_add_4 : decode cX4_add 4 = .ok (.aload_n 0, 1) := by decide +kernel
theorem dX4_add_5 : decode cX4_add 5 = .ok (.getfield 9, 3) := by decide +kernel
theorem dX4_add_8 : decode cX4_add 8 = .ok (.iload_n 1, 1) := by decide +kernel
theorem dX4_add_9 : decode cX4_add 9 = .ok (.iastore, 1) := by decide +kernel
theorem dX4_add_10 : decode cX4_add 10 = .ok (.aload_n 0, 1) := by decide +kernel
theorem dX4_add_11 : decode cX4_add 11 = .ok (.dup, 1) := by decide +kernel
theorem dX4_add_12 : decode cX4_add 12 = .ok (.getfield 9, 3) := by decide +kernel
theorem dX4_add_15 : decode cX4_add 15 = .ok (.iconst 1, 1) := by decide +kernel
theorem dX4_add_16 : decode cX4_add 16 = .ok (.iadd, 1) := by decide +kernel
theorem dX4_add_17 : decode cX4_add 17 = .ok (.putfield 9, 3) := by decide +kernel
theorem dX4_add_20 : decode cX4_add 20 = .ok (.aload_n 0, 1) := by decide +kernel
theorem dX4_add_21 : decode cX4_add 21 = .ok (.invokevirtual 54, 3) := by decide +kernel
theorem dX4_add_24 : decode cX4_add 24 = .ok (.aload_n 0, 1) := by decide +kernel
theorem dX4_add_25 : decode cX4_add 25 = .ok (.getfield 9, 3) := by decide +kernel
theorem dX4_add_28 : decode cX4_add 28 = .ok (.iconst 1, 1) := by decide +kernel
theorem dX4_add_29 : decode cX4_add 29 = .ok (.isub, 1) := by decide +kernel
theorem dX4_add_30 : decode cX4_add 30 = .ok (.ireturn, 1) := by decide +kernel
set_option maxHeartbeats 4000000 in
set_option maxRecDepth 100000 in
theorem cX4_add_k_1 {l : Launch} {D : va_G} {a : Nat → Nat} {k : Nat → ClassId} {n : Nat} {p1 : Int32} {x0 xz : bq_S} {rz : Int32} (h : fX4_add n 1 p1 x0 = some (rz, xz)) : bq_M l D bq_cl (bq_ty k) (bq_wC a k) yX4_add cX4_add 2 (some .int) { frames := 3, cells := 0, slots := 0, locals := 67 } [.ref (a 1), .int p1] x0 (some rz) xz := by
  refine bq_ofW RX4 [(0, .ref (a 1)), (1, .int p1)] (by decide +kernel) rfl (Nat.le_of_ble_eq_true rfl) rfl (bq_adC a k) ?_
  intro p e s m below meth c A Q ls S hK hD hA hR hS hP hl
  have hx := S.1; have hb := S.2.1; have hml := S.2.2.1; have hown := S.2.2.2.1; have hts := S.2.2.2.2
  have hret : ∀ z, some z = some (rz, xz) → (rz, xz) = z := fun z h => (Option.some.inj h).symm
  unfold fX4_add at h
  refine lv_aload_n hx hb dX4_add_0 rfl (lv_at hl 0 rfl) ?_
  refine bq_get (q0 := 1) S hK hP fl_X4_21_X4_3 rfl rfl rfl dX4_add_1 ?_
  refine lv_aload_n hx hb dX4_add_4 rfl (lv_at hl 0 rfl) ?_
  refine bq_get (q0 := 1) S hK hP fl_X4_9_X4_0 rfl rfl rfl dX4_add_5 ?_
  refine lv_iload_n hx hb dX4_add_8 rfl (lv_at hl 1 rfl) ?_
  obtain ⟨g2, h⟩ := bq_gd h
  obtain ⟨x1, hx1, h⟩ := bq_b h
  refine bq_iast (x1 := x1) (q0 := 2) (t0 := 0) S hK hD hP hS rfl rfl g2 (by rw [hx1]; rfl) dX4_add_9 (fun H locs hP hS => ?_)
  refine lv_aload_n hx hb dX4_add_10 rfl (lv_at hl 0 rfl) ?_
  refine lv_dup hx hb dX4_add_11 rfl ?_
  refine bq_get (q0 := 1) S hK hP fl_X4_9_X4_0 rfl rfl rfl dX4_add_12 ?_
  refine lv_iconst (v := (1 : Int32)) hx hb dX4_add_15 (by decide) ?_
  refine lv_iadd hx hb dX4_add_16 ?_
  obtain ⟨x3, hx3, h⟩ := bq_b h
  refine bq_put (x1 := x3) (q0 := 1) (ty := .int) S hK hD hP hS fl_X4_9_X4_0 bt_X4 rfl (by decide +kernel) rfl rfl (Nat.le_of_ble_eq_true rfl) rfl rfl (by rw [hx3]; rfl) dX4_add_17 (fun H locs hP hS => ?_)
  refine lv_aload_n hx hb dX4_add_20 rfl (lv_at hl 0 rfl) ?_
  obtain ⟨x5, ho4, h⟩ := Option.bind_eq_some_iff.mp h
  refine bq_callVv (q0 := 1) (As := []) S hK hD hA hP hS (cX4_learnNear_k_1 ho4) hd_yX4_learnNear ml_X4_54 in_yX4_learnNear (hts _ sl_X4_X4_yX4_learnNear) ⟨rfl, rfl⟩ ⟨by decide, by decide⟩ rfl rfl rfl hl.1 rfl (Nat.le_of_ble_eq_true rfl) ⟨Nat.zero_le _, Nat.zero_le _⟩ dX4_add_21 (fun H locs hP hS => ?_)
  refine lv_aload_n hx hb dX4_add_24 rfl (lv_at hl 0 rfl) ?_
  refine bq_get (q0 := 1) S hK hP fl_X4_9_X4_0 rfl rfl rfl dX4_add_25 ?_
  refine lv_iconst (v := (1 : Int32)) hx hb dX4_add_28 (by decide) ?_
  refine lv_isub hx hb dX4_add_29 ?_
  obtain ⟨e1, e2⟩ := Prod.mk.inj (hret _ h)
  exact hR _ _ _ _ _ (congrArg some e1) rfl (by rw [e2]; exact hP) hS dX4_add_30
def fX9_book (n : Nat) (p1 : Int32) (x0 : bq_S) : Option (Int32 × bq_S) :=
  (fX9_isThickness p1 x0).bind (fun o1 => un2 o1 (fun v3 x2 =>
  if v3 = 0 then
  some ((-1 : Int32), x2)
  else
  if (x2.1 1 0) = (8 : Int32) then
  some ((-3 : Int32), x2)
  else
  (fX4_add n 1 p1 x2).bind (fun o6 => un2 o6 (fun v8 x7 =>
  some (v8, x7)))))
theorem dX9_book_0 : decode cX9_book 0 = .ok (.iload_n 1, 1) := by decide +kernel
theorem dX9_book_1 : decode cX9_book 1 = .ok (.invokestatic 83, 3) := by decide +kernel
theorem dX9_book_4 : decode cX9_book 4 = .ok (.ifCond .ne 5, 3) := by decide +kernel
theorem dX9_book_7 : decode cX9_book 7 = .ok (.iconst (-1), 1) := by decide +kernel
theorem dX9_book_8 : decode cX9_book 8 = .ok (.ireturn, 1) := by decide +kernel
theorem dX9_book_9 : decode cX9_book 9 = .ok (.aload_n 0, 1) := by decide +kernel
theorem dX9_book_10 : decode cX9_book 10 = .ok (.getfield 10, 3) := by decide +kernel
theorem dX9_book_13 : decode cX9_book 13 = .ok (.getfield 87, 3) := by decide +kernel
theorem dX9_book_16 : decode cX9_book 16 = .ok (.bipush 8, 2) := by decide +kernel
theorem dX9_book_18 : decode cX9_book 18 = .ok (.if_icmp .ne 6, 3) := by decide +kernel
theorem dX9_book_21 : decode cX9_book 21 = .ok (.bipush (-3), 2) := by decide +kernel
theorem dX9_book_23 : decode cX9_book 23 = .ok (.ireturn, 1) := by decide +kernel
theorem dX9_book_24 : decode cX9_book 24 = .ok (.aload_n 0, 1) := by decide +kernel
theorem dX9_book_25 : decode cX9_book 25 = .ok (.getfield 10, 3) := by decide +kernel
theorem dX9_book_28 : decode cX9_book 28 = .ok (.iload_n 1, 1) := by decide +kernel
theorem dX9_book_29 : decode cX9_book 29 = .ok (.invokevirtual 91, 3) := by decide +kernel
theorem dX9_book_32 : decode cX9_book 32 = .ok (.ireturn, 1) := by decide +kernel
set_option maxHeartbeats 4000000 in
set_option maxRecDepth 100000 in
theorem cX9_book_k_0 {l : Launch} {D : va_G} {a : Nat → Nat} {k : Nat → ClassId} {n : Nat} {p1 : Int32} {x0 xz : bq_S} {rz : Int32} (h : fX9_book n p1 x0 = some (rz, xz)) : bq_M l D bq_cl (bq_ty k) (bq_wC a k) yX9_book cX9_book 2 (some .int) { frames := 4, cells := 0, slots := 0, locals := 88 } [.ref (a 0), .int p1] x0 (some rz) xz := by
  refine bq_ofW RX9 [(0, .ref (a 0)), (1, .int p1)] (by decide +kernel) rfl (Nat.le_of_ble_eq_true rfl) rfl (bq_adC a k) ?_
  intro p e s m below meth c A Q ls S hK hD hA hR hS hP hl
  have hx := S.1; have hb := S.2.1; have hml := S.2.2.1; have hown := S.2.2.2.1; have hts := S.2.2.2.2
  have hret : ∀ z, some z = some (rz, xz) → (rz, xz) = z := fun z h => (Option.some.inj h).symm
  unfold fX9_book at h
  refine lv_iload_n hx hb dX9_book_0 rfl (lv_at hl 1 rfl) ?_
  obtain ⟨o1, ho1, h⟩ := Option.bind_eq_some_iff.mp h
  obtain ⟨v3, x2⟩ := o1
  replace h := un2_e h
  refine bq_callSi (As := [.int _]) S hK hD hA hP hS (cX9_isThickness_k ho1) hd_yX9_isThickness ml_X9_83 st_yX9_isThickness ⟨rfl, rfl⟩ ⟨by decide, by decide⟩ rfl hl.1 rfl (Nat.le_of_ble_eq_true rfl) ⟨Nat.zero_le _, Nat.zero_le _⟩ dX9_book_1 (fun H locs hP hS => ?_)
  refine lv_if_ne (tgt := 9) hx hb dX9_book_4 (by decide) (fun c4 => ?_) (fun c4 => ?_)
  · replace h := (if_neg c4).symm.trans h
    refine lv_aload_n hx hb dX9_book_9 rfl (lv_at hl 0 rfl) ?_
    refine bq_get (q0 := 0) S hK hP fl_X9_10_X9_0 rfl rfl rfl dX9_book_10 ?_
    refine bq_get (q0 := 1) S hK hP fl_X9_87_X4_0 rfl rfl rfl dX9_book_13 ?_
    refine lv_bipush (v := (8 : Int32)) hx hb dX9_book_16 (by decide) ?_
    refine lv_icmp_ne (tgt := 24) hx hb dX9_book_18 (by decide) (fun c5 => ?_) (fun c5 => ?_)
    · replace h := (if_neg c5).symm.trans h
      refine lv_aload_n hx hb dX9_book_24 rfl (lv_at hl 0 rfl) ?_
      refine bq_get (q0 := 0) S hK hP fl_X9_10_X9_0 rfl rfl rfl dX9_book_25 ?_
      refine lv_iload_n hx hb dX9_book_28 rfl (lv_at hl 1 rfl) ?_
      obtain ⟨o6, ho6, h⟩ := Option.bind_eq_some_iff.mp h
      obtain ⟨v8, x7⟩ := o6
      replace h := un2_e h
      refine bq_callVi (q0 := 1) (As := [.int _]) S hK hD hA hP hS (cX4_add_k_1 ho6) hd_yX4_add ml_X9_91 in_yX4_add (hts _ sl_X4_X4_yX4_add) ⟨rfl, rfl⟩ ⟨by decide, by decide⟩ rfl rfl rfl hl.1 rfl (Nat.le_of_ble_eq_true rfl) ⟨Nat.zero_le _, Nat.zero_le _⟩ dX9_book_29 (fun H locs hP hS => ?_)
      obtain ⟨e1, e2⟩ := Prod.mk.inj (hret _ h)
      exact hR _ _ _ _ _ (congrArg some e1) rfl (by rw [e2]; exact hP) hS dX9_book_32
    · replace h := (if_pos c5).symm.trans h
      refine lv_bipush (v := (-3 : Int32)) hx hb dX9_book_21 (by decide) ?_
      obtain ⟨e1, e2⟩ := Prod.mk.inj (hret _ h)
      exact hR _ _ _ _ _ (congrArg some e1) rfl (by rw [e2]; exact hP) hS dX9_book_23
  · replace h := (if_pos c4).symm.trans h
    refine lv_iconst (v := (-1 : Int32)) hx hb dX9_book_7 (by decide) ?_
    obtain ⟨e1, e2⟩ := Prod.mk.inj (hret _ h)
    exact hR _ _ _ _ _ (congrArg some e1) rfl (by rw [e2]; exact hP) hS dX9_book_8
def fX4_with (p0 : Int32) (p1 : Int32) (p2 : Int32) (x0 : bq_S) : Option (Int32 × bq_S) :=
  if p2 = 0 then
  (fX9_bit p1 x0).bind (fun o2 => un2 o2 (fun v4 x3 =>
  some ((p0 &&& (v4 ^^^ (-1 : Int32))), x3)))
  else
  (fX9_bit p1 x0).bind (fun o5 => un2 o5 (fun v7 x6 =>
  some ((p0 ||| v7), x6)))
theorem dX4_with_0 : decode cX4_with 0 = .ok (.iload_n 2, 1) := by decide +kernel
theorem dX4_with_1 : decode cX4_with 1 = .ok (.ifCond .eq 12, 3) := by decide +kernel
theorem dX4_with_4 : decode cX4_with 4 = .ok (.iload_n 0, 1) := by decide +kernel
theorem dX4_with_5 : decode cX4_with 5 = .ok (.iload_n 1, 1) := by decide +kernel
theorem dX4_with_6 : decode cX4_with 6 = .ok (.invokestatic 70, 3) := by decide +kernel
theorem dX4_with_9 : decode cX4_with 9 = .ok (.ior, 1) := by decide +kernel
theorem dX4_with_10 : decode cX4_with 10 = .ok (.goto 11, 3) := by decide +kernel
theorem dX4_with_13 : decode cX4_with 13 = .ok (.iload_n 0, 1) := by decide +kernel
theorem dX4_with_14 : decode cX4_with 14 = .ok (.iload_n 1, 1) := by decide +kernel
theorem dX4_with_15 : decode cX4_with 15 = .ok (.invokestatic 70, 3) := by decide +kernel
theorem dX4_with_18 : decode cX4_with 18 = .ok (.iconst (-1), 1) := by decide +kernel
theorem dX4_with_19 : decode cX4_with 19 = .ok (.ixor, 1) := by decide +kernel
theorem dX4_with_20 : decode cX4_with 20 = .ok (.iand, 1) := by decide +kernel
theorem dX4_with_21 : decode cX4_with 21 = .ok (.ireturn, 1) := by decide +kernel
set_option maxHeartbeats 4000000 in
set_option maxRecDepth 100000 in
theorem cX4_with_k {l : Launch} {D : va_G} {a : Nat → Nat} {k : Nat → ClassId} {p0 : Int32} {p1 : Int32} {p2 : Int32} {x0 xz : bq_S} {rz : Int32} (h : fX4_with  p0 p1 p2 x0 = some (rz, xz)) : bq_M l D bq_cl (bq_ty k) (bq_wC a k) yX4_with cX4_with 3 (some .int) { frames := 1, cells := 0, slots := 0, locals := 20 } [.int p0, .int p1, .int p2] x0 (some rz) xz := by
  refine bq_ofW RX4 [(0, .int p0), (1, .int p1), (2, .int p2)] (by decide +kernel) rfl (Nat.le_of_ble_eq_true rfl) rfl (bq_adC a k) ?_
  intro p e s m below meth c A Q ls S hK hD hA hR hS hP hl
  have hx := S.1; have hb := S.2.1; have hml := S.2.2.1; have hown := S.2.2.2.1; have hts := S.2.2.2.2
  have hret : ∀ z, some z = some (rz, xz) → (rz, xz) = z := fun z h => (Option.some.inj h).symm
  unfold fX4_with at h
  refine lv_iload_n hx hb dX4_with_0 rfl (lv_at hl 2 rfl) ?_
  refine lv_if_eq (tgt := 13) hx hb dX4_with_1 (by decide) (fun c1 => ?_) (fun c1 => ?_)
  · replace h := (if_pos c1).symm.trans h
    refine lv_iload_n hx hb dX4_with_13 rfl (lv_at hl 0 rfl) ?_
    refine lv_iload_n hx hb dX4_with_14 rfl (lv_at hl 1 rfl) ?_
    obtain ⟨o2, ho2, h⟩ := Option.bind_eq_some_iff.mp h
    obtain ⟨v4, x3⟩ := o2
    replace h := un2_e h
    refine bq_callSNi (As := [.int _]) S hK hD hA hP hS (cX9_bit_k ho2) hd_yX9_bit mn_X4_70 st_yX9_bit ⟨rfl, rfl⟩ ⟨by decide, by decide⟩ rfl hl.1 rfl (Nat.le_of_ble_eq_true rfl) ⟨Nat.zero_le _, Nat.zero_le _⟩ dX4_with_15 (fun H locs hP hS => ?_)
    refine lv_iconst (v := (-1 : Int32)) hx hb dX4_with_18 (by decide) ?_
    refine lv_ixor hx hb dX4_with_19 ?_
    refine lv_iand hx hb dX4_with_20 ?_
    obtain ⟨e1, e2⟩ := Prod.mk.inj (hret _ h)
    exact hR _ _ _ _ _ (congrArg some e1) rfl (by rw [e2]; exact hP) hS dX4_with_21
  · replace h := (if_neg c1).symm.trans h
    refine lv_iload_n hx hb dX4_with_4 rfl (lv_at hl 0 rfl) ?_
    refine lv_iload_n hx hb dX4_with_5 rfl (lv_at hl 1 rfl) ?_
    obtain ⟨o5, ho5, h⟩ := Option.bind_eq_some_iff.mp h
    obtain ⟨v7, x6⟩ := o5
    replace h := un2_e h
    refine bq_callSNi (As := [.int _]) S hK hD hA hP hS (cX9_bit_k ho5) hd_yX9_bit mn_X4_70 st_yX9_bit ⟨rfl, rfl⟩ ⟨by decide, by decide⟩ rfl hl.1 rfl (Nat.le_of_ble_eq_true rfl) ⟨Nat.zero_le _, Nat.zero_le _⟩ dX4_with_6 (fun H locs hP hS => ?_)
    refine lv_ior hx hb dX4_with_9 ?_
    refine lv_goto (tgt := 21) hx hb dX4_with_10 (by decide) ?_
    obtain ⟨e1, e2⟩ := Prod.mk.inj (hret _ h)
    exact hR _ _ _ _ _ (congrArg some e1) rfl (by rw [e2]; exact hP) hS dX4_with_21
def fX4_setQuoted (n : Nat) (q0 : Nat) (p1 : Int32) (p2 : Int32) (p3 : Int32) (x0 : bq_S) : Option (Int32 × bq_S) :=
  if ok_i p1 8 then
  (fX9_has (x0.1 (q0 + 2) p1.toNatClampNeg) p2 x0).bind (fun o2 => un2 o2 (fun v4 x3 =>
  if ok_i p1 8 then
  (fX4_with (x3.1 (q0 + 2) p1.toNatClampNeg) p2 p3 x3).bind (fun o6 => un2 o6 (fun v8 x7 =>
  if ok_i p1 8 then
  bd (bq_sI x7 (q0 + 2) p1.toNatClampNeg v8) (fun x9 =>
  (fX4_learnNear n q0 x9).bind (fun x12 =>
  if v4 = 0 ∨ v4 = 1 then
  some (v4, x12)
  else none))
  else none))
  else none))
  else none
theorem dX4_setQuoted_0 : decode cX4_setQuoted 0 = .ok (.aload_n 0, 1) := by decide +kernel
theorem dX4_setQuoted_1 : decode cX4_setQuoted 1 = .ok (.getfield 25, 3) := by decide +kernel
theorem dX4_setQuoted_4 : decode cX4_setQuoted 4 = .ok (.iload_n 1, 1) := by decide +kernel
theorem dX4_setQuoted_5 : decode cX4_setQuoted 5 = .ok (.iaload, 1) := by decide +kernel
theorem dX4_setQuoted_6 : decode cX4_setQuoted 6 = .ok (.iload_n 2, 1) := by decide +kernel
theorem dX4_setQuoted_7 : decode cX4_setQuoted 7 = .ok (.invokestatic 62, 3) := by decide +kernel
theorem dX4_setQuoted_10 : decode cX4_setQuoted 10 = .ok (.istore 4, 2) := by decide +kernel
theorem dX4_setQuoted_12 : decode cX4_setQuoted 12 = .ok (.aload_n 0, 1) := by decide +kernel
theorem dX4_setQuoted_13 : decode cX4_setQuoted 13 = .ok (.getfield 25, 3) := by decide +kernel
theorem dX4_setQuoted_16 : decode cX4_setQuoted 16 = .ok (.iload_n 1, 1) := by decide +kernel
theorem dX4_setQuoted_17 : decode cX4_setQuoted 17 = .ok (.aload_n 0, 1) := by decide +kernel
theorem dX4_setQuoted_18 : decode cX4_setQuoted 18 = .ok (.getfield 25, 3) := by decide +kernel
theorem dX4_setQuoted_21 : decode cX4_setQuoted 21 = .ok (.iload_n 1, 1) := by decide +kernel
theorem dX4_setQuoted_22 : decode cX4_setQuoted 22 = .ok (.iaload, 1) := by decide +kernel
theorem dX4_setQuoted_23 : decode cX4_setQuoted 23 = .ok (.iload_n 2, 1) := by decide +kernel
theorem dX4_setQuoted_24 : decode cX4_setQuoted 24 = .ok (.iload_n 3, 1) := by decide +kernel
theorem dX4_setQuoted_25 : decode cX4_setQuoted 25 = .ok (.invokestatic 66, 3) := by decide +kernel
theorem dX4_setQuoted_28 : decode cX4_setQuoted 28 = .ok (.iastore, 1) := by decide +kernel
theorem dX4_setQuoted_29 : decode cX4_setQuoted 29 = .ok (.aload_n 0, 1) := by decide +kernel
theorem dX4_setQuoted_30 : decode cX4_setQuoted 30 = .ok (.invokevirtual 54, 3) := by decide +kernel
theorem dX4_setQuoted_33 : decode cX4_setQuoted 33 = .ok (.iload 4, 2) := by decide +kernel
theorem dX4_setQuoted_35 : decode cX4_setQuoted 35 = .ok (.ireturn, 1) := by decide +kernel
set_option maxHeartbeats 4000000 in
set_option maxRecDepth 100000 in
theorem cX4_setQuoted_k_1 {l : Launch} {D : va_G} {a : Nat → Nat} {k : Nat → ClassId} {n : Nat} {p1 : Int32} {p2 : Int32} {p3 : Int32} {x0 xz : bq_S} {rz : Int32} (h : fX4_setQuoted n 1 p1 p2 p3 x0 = some (rz, xz)) : bq_M l D bq_cl (bq_ty k) (bq_wC a k) yX4_setQuoted cX4_setQuoted 5 (some .boolean) { frames := 3, cells := 0, slots := 0, locals := 67 } [.ref (a 1), .int p1, .int p2, .int p3] x0 (some rz) xz := by
  refine bq_ofW RX4 [(0, .ref (a 1)), (1, .int p1), (2, .int p2), (3, .int p3)] (by decide +kernel) rfl (Nat.le_of_ble_eq_true rfl) rfl (bq_adC a k) ?_
  intro p e s m below meth c A Q ls S hK hD hA hR hS hP hl
  have hx := S.1; have hb := S.2.1; have hml := S.2.2.1; have hown := S.2.2.2.1; have hts := S.2.2.2.2
  have hret : ∀ z, some z = some (rz, xz) → (rz, xz) = z := fun z h => (Option.some.inj h).symm
  unfold fX4_setQuoted at h
  refine lv_aload_n hx hb dX4_setQuoted_0 rfl (lv_at hl 0 rfl) ?_
  refine bq_get (q0 := 1) S hK hP fl_X4_25_X4_4 rfl rfl rfl dX4_setQuoted_1 ?_
  refine lv_iload_n hx hb dX4_setQuoted_4 rfl (lv_at hl 1 rfl) ?_
  obtain ⟨g1, h⟩ := bq_gd h
  refine va_iald (D := D) hx hb hK hP 3 0 rfl rfl g1 dX4_setQuoted_5 ?_
  refine lv_iload_n hx hb dX4_setQuoted_6 rfl (lv_at hl 2 rfl) ?_
  obtain ⟨o2, ho2, h⟩ := Option.bind_eq_some_iff.mp h
  obtain ⟨v4, x3⟩ := o2
  replace h := un2_e h
  refine bq_callSNi (As := [.int _, .int _]) S hK hD hA hP hS (cX9_has_k ho2) hd_yX9_has mn_X4_62 st_yX9_has ⟨rfl, rfl⟩ ⟨by decide, by decide⟩ rfl hl.1 rfl (Nat.le_of_ble_eq_true rfl) ⟨Nat.zero_le _, Nat.zero_le _⟩ dX4_setQuoted_7 (fun H locs hP hS => ?_)
  refine lv_istore (lv' := [(4, .int v4), (0, .ref (a 1)), (1, .int p1), (2, .int p2), (3, .int p3)]) hx hb dX4_setQuoted_10 hl (by decide) rfl (fun ls hl => ?_)
  refine lv_aload_n hx hb dX4_setQuoted_12 rfl (lv_at hl 1 rfl) ?_
  refine bq_get (q0 := 1) S hK hP fl_X4_25_X4_4 rfl rfl rfl dX4_setQuoted_13 ?_
  refine lv_iload_n hx hb dX4_setQuoted_16 rfl (lv_at hl 2 rfl) ?_
  refine lv_aload_n hx hb dX4_setQuoted_17 rfl (lv_at hl 1 rfl) ?_
  refine bq_get (q0 := 1) S hK hP fl_X4_25_X4_4 rfl rfl rfl dX4_setQuoted_18 ?_
  refine lv_iload_n hx hb dX4_setQuoted_21 rfl (lv_at hl 2 rfl) ?_
  obtain ⟨g5, h⟩ := bq_gd h
  refine va_iald (D := D) hx hb hK hP 3 0 rfl rfl g5 dX4_setQuoted_22 ?_
  refine lv_iload_n hx hb dX4_setQuoted_23 rfl (lv_at hl 3 rfl) ?_
  refine lv_iload_n hx hb dX4_setQuoted_24 rfl (lv_at hl 4 rfl) ?_
  obtain ⟨o6, ho6, h⟩ := Option.bind_eq_some_iff.mp h
  obtain ⟨v8, x7⟩ := o6
  replace h := un2_e h
  refine bq_callSi (As := [.int _, .int _, .int _]) S hK hD hA hP hS (cX4_with_k ho6) hd_yX4_with ml_X4_66 st_yX4_with ⟨rfl, rfl⟩ ⟨by decide, by decide⟩ rfl hl.1 rfl (Nat.le_of_ble_eq_true rfl) ⟨Nat.zero_le _, Nat.zero_le _⟩ dX4_setQuoted_25 (fun H locs hP hS => ?_)
  obtain ⟨g10, h⟩ := bq_gd h
  obtain ⟨x9, hx9, h⟩ := bq_b h
  refine bq_iast (x1 := x9) (q0 := 3) (t0 := 0) S hK hD hP hS rfl rfl g10 (by rw [hx9]; rfl) dX4_setQuoted_28 (fun H locs hP hS => ?_)
  refine lv_aload_n hx hb dX4_setQuoted_29 rfl (lv_at hl 1 rfl) ?_
  obtain ⟨x12, ho11, h⟩ := Option.bind_eq_some_iff.mp h
  refine bq_callVv (q0 := 1) (As := []) S hK hD hA hP hS (cX4_learnNear_k_1 ho11) hd_yX4_learnNear ml_X4_54 in_yX4_learnNear (hts _ sl_X4_X4_yX4_learnNear) ⟨rfl, rfl⟩ ⟨by decide, by decide⟩ rfl rfl rfl hl.1 rfl (Nat.le_of_ble_eq_true rfl) ⟨Nat.zero_le _, Nat.zero_le _⟩ dX4_setQuoted_30 (fun H locs hP hS => ?_)
  refine lv_iload hx hb dX4_setQuoted_33 (lv_at hl 0 rfl) ?_
  obtain ⟨g13, h⟩ := bq_gp h
  obtain ⟨e1, e2⟩ := Prod.mk.inj (hret _ h)
  exact hR _ _ _ _ _ (congrArg some e1) (bq_z g13) (by rw [e2]; exact hP) hS dX4_setQuoted_35
def fX9_quote (n : Nat) (p1 : Int32) (p2 : Int32) (p3 : Int32) (x0 : bq_S) : Option (Int32 × bq_S) :=
  (fX4_areTwo 1 p1 p2 x0).bind (fun o1 => un2 o1 (fun v3 x2 =>
  if v3 = 0 then
  some ((-1 : Int32), x2)
  else
  (fX4_setQuoted n 1 p1 p2 p3 x2).bind (fun o5 => un2 o5 (fun v7 x6 =>
  if v7 = 0 then
  some ((0 : Int32), x6)
  else
  some ((1 : Int32), x6)))))
theorem dX9_quote_0 : decode cX9_quote 0 = .ok (.aload_n 0, 1) := by decide +kernel
theorem dX9_quote_1 : decode cX9_quote 1 = .ok (.getfield 10, 3) := by decide +kernel
theorem dX9_quote_4 : decode cX9_quote 4 = .ok (.iload_n 1, 1) := by decide +kernel
theorem dX9_quote_5 : decode cX9_quote 5 = .ok (.iload_n 2, 1) := by decide +kernel
theorem dX9_quote_6 : decode cX9_quote 6 = .ok (.invokevirtual 95, 3) := by decide +kernel
theorem dX9_quote_9 : decode cX9_quote 9 = .ok (.ifCond .ne 5, 3) := by decide +kernel
theorem dX9_quote_12 : decode cX9_quote 12 = .ok (.iconst (-1), 1) := by decide +kernel
theorem dX9_quote_13 : decode cX9_quote 13 = .ok (.ireturn, 1) := by decide +kernel
theorem dX9_quote_14 : decode cX9_quote 14 = .ok (.aload_n 0, 1) := by decide +kernel
theorem dX9_quote_15 : decode cX9_quote 15 = .ok (.getfield 10, 3) := by decide +kernel
theorem dX9_quote_18 : decode cX9_quote 18 = .ok (.iload_n 1, 1) := by decide +kernel
theorem dX9_quote_19 : decode cX9_quote 19 = .ok (.iload_n 2, 1) := by decide +kernel
theorem dX9_quote_20 : decode cX9_quote 20 = .ok (.iload_n 3, 1) := by decide +kernel
theorem dX9_quote_21 : decode cX9_quote 21 = .ok (.invokevirtual 99, 3) := by decide +kernel
theorem dX9_quote_24 : decode cX9_quote 24 = .ok (.ifCond .eq 7, 3) := by decide +kernel
theorem dX9_quote_27 : decode cX9_quote 27 = .ok (.iconst 1, 1) := by decide +kernel
theorem dX9_quote_28 : decode cX9_quote 28 = .ok (.goto 4, 3) := by decide +kernel
theorem dX9_quote_31 : decode cX9_quote 31 = .ok (.iconst 0, 1) := by decide +kernel
theorem dX9_quote_32 : decode cX9_quote 32 = .ok (.ireturn, 1) := by decide +kernel
set_option maxHeartbeats 4000000 in
set_option maxRecDepth 100000 in
theorem cX9_quote_k_0 {l : Launch} {D : va_G} {a : Nat → Nat} {k : Nat → ClassId} {n : Nat} {p1 : Int32} {p2 : Int32} {p3 : Int32} {x0 xz : bq_S} {rz : Int32} (h : fX9_quote n p1 p2 p3 x0 = some (rz, xz)) : bq_M l D bq_cl (bq_ty k) (bq_wC a k) yX9_quote cX9_quote 4 (some .int) { frames := 4, cells := 0, slots := 0, locals := 91 } [.ref (a 0), .int p1, .int p2, .int p3] x0 (some rz) xz := by
  refine bq_ofW RX9 [(0, .ref (a 0)), (1, .int p1), (2, .int p2), (3, .int p3)] (by decide +kernel) rfl (Nat.le_of_ble_eq_true rfl) rfl (bq_adC a k) ?_
  intro p e s m below meth c A Q ls S hK hD hA hR hS hP hl
  have hx := S.1; have hb := S.2.1; have hml := S.2.2.1; have hown := S.2.2.2.1; have hts := S.2.2.2.2
  have hret : ∀ z, some z = some (rz, xz) → (rz, xz) = z := fun z h => (Option.some.inj h).symm
  unfold fX9_quote at h
  refine lv_aload_n hx hb dX9_quote_0 rfl (lv_at hl 0 rfl) ?_
  refine bq_get (q0 := 0) S hK hP fl_X9_10_X9_0 rfl rfl rfl dX9_quote_1 ?_
  refine lv_iload_n hx hb dX9_quote_4 rfl (lv_at hl 1 rfl) ?_
  refine lv_iload_n hx hb dX9_quote_5 rfl (lv_at hl 2 rfl) ?_
  obtain ⟨o1, ho1, h⟩ := Option.bind_eq_some_iff.mp h
  obtain ⟨v3, x2⟩ := o1
  replace h := un2_e h
  refine bq_callVi (q0 := 1) (As := [.int _, .int _]) S hK hD hA hP hS (cX4_areTwo_k_1 ho1) hd_yX4_areTwo ml_X9_95 in_yX4_areTwo (hts _ sl_X4_X4_yX4_areTwo) ⟨rfl, rfl⟩ ⟨by decide, by decide⟩ rfl rfl rfl hl.1 rfl (Nat.le_of_ble_eq_true rfl) ⟨Nat.zero_le _, Nat.zero_le _⟩ dX9_quote_6 (fun H locs hP hS => ?_)
  refine lv_if_ne (tgt := 14) hx hb dX9_quote_9 (by decide) (fun c4 => ?_) (fun c4 => ?_)
  · replace h := (if_neg c4).symm.trans h
    refine lv_aload_n hx hb dX9_quote_14 rfl (lv_at hl 0 rfl) ?_
    refine bq_get (q0 := 0) S hK hP fl_X9_10_X9_0 rfl rfl rfl dX9_quote_15 ?_
    refine lv_iload_n hx hb dX9_quote_18 rfl (lv_at hl 1 rfl) ?_
    refine lv_iload_n hx hb dX9_quote_19 rfl (lv_at hl 2 rfl) ?_
    refine lv_iload_n hx hb dX9_quote_20 rfl (lv_at hl 3 rfl) ?_
    obtain ⟨o5, ho5, h⟩ := Option.bind_eq_some_iff.mp h
    obtain ⟨v7, x6⟩ := o5
    replace h := un2_e h
    refine bq_callVi (q0 := 1) (As := [.int _, .int _, .int _]) S hK hD hA hP hS (cX4_setQuoted_k_1 ho5) hd_yX4_setQuoted ml_X9_99 in_yX4_setQuoted (hts _ sl_X4_X4_yX4_setQuoted) ⟨rfl, rfl⟩ ⟨by decide, by decide⟩ rfl rfl rfl hl.1 rfl (Nat.le_of_ble_eq_true rfl) ⟨Nat.zero_le _, Nat.zero_le _⟩ dX9_quote_21 (fun H locs hP hS => ?_)
    refine lv_if_eq (tgt := 31) hx hb dX9_quote_24 (by decide) (fun c8 => ?_) (fun c8 => ?_)
    · replace h := (if_pos c8).symm.trans h
      refine lv_iconst (v := (0 : Int32)) hx hb dX9_quote_31 (by decide) ?_
      obtain ⟨e1, e2⟩ := Prod.mk.inj (hret _ h)
      exact hR _ _ _ _ _ (congrArg some e1) rfl (by rw [e2]; exact hP) hS dX9_quote_32
    · replace h := (if_neg c8).symm.trans h
      refine lv_iconst (v := (1 : Int32)) hx hb dX9_quote_27 (by decide) ?_
      refine lv_goto (tgt := 32) hx hb dX9_quote_28 (by decide) ?_
      obtain ⟨e1, e2⟩ := Prod.mk.inj (hret _ h)
      exact hR _ _ _ _ _ (congrArg some e1) rfl (by rw [e2]; exact hP) hS dX9_quote_32
  · replace h := (if_pos c4).symm.trans h
    refine lv_iconst (v := (-1 : Int32)) hx hb dX9_quote_12 (by decide) ?_
    obtain ⟨e1, e2⟩ := Prod.mk.inj (hret _ h)
    exact hR _ _ _ _ _ (congrArg some e1) rfl (by rw [e2]; exact hP) hS dX9_quote_13
def fX4_setHated (n : Nat) (q0 : Nat) (p1 : Int32) (p2 : Int32) (p3 : Int32) (x0 : bq_S) : Option (Int32 × bq_S) :=
  if ok_i p1 8 then
  (fX9_has (x0.1 (q0 + 3) p1.toNatClampNeg) p2 x0).bind (fun o2 => un2 o2 (fun v4 x3 =>
  if ok_i p1 8 then
  (fX4_with (x3.1 (q0 + 3) p1.toNatClampNeg) p2 p3 x3).bind (fun o6 => un2 o6 (fun v8 x7 =>
  if ok_i p1 8 then
  bd (bq_sI x7 (q0 + 3) p1.toNatClampNeg v8) (fun x9 =>
  if ok_i p2 8 then
  (fX4_with (x9.1 (q0 + 3) p2.toNatClampNeg) p1 p3 x9).bind (fun o12 => un2 o12 (fun v14 x13 =>
  if ok_i p2 8 then
  bd (bq_sI x13 (q0 + 3) p2.toNatClampNeg v14) (fun x15 =>
  (fX4_learnNear n q0 x15).bind (fun x18 =>
  if v4 = 0 ∨ v4 = 1 then
  some (v4, x18)
  else none))
  else none))
  else none)
  else none))
  else none))
  else none
theorem dX4_setHated_0 : decode cX4_setHated 0 = .ok (.aload_n 0, 1) := by decide +kernel
theorem dX4_setHated_1 : decode cX4_setHated 1 = .ok (.getfield 28, 3) := by decide +kernel
theorem dX4_setHated_4 : decode cX4_setHated 4 = .ok (.iload_n 1, 1) := by decide +kernel
theorem dX4_setHated_5 : decode cX4_setHated 5 = .ok (.iaload, 1) := by decide +kernel
theorem dX4_setHated_6 : decode cX4_setHated 6 = .ok (.iload_n 2, 1) := by decide +kernel
theorem dX4_setHated_7 : decode cX4_setHated 7 = .ok (.invokestatic 62, 3) := by decide +kernel
theorem dX4_setHated_10 : decode cX4_setHated 10 = .ok (.istore 4, 2) := by decide +kernel
theorem dX4_setHated_12 : decode cX4_setHated 12 = .ok (.aload_n 0, 1) := by decide +kernel
theorem dX4_setHated_13 : decode cX4_setHated 13 = .ok (.getfield 28, 3) := by decide +kernel
theorem dX4_setHated_16 : decode cX4_setHated 16 = .ok (.iload_n 1, 1) := by decide +kernel
theorem dX4_setHated_17 : decode cX4_setHated 17 = .ok (.aload_n 0, 1) := by decide +kernel
theorem dX4_setHated_18 : decode cX4_setHated 18 = .ok (.getfield 28, 3) := by decide +kernel
theorem dX4_setHated_21 : decode cX4_setHated 21 = .ok (.iload_n 1, 1) := by decide +kernel
theorem dX4_setHated_22 : decode cX4_setHated 22 = .ok (.iaload, 1) := by decide +kernel
theorem dX4_setHated_23 : decode cX4_setHated 23 = .ok (.iload_n 2, 1) := by decide +kernel
theorem dX4_setHated_24 : decode cX4_setHated 24 = .ok (.iload_n 3, 1) := by decide +kernel
theorem dX4_setHated_25 : decode cX4_setHated 25 = .ok (.invokestatic 66, 3) := by decide +kernel
theorem dX4_setHated_28 : decode cX4_setHated 28 = .ok (.iastore, 1) := by decide +kernel
theorem dX4_setHated_29 : decode cX4_setHated 29 = .ok (.aload_n 0, 1) := by decide +kernel
theorem dX4_setHated_30 : decode cX4_setHated 30 = .ok (.getfield 28, 3) := by decide +kernel
theorem dX4_setHated_33 : decode cX4_setHated 33 = .ok (.iload_n 2, 1) := by decide +kernel
theorem dX4_setHated_34 : decode cX4_setHated 34 = .ok (.aload_n 0, 1) := by decide +kernel
theorem dX4_setHated_35 : decode cX4_setHated 35 = .ok (.getfield 28, 3) := by decide +kernel
theorem dX4_setHated_38 : decode cX4_setHated 38 = .ok (.iload_n 2, 1) := by decide +kernel
theorem dX4_setHated_39 : decode cX4_setHated 39 = .ok (.iaload, 1) := by decide +kernel
theorem dX4_setHated_40 : decode cX4_setHated 40 = .ok (.iload_n 1, 1) := by decide +kernel
theorem dX4_setHated_41 : decode cX4_setHated 41 = .ok (.iload_n 3, 1) := by decide +kernel
theorem dX4_setHated_42 : decode cX4_setHated 42 = .ok (.invokestatic 66, 3) := by decide +kernel
theorem dX4_setHated_45 : decode cX4_setHated 45 = .ok (.iastore, 1) := by decide +kernel
theorem dX4_setHated_46 : decode cX4_setHated 46 = .ok (.aload_n 0, 1) := by decide +kernel
theorem dX4_setHated_47 : decode cX4_setHated 47 = .ok (.invokevirtual 54, 3) := by decide +kernel
theorem dX4_setHated_50 : decode cX4_setHated 50 = .ok (.iload 4, 2) := by decide +kernel
theorem dX4_setHated_52 : decode cX4_setHated 52 = .ok (.ireturn, 1) := by decide +kernel
set_option maxHeartbeats 4000000 in
set_option maxRecDepth 100000 in
theorem cX4_setHated_k_1 {l : Launch} {D : va_G} {a : Nat → Nat} {k : Nat → ClassId} {n : Nat} {p1 : Int32} {p2 : Int32} {p3 : Int32} {x0 xz : bq_S} {rz : Int32} (h : fX4_setHated n 1 p1 p2 p3 x0 = some (rz, xz)) : bq_M l D bq_cl (bq_ty k) (bq_wC a k) yX4_setHated cX4_setHated 5 (some .boolean) { frames := 3, cells := 0, slots := 0, locals := 67 } [.ref (a 1), .int p1, .int p2, .int p3] x0 (some rz) xz := by
  refine bq_ofW RX4 [(0, .ref (a 1)), (1, .int p1), (2, .int p2), (3, .int p3)] (by decide +kernel) rfl (Nat.le_of_ble_eq_true rfl) rfl (bq_adC a k) ?_
  intro p e s m below meth c A Q ls S hK hD hA hR hS hP hl
  have hx := S.1; have hb := S.2.1; have hml := S.2.2.1; have hown := S.2.2.2.1; have hts := S.2.2.2.2
  have hret : ∀ z, some z = some (rz, xz) → (rz, xz) = z := fun z h => (Option.some.inj h).symm
  unfold fX4_setHated at h
  refine lv_aload_n hx hb dX4_setHated_0 rfl (lv_at hl 0 rfl) ?_
  refine bq_get (q0 := 1) S hK hP fl_X4_28_X4_5 rfl rfl rfl dX4_setHated_1 ?_
  refine lv_iload_n hx hb dX4_setHated_4 rfl (lv_at hl 1 rfl) ?_
  obtain ⟨g1, h⟩ := bq_gd h
  refine va_iald (D := D) hx hb hK hP 4 0 rfl rfl g1 dX4_setHated_5 ?_
  refine lv_iload_n hx hb dX4_setHated_6 rfl (lv_at hl 2 rfl) ?_
  obtain ⟨o2, ho2, h⟩ := Option.bind_eq_some_iff.mp h
  obtain ⟨v4, x3⟩ := o2
  replace h := un2_e h
  refine bq_callSNi (As := [.int _, .int _]) S hK hD hA hP hS (cX9_has_k ho2) hd_yX9_has mn_X4_62 st_yX9_has ⟨rfl, rfl⟩ ⟨by decide, by decide⟩ rfl hl.1 rfl (Nat.le_of_ble_eq_true rfl) ⟨Nat.zero_le _, Nat.zero_le _⟩ dX4_setHated_7 (fun H locs hP hS => ?_)
  refine lv_istore (lv' := [(4, .int v4), (0, .ref (a 1)), (1, .int p1), (2, .int p2), (3, .int p3)]) hx hb dX4_setHated_10 hl (by decide) rfl (fun ls hl => ?_)
  refine lv_aload_n hx hb dX4_setHated_12 rfl (lv_at hl 1 rfl) ?_
  refine bq_get (q0 := 1) S hK hP fl_X4_28_X4_5 rfl rfl rfl dX4_setHated_13 ?_
  refine lv_iload_n hx hb dX4_setHated_16 rfl (lv_at hl 2 rfl) ?_
  refine lv_aload_n hx hb dX4_setHated_17 rfl (lv_at hl 1 rfl) ?_
  refine bq_get (q0 := 1) S hK hP fl_X4_28_X4_5 rfl rfl rfl dX4_setHated_18 ?_
  refine lv_iload_n hx hb dX4_setHated_21 rfl (lv_at hl 2 rfl) ?_
  obtain ⟨g5, h⟩ := bq_gd h
  refine va_iald (D := D) hx hb hK hP 4 0 rfl rfl g5 dX4_setHated_22 ?_
  refine lv_iload_n hx hb dX4_setHated_23 rfl (lv_at hl 3 rfl) ?_
  refine lv_iload_n hx hb dX4_setHated_24 rfl (lv_at hl 4 rfl) ?_
  obtain ⟨o6, ho6, h⟩ := Option.bind_eq_some_iff.mp h
  obtain ⟨v8, x7⟩ := o6
  replace h := un2_e h
  refine bq_callSi (As := [.int _, .int _, .int _]) S hK hD hA hP hS (cX4_with_k ho6) hd_yX4_with ml_X4_66 st_yX4_with ⟨rfl, rfl⟩ ⟨by decide, by decide⟩ rfl hl.1 rfl (Nat.le_of_ble_eq_true rfl) ⟨Nat.zero_le _, Nat.zero_le _⟩ dX4_setHated_25 (fun H locs hP hS => ?_)
  obtain ⟨g10, h⟩ := bq_gd h
  obtain ⟨x9, hx9, h⟩ := bq_b h
  refine bq_iast (x1 := x9) (q0 := 4) (t0 := 0) S hK hD hP hS rfl rfl g10 (by rw [hx9]; rfl) dX4_setHated_28 (fun H locs hP hS => ?_)
  refine lv_aload_n hx hb dX4_setHated_29 rfl (lv_at hl 1 rfl) ?_
  refine bq_get (q0 := 1) S hK hP fl_X4_28_X4_5 rfl rfl rfl dX4_setHated_30 ?_
  refine lv_iload_n hx hb dX4_setHated_33 rfl (lv_at hl 3 rfl) ?_
  refine lv_aload_n hx hb dX4_setHated_34 rfl (lv_at hl 1 rfl) ?_
  refine bq_get (q0 := 1) S hK hP fl_X4_28_X4_5 rfl rfl rfl dX4_setHated_35 ?_
  refine lv_iload_n hx hb dX4_setHated_38 rfl (lv_at hl 3 rfl) ?_
  obtain ⟨g11, h⟩ := bq_gd h
  refine va_iald (D := D) hx hb hK hP 4 0 rfl rfl g11 dX4_setHated_39 ?_
  refine lv_iload_n hx hb dX4_setHated_40 rfl (lv_at hl 2 rfl) ?_
  refine lv_iload_n hx hb dX4_setHated_41 rfl (lv_at hl 4 rfl) ?_
  obtain ⟨o12, ho12, h⟩ := Option.bind_eq_some_iff.mp h
  obtain ⟨v14, x13⟩ := o12
  replace h := un2_e h
  refine bq_callSi (As := [.int _, .int _, .int _]) S hK hD hA hP hS (cX4_with_k ho12) hd_yX4_with ml_X4_66 st_yX4_with ⟨rfl, rfl⟩ ⟨by decide, by decide⟩ rfl hl.1 rfl (Nat.le_of_ble_eq_true rfl) ⟨Nat.zero_le _, Nat.zero_le _⟩ dX4_setHated_42 (fun H locs hP hS => ?_)
  obtain ⟨g16, h⟩ := bq_gd h
  obtain ⟨x15, hx15, h⟩ := bq_b h
  refine bq_iast (x1 := x15) (q0 := 4) (t0 := 0) S hK hD hP hS rfl rfl g16 (by rw [hx15]; rfl) dX4_setHated_45 (fun H locs hP hS => ?_)
  refine lv_aload_n hx hb dX4_setHated_46 rfl (lv_at hl 1 rfl) ?_
  obtain ⟨x18, ho17, h⟩ := Option.bind_eq_some_iff.mp h
  refine bq_callVv (q0 := 1) (As := []) S hK hD hA hP hS (cX4_learnNear_k_1 ho17) hd_yX4_learnNear ml_X4_54 in_yX4_learnNear (hts _ sl_X4_X4_yX4_learnNear) ⟨rfl, rfl⟩ ⟨by decide, by decide⟩ rfl rfl rfl hl.1 rfl (Nat.le_of_ble_eq_true rfl) ⟨Nat.zero_le _, Nat.zero_le _⟩ dX4_setHated_47 (fun H locs hP hS => ?_)
  refine lv_iload hx hb dX4_setHated_50 (lv_at hl 0 rfl) ?_
  obtain ⟨g19, h⟩ := bq_gp h
  obtain ⟨e1, e2⟩ := Prod.mk.inj (hret _ h)
  exact hR _ _ _ _ _ (congrArg some e1) (bq_z g19) (by rw [e2]; exact hP) hS dX4_setHated_52
def fX9_hate (n : Nat) (p1 : Int32) (p2 : Int32) (p3 : Int32) (x0 : bq_S) : Option (Int32 × bq_S) :=
  (fX4_areTwo 1 p1 p2 x0).bind (fun o1 => un2 o1 (fun v3 x2 =>
  if v3 = 0 then
  some ((-1 : Int32), x2)
  else
  (fX4_setHated n 1 p1 p2 p3 x2).bind (fun o5 => un2 o5 (fun v7 x6 =>
  if v7 = 0 then
  some ((0 : Int32), x6)
  else
  some ((1 : Int32), x6)))))
theorem dX9_hate_0 : decode cX9_hate 0 = .ok (.aload_n 0, 1) := by decide +kernel
theorem dX9_hate_1 : decode cX9_hate 1 = .ok (.getfield 10, 3) := by decide +kernel
theorem dX9_hate_4 : decode cX9_hate 4 = .ok (.iload_n 1, 1) := by decide +kernel
theorem dX9_hate_5 : decode cX9_hate 5 = .ok (.iload_n 2, 1) := by decide +kernel
theorem dX9_hate_6 : decode cX9_hate 6 = .ok (.invokevirtual 95, 3) := by decide +kernel
theorem dX9_hate_9 : decode cX9_hate 9 = .ok (.ifCond .ne 5, 3) := by decide +kernel
theorem dX9_hate_12 : decode cX9_hate 12 = .ok (.iconst (-1), 1) := by decide +kernel
theorem dX9_hate_13 : decode cX9_hate 13 = .ok (.ireturn, 1) := by decide +kernel
theorem dX9_hate_14 : decode cX9_hate 14 = .ok (.aload_n 0, 1) := by decide +kernel
theorem dX9_hate_15 : decode cX9_hate 15 = .ok (.getfield 10, 3) := by decide +kernel
theorem dX9_hate_18 : decode cX9_hate 18 = .ok (.iload_n 1, 1) := by decide +kernel
theorem dX9_hate_19 : decode cX9_hate 19 = .ok (.iload_n 2, 1) := by decide +kernel
theorem dX9_hate_20 : decode cX9_hate 20 = .ok (.iload_n 3, 1) := by decide +kernel
theorem dX9_hate_21 : decode cX9_hate 21 = .ok (.invokevirtual 103, 3) := by decide +kernel
theorem dX9_hate_24 : decode cX9_hate 24 = .ok (.ifCond .eq 7, 3) := by decide +kernel
theorem dX9_hate_27 : decode cX9_hate 27 = .ok (.iconst 1, 1) := by decide +kernel
theorem dX9_hate_28 : decode cX9_hate 28 = .ok (.goto 4, 3) := by decide +kernel
theorem dX9_hate_31 : decode cX9_hate 31 = .ok (.iconst 0, 1) := by decide +kernel
theorem dX9_hate_32 : decode cX9_hate 32 = .ok (.ireturn, 1) := by decide +kernel
set_option maxHeartbeats 4000000 in
set_option maxRecDepth 100000 in
theorem cX9_hate_k_0 {l : Launch} {D : va_G} {a : Nat → Nat} {k : Nat → ClassId} {n : Nat} {p1 : Int32} {p2 : Int32} {p3 : Int32} {x0 xz : bq_S} {rz : Int32} (h : fX9_hate n p1 p2 p3 x0 = some (rz, xz)) : bq_M l D bq_cl (bq_ty k) (bq_wC a k) yX9_hate cX9_hate 4 (some .int) { frames := 4, cells := 0, slots := 0, locals := 91 } [.ref (a 0), .int p1, .int p2, .int p3] x0 (some rz) xz := by
  refine bq_ofW RX9 [(0, .ref (a 0)), (1, .int p1), (2, .int p2), (3, .int p3)] (by decide +kernel) rfl (Nat.le_of_ble_eq_true rfl) rfl (bq_adC a k) ?_
  intro p e s m below meth c A Q ls S hK hD hA hR hS hP hl
  have hx := S.1; have hb := S.2.1; have hml := S.2.2.1; have hown := S.2.2.2.1; have hts := S.2.2.2.2
  have hret : ∀ z, some z = some (rz, xz) → (rz, xz) = z := fun z h => (Option.some.inj h).symm
  unfold fX9_hate at h
  refine lv_aload_n hx hb dX9_hate_0 rfl (lv_at hl 0 rfl) ?_
  refine bq_get (q0 := 0) S hK hP fl_X9_10_X9_0 rfl rfl rfl dX9_hate_1 ?_
  refine lv_iload_n hx hb dX9_hate_4 rfl (lv_at hl 1 rfl) ?_
  refine lv_iload_n hx hb dX9_hate_5 rfl (lv_at hl 2 rfl) ?_
  obtain ⟨o1, ho1, h⟩ := Option.bind_eq_some_iff.mp h
  obtain ⟨v3, x2⟩ := o1
  replace h := un2_e h
  refine bq_callVi (q0 := 1) (As := [.int _, .int _]) S hK hD hA hP hS (cX4_areTwo_k_1 ho1) hd_yX4_areTwo ml_X9_95 in_yX4_areTwo (hts _ sl_X4_X4_yX4_areTwo) ⟨rfl, rfl⟩ ⟨by decide, by decide⟩ rfl rfl rfl hl.1 rfl (Nat.le_of_ble_eq_true rfl) ⟨Nat.zero_le _, Nat.zero_le _⟩ dX9_hate_6 (fun H locs hP hS => ?_)
  refine lv_if_ne (tgt := 14) hx hb dX9_hate_9 (by decide) (fun c4 => ?_) (fun c4 => ?_)
  · replace h := (if_neg c4).symm.trans h
    refine lv_aload_n hx hb dX9_hate_14 rfl (lv_at hl 0 rfl) ?_
    refine bq_get (q0 := 0) S hK hP fl_X9_10_X9_0 rfl rfl rfl dX9_hate_15 ?_
    refine lv_iload_n hx hb dX9_hate_18 rfl (lv_at hl 1 rfl) ?_
    refine lv_iload_n hx hb dX9_hate_19 rfl (lv_at hl 2 rfl) ?_
    refine lv_iload_n hx hb dX9_hate_20 rfl (lv_at hl 3 rfl) ?_
    obtain ⟨o5, ho5, h⟩ := Option.bind_eq_some_iff.mp h
    obtain ⟨v7, x6⟩ := o5
    replace h := un2_e h
    refine bq_callVi (q0 := 1) (As := [.int _, .int _, .int _]) S hK hD hA hP hS (cX4_setHated_k_1 ho5) hd_yX4_setHated ml_X9_103 in_yX4_setHated (hts _ sl_X4_X4_yX4_setHated) ⟨rfl, rfl⟩ ⟨by decide, by decide⟩ rfl rfl rfl hl.1 rfl (Nat.le_of_ble_eq_true rfl) ⟨Nat.zero_le _, Nat.zero_le _⟩ dX9_hate_21 (fun H locs hP hS => ?_)
    refine lv_if_eq (tgt := 31) hx hb dX9_hate_24 (by decide) (fun c8 => ?_) (fun c8 => ?_)
    · replace h := (if_pos c8).symm.trans h
      refine lv_iconst (v := (0 : Int32)) hx hb dX9_hate_31 (by decide) ?_
      obtain ⟨e1, e2⟩ := Prod.mk.inj (hret _ h)
      exact hR _ _ _ _ _ (congrArg some e1) rfl (by rw [e2]; exact hP) hS dX9_hate_32
    · replace h := (if_neg c8).symm.trans h
      refine lv_iconst (v := (1 : Int32)) hx hb dX9_hate_27 (by decide) ?_
      refine lv_goto (tgt := 32) hx hb dX9_hate_28 (by decide) ?_
      obtain ⟨e1, e2⟩ := Prod.mk.inj (hret _ h)
      exact hR _ _ _ _ _ (congrArg some e1) rfl (by rw [e2]; exact hP) hS dX9_hate_32
  · replace h := (if_pos c4).symm.trans h
    refine lv_iconst (v := (-1 : Int32)) hx hb dX9_hate_12 (by decide) ?_
    obtain ⟨e1, e2⟩ := Prod.mk.inj (hret _ h)
    exact hR _ _ _ _ _ (congrArg some e1) rfl (by rw [e2]; exact hP) hS dX9_hate_13
def fX4_setProp (n : Nat) (q0 : Nat) (p1 : Int32) (p2 : Int32) (x0 : bq_S) : Option (Int32 × bq_S) :=
  (fX9_has (x0.1 q0 1) p1 x0).bind (fun o1 => un2 o1 (fun v3 x2 =>
  (fX4_with (x2.1 q0 1) p1 p2 x2).bind (fun o4 => un2 o4 (fun v6 x5 =>
  bd (bq_sI x5 q0 1 v6) (fun x7 =>
  (fX4_learnNear n q0 x7).bind (fun x9 =>
  if v3 = 0 ∨ v3 = 1 then
  some (v3, x9)
  else none))))))
theorem dX4_setProp_0 : decode cX4_setProp 0 = .ok (.aload_n 0, 1) := by decide +kernel
theorem dX4_setProp_1 : decode cX4_setProp 1 = .ok (.getfield 15, 3) := by decide +kernel
theorem dX4_setProp_4 : decode cX4_setProp 4 = .ok (.iload_n 1, 1) := by decide +kernel
theorem dX4_setProp_5 : decode cX4_setProp 5 = .ok (.invokestatic 62, 3) := by decide +kernel
theorem dX4_setProp_8 : decode cX4_setProp 8 = .ok (.istore_n 3, 1) := by decide +kernel
theorem dX4_setProp_9 : decode cX4_setProp 9 = .ok (.aload_n 0, 1) := by decide +kernel
theorem dX4_setProp_10 : decode cX4_setProp 10 = .ok (.aload_n 0, 1) := by decide +kernel
theorem dX4_setProp_11 : decode cX4_setProp 11 = .ok (.getfield 15, 3) := by decide +kernel
theorem dX4_setProp_14 : decode cX4_setProp 14 = .ok (.iload_n 1, 1) := by decide +kernel
theorem dX4_setProp_15 : decode cX4_setProp 15 = .ok (.iload_n 2, 1) := by decide +kernel
theorem dX4_setProp_16 : decode cX4_setProp 16 = .ok (.invokestatic 66, 3) := by decide +kernel
theorem dX4_setProp_19 : decode cX4_setProp 19 = .ok (.putfield 15, 3) := by decide +kernel
theorem dX4_setProp_22 : decode cX4_setProp 22 = .ok (.aload_n 0, 1) := by decide +kernel
theorem dX4_setProp_23 : decode cX4_setProp 23 = .ok (.invokevirtual 54, 3) := by decide +kernel
theorem dX4_setProp_26 : decode cX4_setProp 26 = .ok (.iload_n 3, 1) := by decide +kernel
theorem dX4_setProp_27 : decode cX4_setProp 27 = .ok (.ireturn, 1) := by decide +kernel
set_option maxHeartbeats 4000000 in
set_option maxRecDepth 100000 in
theorem cX4_setProp_k_1 {l : Launch} {D : va_G} {a : Nat → Nat} {k : Nat → ClassId} {n : Nat} {p1 : Int32} {p2 : Int32} {x0 xz : bq_S} {rz : Int32} (h : fX4_setProp n 1 p1 p2 x0 = some (rz, xz)) : bq_M l D bq_cl (bq_ty k) (bq_wC a k) yX4_setProp cX4_setProp 4 (some .boolean) { frames := 3, cells := 0, slots := 0, locals := 67 } [.ref (a 1), .int p1, .int p2] x0 (some rz) xz := by
  refine bq_ofW RX4 [(0, .ref (a 1)), (1, .int p1), (2, .int p2)] (by decide +kernel) rfl (Nat.le_of_ble_eq_true rfl) rfl (bq_adC a k) ?_
  intro p e s m below meth c A Q ls S hK hD hA hR hS hP hl
  have hx := S.1; have hb := S.2.1; have hml := S.2.2.1; have hown := S.2.2.2.1; have hts := S.2.2.2.2
  have hret : ∀ z, some z = some (rz, xz) → (rz, xz) = z := fun z h => (Option.some.inj h).symm
  unfold fX4_setProp at h
  refine lv_aload_n hx hb dX4_setProp_0 rfl (lv_at hl 0 rfl) ?_
  refine bq_get (q0 := 1) S hK hP fl_X4_15_X4_1 rfl rfl rfl dX4_setProp_1 ?_
  refine lv_iload_n hx hb dX4_setProp_4 rfl (lv_at hl 1 rfl) ?_
  obtain ⟨o1, ho1, h⟩ := Option.bind_eq_some_iff.mp h
  obtain ⟨v3, x2⟩ := o1
  replace h := un2_e h
  refine bq_callSNi (As := [.int _, .int _]) S hK hD hA hP hS (cX9_has_k ho1) hd_yX9_has mn_X4_62 st_yX9_has ⟨rfl, rfl⟩ ⟨by decide, by decide⟩ rfl hl.1 rfl (Nat.le_of_ble_eq_true rfl) ⟨Nat.zero_le _, Nat.zero_le _⟩ dX4_setProp_5 (fun H locs hP hS => ?_)
  refine lv_istore_n (lv' := [(3, .int v3), (0, .ref (a 1)), (1, .int p1), (2, .int p2)]) hx hb dX4_setProp_8 rfl hl (by decide) rfl (fun ls hl => ?_)
  refine lv_aload_n hx hb dX4_setProp_9 rfl (lv_at hl 1 rfl) ?_
  refine lv_aload_n hx hb dX4_setProp_10 rfl (lv_at hl 1 rfl) ?_
  refine bq_get (q0 := 1) S hK hP fl_X4_15_X4_1 rfl rfl rfl dX4_setProp_11 ?_
  refine lv_iload_n hx hb dX4_setProp_14 rfl (lv_at hl 2 rfl) ?_
  refine lv_iload_n hx hb dX4_setProp_15 rfl (lv_at hl 3 rfl) ?_
  obtain ⟨o4, ho4, h⟩ := Option.bind_eq_some_iff.mp h
  obtain ⟨v6, x5⟩ := o4
  replace h := un2_e h
  refine bq_callSi (As := [.int _, .int _, .int _]) S hK hD hA hP hS (cX4_with_k ho4) hd_yX4_with ml_X4_66 st_yX4_with ⟨rfl, rfl⟩ ⟨by decide, by decide⟩ rfl hl.1 rfl (Nat.le_of_ble_eq_true rfl) ⟨Nat.zero_le _, Nat.zero_le _⟩ dX4_setProp_16 (fun H locs hP hS => ?_)
  obtain ⟨x7, hx7, h⟩ := bq_b h
  refine bq_put (x1 := x7) (q0 := 1) (ty := .int) S hK hD hP hS fl_X4_15_X4_1 bt_X4 rfl (by decide +kernel) rfl rfl (Nat.le_of_ble_eq_true rfl) rfl rfl (by rw [hx7]; rfl) dX4_setProp_19 (fun H locs hP hS => ?_)
  refine lv_aload_n hx hb dX4_setProp_22 rfl (lv_at hl 1 rfl) ?_
  obtain ⟨x9, ho8, h⟩ := Option.bind_eq_some_iff.mp h
  refine bq_callVv (q0 := 1) (As := []) S hK hD hA hP hS (cX4_learnNear_k_1 ho8) hd_yX4_learnNear ml_X4_54 in_yX4_learnNear (hts _ sl_X4_X4_yX4_learnNear) ⟨rfl, rfl⟩ ⟨by decide, by decide⟩ rfl rfl rfl hl.1 rfl (Nat.le_of_ble_eq_true rfl) ⟨Nat.zero_le _, Nat.zero_le _⟩ dX4_setProp_23 (fun H locs hP hS => ?_)
  refine lv_iload_n hx hb dX4_setProp_26 rfl (lv_at hl 0 rfl) ?_
  obtain ⟨g10, h⟩ := bq_gp h
  obtain ⟨e1, e2⟩ := Prod.mk.inj (hret _ h)
  exact hR _ _ _ _ _ (congrArg some e1) (bq_z g10) (by rw [e2]; exact hP) hS dX4_setProp_27
def fX9_prop (n : Nat) (p1 : Int32) (p2 : Int32) (x0 : bq_S) : Option (Int32 × bq_S) :=
  (fX4_isBook 1 p1.toInt64 x0).bind (fun o1 => un2 o1 (fun v3 x2 =>
  if v3 = 0 then
  some ((-1 : Int32), x2)
  else
  (fX4_setProp n 1 p1 p2 x2).bind (fun o5 => un2 o5 (fun v7 x6 =>
  if v7 = 0 then
  some ((0 : Int32), x6)
  else
  some ((1 : Int32), x6)))))
theorem dX9_prop_0 : decode cX9_prop 0 = .ok (.aload_n 0, 1) := by decide +kernel
theorem dX9_prop_1 : decode cX9_prop 1 = .ok (.getfield 10, 3) := by decide +kernel
theorem dX9_prop_4 : decode cX9_prop 4 = .ok (.iload_n 1, 1) := by decide +kernel
theorem dX9_prop_5 : decode cX9_prop 5 = .ok (.i2l, 1) := by decide +kernel
theorem dX9_prop_6 : decode cX9_prop 6 = .ok (.invokevirtual 106, 3) := by decide +kernel
theorem dX9_prop_9 : decode cX9_prop 9 = .ok (.ifCond .ne 5, 3) := by decide +kernel
theorem dX9_prop_12 : decode cX9_prop 12 = .ok (.iconst (-1), 1) := by decide +kernel
theorem dX9_prop_13 : decode cX9_prop 13 = .ok (.ireturn, 1) := by decide +kernel
theorem dX9_prop_14 : decode cX9_prop 14 = .ok (.aload_n 0, 1) := by decide +kernel
theorem dX9_prop_15 : decode cX9_prop 15 = .ok (.getfield 10, 3) := by decide +kernel
theorem dX9_prop_18 : decode cX9_prop 18 = .ok (.iload_n 1, 1) := by decide +kernel
theorem dX9_prop_19 : decode cX9_prop 19 = .ok (.iload_n 2, 1) := by decide +kernel
theorem dX9_prop_20 : decode cX9_prop 20 = .ok (.invokevirtual 110, 3) := by decide +kernel
theorem dX9_prop_23 : decode cX9_prop 23 = .ok (.ifCond .eq 7, 3) := by decide +kernel
theorem dX9_prop_26 : decode cX9_prop 26 = .ok (.iconst 1, 1) := by decide +kernel
theorem dX9_prop_27 : decode cX9_prop 27 = .ok (.goto 4, 3) := by decide +kernel
theorem dX9_prop_30 : decode cX9_prop 30 = .ok (.iconst 0, 1) := by decide +kernel
theorem dX9_prop_31 : decode cX9_prop 31 = .ok (.ireturn, 1) := by decide +kernel
set_option maxHeartbeats 4000000 in
set_option maxRecDepth 100000 in
theorem cX9_prop_k_0 {l : Launch} {D : va_G} {a : Nat → Nat} {k : Nat → ClassId} {n : Nat} {p1 : Int32} {p2 : Int32} {x0 xz : bq_S} {rz : Int32} (h : fX9_prop n p1 p2 x0 = some (rz, xz)) : bq_M l D bq_cl (bq_ty k) (bq_wC a k) yX9_prop cX9_prop 3 (some .int) { frames := 4, cells := 0, slots := 0, locals := 90 } [.ref (a 0), .int p1, .int p2] x0 (some rz) xz := by
  refine bq_ofW RX9 [(0, .ref (a 0)), (1, .int p1), (2, .int p2)] (by decide +kernel) rfl (Nat.le_of_ble_eq_true rfl) rfl (bq_adC a k) ?_
  intro p e s m below meth c A Q ls S hK hD hA hR hS hP hl
  have hx := S.1; have hb := S.2.1; have hml := S.2.2.1; have hown := S.2.2.2.1; have hts := S.2.2.2.2
  have hret : ∀ z, some z = some (rz, xz) → (rz, xz) = z := fun z h => (Option.some.inj h).symm
  unfold fX9_prop at h
  refine lv_aload_n hx hb dX9_prop_0 rfl (lv_at hl 0 rfl) ?_
  refine bq_get (q0 := 0) S hK hP fl_X9_10_X9_0 rfl rfl rfl dX9_prop_1 ?_
  refine lv_iload_n hx hb dX9_prop_4 rfl (lv_at hl 1 rfl) ?_
  refine lv_i2l hx hb dX9_prop_5 rfl ?_
  obtain ⟨o1, ho1, h⟩ := Option.bind_eq_some_iff.mp h
  obtain ⟨v3, x2⟩ := o1
  replace h := un2_e h
  refine bq_callVi (q0 := 1) (As := [.long _]) S hK hD hA hP hS (cX4_isBook_k_1 ho1) hd_yX4_isBook ml_X9_106 in_yX4_isBook (hts _ sl_X4_X4_yX4_isBook) ⟨rfl, rfl⟩ ⟨by decide, by decide⟩ rfl rfl rfl hl.1 rfl (Nat.le_of_ble_eq_true rfl) ⟨Nat.zero_le _, Nat.zero_le _⟩ dX9_prop_6 (fun H locs hP hS => ?_)
  refine lv_if_ne (tgt := 14) hx hb dX9_prop_9 (by decide) (fun c4 => ?_) (fun c4 => ?_)
  · replace h := (if_neg c4).symm.trans h
    refine lv_aload_n hx hb dX9_prop_14 rfl (lv_at hl 0 rfl) ?_
    refine bq_get (q0 := 0) S hK hP fl_X9_10_X9_0 rfl rfl rfl dX9_prop_15 ?_
    refine lv_iload_n hx hb dX9_prop_18 rfl (lv_at hl 1 rfl) ?_
    refine lv_iload_n hx hb dX9_prop_19 rfl (lv_at hl 2 rfl) ?_
    obtain ⟨o5, ho5, h⟩ := Option.bind_eq_some_iff.mp h
    obtain ⟨v7, x6⟩ := o5
    replace h := un2_e h
    refine bq_callVi (q0 := 1) (As := [.int _, .int _]) S hK hD hA hP hS (cX4_setProp_k_1 ho5) hd_yX4_setProp ml_X9_110 in_yX4_setProp (hts _ sl_X4_X4_yX4_setProp) ⟨rfl, rfl⟩ ⟨by decide, by decide⟩ rfl rfl rfl hl.1 rfl (Nat.le_of_ble_eq_true rfl) ⟨Nat.zero_le _, Nat.zero_le _⟩ dX9_prop_20 (fun H locs hP hS => ?_)
    refine lv_if_eq (tgt := 30) hx hb dX9_prop_23 (by decide) (fun c8 => ?_) (fun c8 => ?_)
    · replace h := (if_pos c8).symm.trans h
      refine lv_iconst (v := (0 : Int32)) hx hb dX9_prop_30 (by decide) ?_
      obtain ⟨e1, e2⟩ := Prod.mk.inj (hret _ h)
      exact hR _ _ _ _ _ (congrArg some e1) rfl (by rw [e2]; exact hP) hS dX9_prop_31
    · replace h := (if_neg c8).symm.trans h
      refine lv_iconst (v := (1 : Int32)) hx hb dX9_prop_26 (by decide) ?_
      refine lv_goto (tgt := 31) hx hb dX9_prop_27 (by decide) ?_
      obtain ⟨e1, e2⟩ := Prod.mk.inj (hret _ h)
      exact hR _ _ _ _ _ (congrArg some e1) rfl (by rw [e2]; exact hP) hS dX9_prop_31
  · replace h := (if_pos c4).symm.trans h
    refine lv_iconst (v := (-1 : Int32)) hx hb dX9_prop_12 (by decide) ?_
    obtain ⟨e1, e2⟩ := Prod.mk.inj (hret _ h)
    exact hR _ _ _ _ _ (congrArg some e1) rfl (by rw [e2]; exact hP) hS dX9_prop_13
def fX9_thick (p1 : Int32) (p2 : Int32) (x0 : bq_S) : Option (Int32 × bq_S) :=
  (fX4_isBook 1 p1.toInt64 x0).bind (fun o1 => un2 o1 (fun v3 x2 =>
  if v3 = 0 then
  some ((-1 : Int32), x2)
  else
  (fX9_isThickness p2 x2).bind (fun o5 => un2 o5 (fun v7 x6 =>
  if v7 = 0 then
  some ((-1 : Int32), x6)
  else
  if ok_i p1 8 then
  bd (x6.1 2 p1.toNatClampNeg) (fun v10 =>
  if ok_i p1 8 then
  bd (bq_sI x6 2 p1.toNatClampNeg p2) (fun x11 =>
  some (v10, x11))
  else none)
  else none))))
theorem dX9_thick_0 : decode cX9_thick 0 = .ok (.aload_n 0, 1) := by decide +kernel
theorem dX9_thick_1 : decode cX9_thick 1 = .ok (.getfield 10, 3) := by decide +kernel
theorem dX9_thick_4 : decode cX9_thick 4 = .ok (.iload_n 1, 1) := by decide +kernel
theorem dX9_thick_5 : decode cX9_thick 5 = .ok (.i2l, 1) := by decide +kernel
theorem dX9_thick_6 : decode cX9_thick 6 = .ok (.invokevirtual 106, 3) := by decide +kernel
theorem dX9_thick_9 : decode cX9_thick 9 = .ok (.ifCond .eq 10, 3) := by decide +kernel
theorem dX9_thick_12 : decode cX9_thick 12 = .ok (.iload_n 2, 1) := by decide +kernel
theorem dX9_thick_13 : decode cX9_thick 13 = .ok (.invokestatic 83, 3) := by decide +kernel
theorem dX9_thick_16 : decode cX9_thick 16 = .ok (.ifCond .ne 5, 3) := by decide +kernel
theorem dX9_thick_19 : decode cX9_thick 19 = .ok (.iconst (-1), 1) := by decide +kernel
theorem dX9_thick_20 : decode cX9_thick 20 = .ok (.ireturn, 1) := by decide +kernel
theorem dX9_thick_21 : decode cX9_thick 21 = .ok (.aload_n 0, 1) := by decide +kernel
theorem dX9_thick_22 : decode cX9_thick 22 = .ok (.getfield 10, 3) := by decide +kernel
theorem dX9_thick_25 : decode cX9_thick 25 = .ok (.getfield 114, 3) := by decide +kernel
theorem dX9_thick_28 : decode cX9_thick 28 = .ok (.iload_n 1, 1) := by decide +kernel
theorem dX9_thick_29 : decode cX9_thick 29 = .ok (.iaload, 1) := by decide +kernel
theorem dX9_thick_30 : decode cX9_thick 30 = .ok (.istore_n 3, 1) := by decide +kernel
theorem dX9_thick_31 : decode cX9_thick 31 = .ok (.aload_n 0, 1) := by decide +kernel
theorem dX9_thick_32 : decode cX9_thick 32 = .ok (.getfield 10, 3) := by decide +kernel
theorem dX9_thick_35 : decode cX9_thick 35 = .ok (.getfield 114, 3) := by decide +kernel
theorem dX9_thick_38 : decode cX9_thick 38 = .ok (.iload_n 1, 1) := by decide +kernel
theorem dX9_thick_39 : decode cX9_thick 39 = .ok (.iload_n 2, 1) := by decide +kernel
theorem dX9_thick_40 : decode cX9_thick 40 = .ok (.iastore, 1) := by decide +kernel
theorem dX9_thick_41 : decode cX9_thick 41 = .ok (.iload_n 3, 1) := by decide +kernel
theorem dX9_thick_42 : decode cX9_thick 42 = .ok (.ireturn, 1) := by decide +kernel
set_option maxHeartbeats 4000000 in
set_option maxRecDepth 100000 in
theorem cX9_thick_k_0 {l : Launch} {D : va_G} {a : Nat → Nat} {k : Nat → ClassId} {p1 : Int32} {p2 : Int32} {x0 xz : bq_S} {rz : Int32} (h : fX9_thick  p1 p2 x0 = some (rz, xz)) : bq_M l D bq_cl (bq_ty k) (bq_wC a k) yX9_thick cX9_thick 4 (some .int) { frames := 1, cells := 0, slots := 0, locals := 22 } [.ref (a 0), .int p1, .int p2] x0 (some rz) xz := by
  refine bq_ofW RX9 [(0, .ref (a 0)), (1, .int p1), (2, .int p2)] (by decide +kernel) rfl (Nat.le_of_ble_eq_true rfl) rfl (bq_adC a k) ?_
  intro p e s m below meth c A Q ls S hK hD hA hR hS hP hl
  have hx := S.1; have hb := S.2.1; have hml := S.2.2.1; have hown := S.2.2.2.1; have hts := S.2.2.2.2
  have hret : ∀ z, some z = some (rz, xz) → (rz, xz) = z := fun z h => (Option.some.inj h).symm
  unfold fX9_thick at h
  refine lv_aload_n hx hb dX9_thick_0 rfl (lv_at hl 0 rfl) ?_
  refine bq_get (q0 := 0) S hK hP fl_X9_10_X9_0 rfl rfl rfl dX9_thick_1 ?_
  refine lv_iload_n hx hb dX9_thick_4 rfl (lv_at hl 1 rfl) ?_
  refine lv_i2l hx hb dX9_thick_5 rfl ?_
  obtain ⟨o1, ho1, h⟩ := Option.bind_eq_some_iff.mp h
  obtain ⟨v3, x2⟩ := o1
  replace h := un2_e h
  refine bq_callVi (q0 := 1) (As := [.long _]) S hK hD hA hP hS (cX4_isBook_k_1 ho1) hd_yX4_isBook ml_X9_106 in_yX4_isBook (hts _ sl_X4_X4_yX4_isBook) ⟨rfl, rfl⟩ ⟨by decide, by decide⟩ rfl rfl rfl hl.1 rfl (Nat.le_of_ble_eq_true rfl) ⟨Nat.zero_le _, Nat.zero_le _⟩ dX9_thick_6 (fun H locs hP hS => ?_)
  refine lv_if_eq (tgt := 19) hx hb dX9_thick_9 (by decide) (fun c4 => ?_) (fun c4 => ?_)
  · replace h := (if_pos c4).symm.trans h
    refine lv_iconst (v := (-1 : Int32)) hx hb dX9_thick_19 (by decide) ?_
    obtain ⟨e1, e2⟩ := Prod.mk.inj (hret _ h)
    exact hR _ _ _ _ _ (congrArg some e1) rfl (by rw [e2]; exact hP) hS dX9_thick_20
  · replace h := (if_neg c4).symm.trans h
    refine lv_iload_n hx hb dX9_thick_12 rfl (lv_at hl 2 rfl) ?_
    obtain ⟨o5, ho5, h⟩ := Option.bind_eq_some_iff.mp h
    obtain ⟨v7, x6⟩ := o5
    replace h := un2_e h
    refine bq_callSi (As := [.int _]) S hK hD hA hP hS (cX9_isThickness_k ho5) hd_yX9_isThickness ml_X9_83 st_yX9_isThickness ⟨rfl, rfl⟩ ⟨by decide, by decide⟩ rfl hl.1 rfl (Nat.le_of_ble_eq_true rfl) ⟨Nat.zero_le _, Nat.zero_le _⟩ dX9_thick_13 (fun H locs hP hS => ?_)
    refine lv_if_ne (tgt := 21) hx hb dX9_thick_16 (by decide) (fun c8 => ?_) (fun c8 => ?_)
    · replace h := (if_neg c8).symm.trans h
      refine lv_aload_n hx hb dX9_thick_21 rfl (lv_at hl 0 rfl) ?_
      refine bq_get (q0 := 0) S hK hP fl_X9_10_X9_0 rfl rfl rfl dX9_thick_22 ?_
      refine bq_get (q0 := 1) S hK hP fl_X9_114_X4_3 rfl rfl rfl dX9_thick_25 ?_
      refine lv_iload_n hx hb dX9_thick_28 rfl (lv_at hl 1 rfl) ?_
      obtain ⟨g9, h⟩ := bq_gd h
      refine va_iald (D := D) hx hb hK hP 2 0 rfl rfl g9 dX9_thick_29 ?_
      refine lv_topi (fun v10 hv10 => ?_)
      replace h := bq_bv h hv10
      refine lv_istore_n (lv' := [(3, .int v10), (0, .ref (a 0)), (1, .int p1), (2, .int p2)]) hx hb dX9_thick_30 rfl hl (by decide) rfl (fun ls hl => ?_)
      refine lv_aload_n hx hb dX9_thick_31 rfl (lv_at hl 1 rfl) ?_
      refine bq_get (q0 := 0) S hK hP fl_X9_10_X9_0 rfl rfl rfl dX9_thick_32 ?_
      refine bq_get (q0 := 1) S hK hP fl_X9_114_X4_3 rfl rfl rfl dX9_thick_35 ?_
      refine lv_iload_n hx hb dX9_thick_38 rfl (lv_at hl 2 rfl) ?_
      refine lv_iload_n hx hb dX9_thick_39 rfl (lv_at hl 3 rfl) ?_
      obtain ⟨g12, h⟩ := bq_gd h
      obtain ⟨x11, hx11, h⟩ := bq_b h
      refine bq_iast (x1 := x11) (q0 := 2) (t0 := 0) S hK hD hP hS rfl rfl g12 (by rw [hx11]; rfl) dX9_thick_40 (fun H locs hP hS => ?_)
      refine lv_iload_n hx hb dX9_thick_41 rfl (lv_at hl 0 rfl) ?_
      obtain ⟨e1, e2⟩ := Prod.mk.inj (hret _ h)
      exact hR _ _ _ _ _ (congrArg some e1) rfl (by rw [e2]; exact hP) hS dX9_thick_42
    · replace h := (if_pos c8).symm.trans h
      refine lv_iconst (v := (-1 : Int32)) hx hb dX9_thick_19 (by decide) ?_
      obtain ⟨e1, e2⟩ := Prod.mk.inj (hret _ h)
      exact hR _ _ _ _ _ (congrArg some e1) rfl (by rw [e2]; exact hP) hS dX9_thick_20
def fX4_setLaw (n : Nat) (q0 : Nat) (p1 : Int32) (p2 : Int32) (x0 : bq_S) : Option (Int32 × bq_S) :=
  if ok_i p1 2 then
  bd (x0.1 (q0 + 4) p1.toNatClampNeg) (fun v2 =>
  if ok_i p1 2 then
  bd (bq_sI x0 (q0 + 4) p1.toNatClampNeg p2) (fun x3 =>
  (fX4_learnNear n q0 x3).bind (fun x6 =>
  some (v2, x6)))
  else none)
  else none
theorem dX4_setLaw_0 : decode cX4_setLaw 0 = .ok (.aload_n 0, 1) := by decide +kernel
theorem dX4_setLaw_1 : decode cX4_setLaw 1 = .ok (.getfield 31, 3) := by decide +kernel
theorem dX4_setLaw_4 : decode cX4_setLaw 4 = .ok (.iload_n 1, 1) := by decide +kernel
theorem dX4_setLaw_5 : decode cX4_setLaw 5 = .ok (.iaload, 1) := by decide +kernel
theorem dX4_setLaw_6 : decode cX4_setLaw 6 = .ok (.istore_n 3, 1) := by decide +kernel
theorem dX4_setLaw_7 : decode cX4_setLaw 7 = .ok (.aload_n 0, 1) := by decide +kernel
theorem dX4_setLaw_8 : decode cX4_setLaw 8 = .ok (.getfield 31, 3) := by decide +kernel
theorem dX4_setLaw_11 : decode cX4_setLaw 11 = .ok (.iload_n 1, 1) := by decide +kernel
theorem dX4_setLaw_12 : decode cX4_setLaw 12 = .ok (.iload_n 2, 1) := by decide +kernel
theorem dX4_setLaw_13 : decode cX4_setLaw 13 = .ok (.iastore, 1) := by decide +kernel
theorem dX4_setLaw_14 : decode cX4_setLaw 14 = .ok (.aload_n 0, 1) := by decide +kernel
theorem dX4_setLaw_15 : decode cX4_setLaw 15 = .ok (.invokevirtual 54, 3) := by decide +kernel
theorem dX4_setLaw_18 : decode cX4_setLaw 18 = .ok (.iload_n 3, 1) := by decide +kernel
theorem dX4_setLaw_19 : decode cX4_setLaw 19 = .ok (.ireturn, 1) := by decide +kernel
set_option maxHeartbeats 4000000 in
set_option maxRecDepth 100000 in
theorem cX4_setLaw_k_1 {l : Launch} {D : va_G} {a : Nat → Nat} {k : Nat → ClassId} {n : Nat} {p1 : Int32} {p2 : Int32} {x0 xz : bq_S} {rz : Int32} (h : fX4_setLaw n 1 p1 p2 x0 = some (rz, xz)) : bq_M l D bq_cl (bq_ty k) (bq_wC a k) yX4_setLaw cX4_setLaw 4 (some .int) { frames := 3, cells := 0, slots := 0, locals := 67 } [.ref (a 1), .int p1, .int p2] x0 (some rz) xz := by
  refine bq_ofW RX4 [(0, .ref (a 1)), (1, .int p1), (2, .int p2)] (by decide +kernel) rfl (Nat.le_of_ble_eq_true rfl) rfl (bq_adC a k) ?_
  intro p e s m below meth c A Q ls S hK hD hA hR hS hP hl
  have hx := S.1; have hb := S.2.1; have hml := S.2.2.1; have hown := S.2.2.2.1; have hts := S.2.2.2.2
  have hret : ∀ z, some z = some (rz, xz) → (rz, xz) = z := fun z h => (Option.some.inj h).symm
  unfold fX4_setLaw at h
  refine lv_aload_n hx hb dX4_setLaw_0 rfl (lv_at hl 0 rfl) ?_
  refine bq_get (q0 := 1) S hK hP fl_X4_31_X4_6 rfl rfl rfl dX4_setLaw_1 ?_
  refine lv_iload_n hx hb dX4_setLaw_4 rfl (lv_at hl 1 rfl) ?_
  obtain ⟨g1, h⟩ := bq_gd h
  refine va_iald (D := D) hx hb hK hP 5 0 rfl rfl g1 dX4_setLaw_5 ?_
  refine lv_topi (fun v2 hv2 => ?_)
  replace h := bq_bv h hv2
  refine lv_istore_n (lv' := [(3, .int v2), (0, .ref (a 1)), (1, .int p1), (2, .int p2)]) hx hb dX4_setLaw_6 rfl hl (by decide) rfl (fun ls hl => ?_)
  refine lv_aload_n hx hb dX4_setLaw_7 rfl (lv_at hl 1 rfl) ?_
  refine bq_get (q0 := 1) S hK hP fl_X4_31_X4_6 rfl rfl rfl dX4_setLaw_8 ?_
  refine lv_iload_n hx hb dX4_setLaw_11 rfl (lv_at hl 2 rfl) ?_
  refine lv_iload_n hx hb dX4_setLaw_12 rfl (lv_at hl 3 rfl) ?_
  obtain ⟨g4, h⟩ := bq_gd h
  obtain ⟨x3, hx3, h⟩ := bq_b h
  refine bq_iast (x1 := x3) (q0 := 5) (t0 := 0) S hK hD hP hS rfl rfl g4 (by rw [hx3]; rfl) dX4_setLaw_13 (fun H locs hP hS => ?_)
  refine lv_aload_n hx hb dX4_setLaw_14 rfl (lv_at hl 1 rfl) ?_
  obtain ⟨x6, ho5, h⟩ := Option.bind_eq_some_iff.mp h
  refine bq_callVv (q0 := 1) (As := []) S hK hD hA hP hS (cX4_learnNear_k_1 ho5) hd_yX4_learnNear ml_X4_54 in_yX4_learnNear (hts _ sl_X4_X4_yX4_learnNear) ⟨rfl, rfl⟩ ⟨by decide, by decide⟩ rfl rfl rfl hl.1 rfl (Nat.le_of_ble_eq_true rfl) ⟨Nat.zero_le _, Nat.zero_le _⟩ dX4_setLaw_15 (fun H locs hP hS => ?_)
  refine lv_iload_n hx hb dX4_setLaw_18 rfl (lv_at hl 0 rfl) ?_
  obtain ⟨e1, e2⟩ := Prod.mk.inj (hret _ h)
  exact hR _ _ _ _ _ (congrArg some e1) rfl (by rw [e2]; exact hP) hS dX4_setLaw_19
def fX9_rule (n : Nat) (p1 : Int32) (p2 : Int32) (x0 : bq_S) : Option (Int32 × bq_S) :=
  if p1 < 0 then
  some ((-1 : Int32), x0)
  else
  if (2 : Int32) ≤ p1 then
  some ((-1 : Int32), x0)
  else
  if p2 < 0 then
  some ((-1 : Int32), x0)
  else
  if p2 ≤ (1 : Int32) then
  (fX4_setLaw n 1 p1 p2 x0).bind (fun o5 => un2 o5 (fun v7 x6 =>
  some (v7, x6)))
  else
  some ((-1 : Int32), x0)
theorem dX9_rule_0 : decode cX9_rule 0 = .ok (.iload_n 1, 1) := by decide +kernel
theorem dX9_rule_1 : decode cX9_rule 1 = .ok (.ifCond .lt 17, 3) := by decide +kernel
theorem dX9_rule_4 : decode cX9_rule 4 = .ok (.iload_n 1, 1) := by decide +kernel
theorem dX9_rule_5 : decode cX9_rule 5 = .ok (.iconst 2, 1) := by decide +kernel
theorem dX9_rule_6 : decode cX9_rule 6 = .ok (.if_icmp .ge 12, 3) := by decide +kernel
theorem dX9_rule_9 : decode cX9_rule 9 = .ok (.iload_n 2, 1) := by decide +kernel
theorem dX9_rule_10 : decode cX9_rule 10 = .ok (.ifCond .lt 8, 3) := by decide +kernel
theorem dX9_rule_13 : decode cX9_rule 13 = .ok (.iload_n 2, 1) := by decide +kernel
theorem dX9_rule_14 : decode cX9_rule 14 = .ok (.iconst 1, 1) := by decide +kernel
theorem dX9_rule_15 : decode cX9_rule 15 = .ok (.if_icmp .le 5, 3) := by decide +kernel
theorem dX9_rule_18 : decode cX9_rule 18 = .ok (.iconst (-1), 1) := by decide +kernel
theorem dX9_rule_19 : decode cX9_rule 19 = .ok (.ireturn, 1) := by decide +kernel
theorem dX9_rule_20 : decode cX9_rule 20 = .ok (.aload_n 0, 1) := by decide +kernel
theorem dX9_rule_21 : decode cX9_rule 21 = .ok (.getfield 10, 3) := by decide +kernel
theorem dX9_rule_24 : decode cX9_rule 24 = .ok (.iload_n 1, 1) := by decide +kernel
theorem dX9_rule_25 : decode cX9_rule 25 = .ok (.iload_n 2, 1) := by decide +kernel
theorem dX9_rule_26 : decode cX9_rule 26 = .ok (.invokevirtual 117, 3) := by decide +kernel
theorem dX9_rule_29 : decode cX9_rule 29 = .ok (.ireturn, 1) := by decide +kernel
set_option maxHeartbeats 4000000 in
set_option maxRecDepth 100000 in
theorem cX9_rule_k_0 {l : Launch} {D : va_G} {a : Nat → Nat} {k : Nat → ClassId} {n : Nat} {p1 : Int32} {p2 : Int32} {x0 xz : bq_S} {rz : Int32} (h : fX9_rule n p1 p2 x0 = some (rz, xz)) : bq_M l D bq_cl (bq_ty k) (bq_wC a k) yX9_rule cX9_rule 3 (some .int) { frames := 4, cells := 0, slots := 0, locals := 90 } [.ref (a 0), .int p1, .int p2] x0 (some rz) xz := by
  refine bq_ofW RX9 [(0, .ref (a 0)), (1, .int p1), (2, .int p2)] (by decide +kernel) rfl (Nat.le_of_ble_eq_true rfl) rfl (bq_adC a k) ?_
  intro p e s m below meth c A Q ls S hK hD hA hR hS hP hl
  have hx := S.1; have hb := S.2.1; have hml := S.2.2.1; have hown := S.2.2.2.1; have hts := S.2.2.2.2
  have hret : ∀ z, some z = some (rz, xz) → (rz, xz) = z := fun z h => (Option.some.inj h).symm
  unfold fX9_rule at h
  refine lv_iload_n hx hb dX9_rule_0 rfl (lv_at hl 1 rfl) ?_
  refine lv_if_lt (tgt := 18) hx hb dX9_rule_1 (by decide) (fun c1 => ?_) (fun c1 => ?_)
  · replace h := (if_pos c1).symm.trans h
    refine lv_iconst (v := (-1 : Int32)) hx hb dX9_rule_18 (by decide) ?_
    obtain ⟨e1, e2⟩ := Prod.mk.inj (hret _ h)
    exact hR _ _ _ _ _ (congrArg some e1) rfl (by rw [e2]; exact hP) hS dX9_rule_19
  · replace h := (if_neg c1).symm.trans h
    refine lv_iload_n hx hb dX9_rule_4 rfl (lv_at hl 1 rfl) ?_
    refine lv_iconst (v := (2 : Int32)) hx hb dX9_rule_5 (by decide) ?_
    refine lv_icmp_ge (tgt := 18) hx hb dX9_rule_6 (by decide) (fun c2 => ?_) (fun c2 => ?_)
    · replace h := (if_pos c2).symm.trans h
      refine lv_iconst (v := (-1 : Int32)) hx hb dX9_rule_18 (by decide) ?_
      obtain ⟨e1, e2⟩ := Prod.mk.inj (hret _ h)
      exact hR _ _ _ _ _ (congrArg some e1) rfl (by rw [e2]; exact hP) hS dX9_rule_19
    · replace h := (if_neg c2).symm.trans h
      refine lv_iload_n hx hb dX9_rule_9 rfl (lv_at hl 2 rfl) ?_
      refine lv_if_lt (tgt := 18) hx hb dX9_rule_10 (by decide) (fun c3 => ?_) (fun c3 => ?_)
      · replace h := (if_pos c3).symm.trans h
        refine lv_iconst (v := (-1 : Int32)) hx hb dX9_rule_18 (by decide) ?_
        obtain ⟨e1, e2⟩ := Prod.mk.inj (hret _ h)
        exact hR _ _ _ _ _ (congrArg some e1) rfl (by rw [e2]; exact hP) hS dX9_rule_19
      · replace h := (if_neg c3).symm.trans h
        refine lv_iload_n hx hb dX9_rule_13 rfl (lv_at hl 2 rfl) ?_
        refine lv_iconst (v := (1 : Int32)) hx hb dX9_rule_14 (by decide) ?_
        refine lv_icmp_le (tgt := 20) hx hb dX9_rule_15 (by decide) (fun c4 => ?_) (fun c4 => ?_)
        · replace h := (if_pos c4).symm.trans h
          refine lv_aload_n hx hb dX9_rule_20 rfl (lv_at hl 0 rfl) ?_
          refine bq_get (q0 := 0) S hK hP fl_X9_10_X9_0 rfl rfl rfl dX9_rule_21 ?_
          refine lv_iload_n hx hb dX9_rule_24 rfl (lv_at hl 1 rfl) ?_
          refine lv_iload_n hx hb dX9_rule_25 rfl (lv_at hl 2 rfl) ?_
          obtain ⟨o5, ho5, h⟩ := Option.bind_eq_some_iff.mp h
          obtain ⟨v7, x6⟩ := o5
          replace h := un2_e h
          refine bq_callVi (q0 := 1) (As := [.int _, .int _]) S hK hD hA hP hS (cX4_setLaw_k_1 ho5) hd_yX4_setLaw ml_X9_117 in_yX4_setLaw (hts _ sl_X4_X4_yX4_setLaw) ⟨rfl, rfl⟩ ⟨by decide, by decide⟩ rfl rfl rfl hl.1 rfl (Nat.le_of_ble_eq_true rfl) ⟨Nat.zero_le _, Nat.zero_le _⟩ dX9_rule_26 (fun H locs hP hS => ?_)
          obtain ⟨e1, e2⟩ := Prod.mk.inj (hret _ h)
          exact hR _ _ _ _ _ (congrArg some e1) rfl (by rw [e2]; exact hP) hS dX9_rule_29
        · replace h := (if_neg c4).symm.trans h
          refine lv_iconst (v := (-1 : Int32)) hx hb dX9_rule_18 (by decide) ?_
          obtain ⟨e1, e2⟩ := Prod.mk.inj (hret _ h)
          exact hR _ _ _ _ _ (congrArg some e1) rfl (by rw [e2]; exact hP) hS dX9_rule_19
def fX4_touches (q0 : Nat) (p1 : Int32) (p2 : Int32) (x0 : bq_S) : Option (Int32 × bq_S) :=
  if ok_i p1 8 then
  if ((x0.1 (q0 + 6) p1.toNatClampNeg) &&& ((1 : Int32) <<< (p2 &&& 31))) = 0 then
  some ((0 : Int32), x0)
  else
  some ((1 : Int32), x0)
  else none
theorem dX4_touches_0 : decode cX4_touches 0 = .ok (.aload_n 0, 1) := by decide +kernel
theorem dX4_touches_1 : decode cX4_touches 1 = .ok (.getfield 37, 3) := by decide +kernel
theorem dX4_touches_4 : decode cX4_touches 4 = .ok (.iload_n 1, 1) := by decide +kernel
theorem dX4_touches_5 : decode cX4_touches 5 = .ok (.iaload, 1) := by decide +kernel
theorem dX4_touches_6 : decode cX4_touches 6 = .ok (.iconst 1, 1) := by decide +kernel
theorem dX4_touches_7 : decode cX4_touches 7 = .ok (.iload_n 2, 1) := by decide +kernel
theorem dX4_touches_8 : decode cX4_touches 8 = .ok (.ishl, 1) := by decide +kernel
theorem dX4_touches_9 : decode cX4_touches 9 = .ok (.iand, 1) := by decide +kernel
theorem dX4_touches_10 : decode cX4_touches 10 = .ok (.ifCond .eq 7, 3) := by decide +kernel
theorem dX4_touches_13 : decode cX4_touches 13 = .ok (.iconst 1, 1) := by decide +kernel
theorem dX4_touches_14 : decode cX4_touches 14 = .ok (.goto 4, 3) := by decide +kernel
theorem dX4_touches_17 : decode cX4_touches 17 = .ok (.iconst 0, 1) := by decide +kernel
theorem dX4_touches_18 : decode cX4_touches 18 = .ok (.ireturn, 1) := by decide +kernel
set_option maxHeartbeats 4000000 in
set_option maxRecDepth 100000 in
theorem cX4_touches_k_1 {l : Launch} {D : va_G} {a : Nat → Nat} {k : Nat → ClassId} {p1 : Int32} {p2 : Int32} {x0 xz : bq_S} {rz : Int32} (h : fX4_touches  1 p1 p2 x0 = some (rz, xz)) : bq_M l D bq_cl (bq_ty k) (bq_wC a k) yX4_touches cX4_touches 3 (some .boolean) { frames := 0, cells := 0, slots := 0, locals := 0 } [.ref (a 1), .int p1, .int p2] x0 (some rz) xz := by
  refine bq_ofW RX4 [(0, .ref (a 1)), (1, .int p1), (2, .int p2)] (by decide +kernel) rfl (Nat.le_of_ble_eq_true rfl) rfl (bq_adC a k) ?_
  intro p e s m below meth c A Q ls S hK hD hA hR hS hP hl
  have hx := S.1; have hb := S.2.1; have hml := S.2.2.1; have hown := S.2.2.2.1; have hts := S.2.2.2.2
  have hret : ∀ z, some z = some (rz, xz) → (rz, xz) = z := fun z h => (Option.some.inj h).symm
  unfold fX4_touches at h
  refine lv_aload_n hx hb dX4_touches_0 rfl (lv_at hl 0 rfl) ?_
  refine bq_get (q0 := 1) S hK hP fl_X4_37_X4_8 rfl rfl rfl dX4_touches_1 ?_
  refine lv_iload_n hx hb dX4_touches_4 rfl (lv_at hl 1 rfl) ?_
  obtain ⟨g1, h⟩ := bq_gd h
  refine va_iald (D := D) hx hb hK hP 7 0 rfl rfl g1 dX4_touches_5 ?_
  refine lv_iconst (v := (1 : Int32)) hx hb dX4_touches_6 (by decide) ?_
  refine lv_iload_n hx hb dX4_touches_7 rfl (lv_at hl 2 rfl) ?_
  refine lv_ishl hx hb dX4_touches_8 ?_
  refine lv_iand hx hb dX4_touches_9 ?_
  refine lv_if_eq (tgt := 17) hx hb dX4_touches_10 (by decide) (fun c2 => ?_) (fun c2 => ?_)
  · replace h := (if_pos c2).symm.trans h
    refine lv_iconst (v := (0 : Int32)) hx hb dX4_touches_17 (by decide) ?_
    obtain ⟨e1, e2⟩ := Prod.mk.inj (hret _ h)
    exact hR _ _ _ _ _ (congrArg some e1) rfl (by rw [e2]; exact hP) hS dX4_touches_18
  · replace h := (if_neg c2).symm.trans h
    refine lv_iconst (v := (1 : Int32)) hx hb dX4_touches_13 (by decide) ?_
    refine lv_goto (tgt := 18) hx hb dX4_touches_14 (by decide) ?_
    obtain ⟨e1, e2⟩ := Prod.mk.inj (hret _ h)
    exact hR _ _ _ _ _ (congrArg some e1) rfl (by rw [e2]; exact hP) hS dX4_touches_18
def fX9_touch (p1 : Int32) (p2 : Int32) (x0 : bq_S) : Option (Int32 × bq_S) :=
  (fX4_areTwo 1 p1 p2 x0).bind (fun o1 => un2 o1 (fun v3 x2 =>
  if v3 = 0 then
  some ((-1 : Int32), x2)
  else
  (fX4_touches 1 p1 p2 x2).bind (fun o5 => un2 o5 (fun v7 x6 =>
  if v7 = 0 then
  some ((0 : Int32), x6)
  else
  some ((1 : Int32), x6)))))
theorem dX9_touch_0 : decode cX9_touch 0 = .ok (.aload_n 0, 1) := by decide +kernel
theorem dX9_touch_1 : decode cX9_touch 1 = .ok (.getfield 10, 3) := by decide +kernel
theorem dX9_touch_4 : decode cX9_touch 4 = .ok (.iload_n 1, 1) := by decide +kernel
theorem dX9_touch_5 : decode cX9_touch 5 = .ok (.iload_n 2, 1) := by decide +kernel
theorem dX9_touch_6 : decode cX9_touch 6 = .ok (.invokevirtual 95, 3) := by decide +kernel
theorem dX9_touch_9 : decode cX9_touch 9 = .ok (.ifCond .ne 5, 3) := by decide +kernel
theorem dX9_touch_12 : decode cX9_touch 12 = .ok (.iconst (-1), 1) := by decide +kernel
theorem dX9_touch_13 : decode cX9_touch 13 = .ok (.ireturn, 1) := by decide +kernel
theorem dX9_touch_14 : decode cX9_touch 14 = .ok (.aload_n 0, 1) := by decide +kernel
theorem dX9_touch_15 : decode cX9_touch 15 = .ok (.getfield 10, 3) := by decide +kernel
theorem dX9_touch_18 : decode cX9_touch 18 = .ok (.iload_n 1, 1) := by decide +kernel
theorem dX9_touch_19 : decode cX9_touch 19 = .ok (.iload_n 2, 1) := by decide +kernel
theorem dX9_touch_20 : decode cX9_touch 20 = .ok (.invokevirtual 121, 3) := by decide +kernel
theorem dX9_touch_23 : decode cX9_touch 23 = .ok (.ifCond .eq 7, 3) := by decide +kernel
theorem dX9_touch_26 : decode cX9_touch 26 = .ok (.iconst 1, 1) := by decide +kernel
theorem dX9_touch_27 : decode cX9_touch 27 = .ok (.goto 4, 3) := by decide +kernel
theorem dX9_touch_30 : decode cX9_touch 30 = .ok (.iconst 0, 1) := by decide +kernel
theorem dX9_touch_31 : decode cX9_touch 31 = .ok (.ireturn, 1) := by decide +kernel
set_option maxHeartbeats 4000000 in
set_option maxRecDepth 100000 in
theorem cX9_touch_k_0 {l : Launch} {D : va_G} {a : Nat → Nat} {k : Nat → ClassId} {p1 : Int32} {p2 : Int32} {x0 xz : bq_S} {rz : Int32} (h : fX9_touch  p1 p2 x0 = some (rz, xz)) : bq_M l D bq_cl (bq_ty k) (bq_wC a k) yX9_touch cX9_touch 3 (some .int) { frames := 2, cells := 0, slots := 0, locals := 44 } [.ref (a 0), .int p1, .int p2] x0 (some rz) xz := by
  refine bq_ofW RX9 [(0, .ref (a 0)), (1, .int p1), (2, .int p2)] (by decide +kernel) rfl (Nat.le_of_ble_eq_true rfl) rfl (bq_adC a k) ?_
  intro p e s m below meth c A Q ls S hK hD hA hR hS hP hl
  have hx := S.1; have hb := S.2.1; have hml := S.2.2.1; have hown := S.2.2.2.1; have hts := S.2.2.2.2
  have hret : ∀ z, some z = some (rz, xz) → (rz, xz) = z := fun z h => (Option.some.inj h).symm
  unfold fX9_touch at h
  refine lv_aload_n hx hb dX9_touch_0 rfl (lv_at hl 0 rfl) ?_
  refine bq_get (q0 := 0) S hK hP fl_X9_10_X9_0 rfl rfl rfl dX9_touch_1 ?_
  refine lv_iload_n hx hb dX9_touch_4 rfl (lv_at hl 1 rfl) ?_
  refine lv_iload_n hx hb dX9_touch_5 rfl (lv_at hl 2 rfl) ?_
  obtain ⟨o1, ho1, h⟩ := Option.bind_eq_some_iff.mp h
  obtain ⟨v3, x2⟩ := o1
  replace h := un2_e h
  refine bq_callVi (q0 := 1) (As := [.int _, .int _]) S hK hD hA hP hS (cX4_areTwo_k_1 ho1) hd_yX4_areTwo ml_X9_95 in_yX4_areTwo (hts _ sl_X4_X4_yX4_areTwo) ⟨rfl, rfl⟩ ⟨by decide, by decide⟩ rfl rfl rfl hl.1 rfl (Nat.le_of_ble_eq_true rfl) ⟨Nat.zero_le _, Nat.zero_le _⟩ dX9_touch_6 (fun H locs hP hS => ?_)
  refine lv_if_ne (tgt := 14) hx hb dX9_touch_9 (by decide) (fun c4 => ?_) (fun c4 => ?_)
  · replace h := (if_neg c4).symm.trans h
    refine lv_aload_n hx hb dX9_touch_14 rfl (lv_at hl 0 rfl) ?_
    refine bq_get (q0 := 0) S hK hP fl_X9_10_X9_0 rfl rfl rfl dX9_touch_15 ?_
    refine lv_iload_n hx hb dX9_touch_18 rfl (lv_at hl 1 rfl) ?_
    refine lv_iload_n hx hb dX9_touch_19 rfl (lv_at hl 2 rfl) ?_
    obtain ⟨o5, ho5, h⟩ := Option.bind_eq_some_iff.mp h
    obtain ⟨v7, x6⟩ := o5
    replace h := un2_e h
    refine bq_callVi (q0 := 1) (As := [.int _, .int _]) S hK hD hA hP hS (cX4_touches_k_1 ho5) hd_yX4_touches ml_X9_121 in_yX4_touches (hts _ sl_X4_X4_yX4_touches) ⟨rfl, rfl⟩ ⟨by decide, by decide⟩ rfl rfl rfl hl.1 rfl (Nat.le_of_ble_eq_true rfl) ⟨Nat.zero_le _, Nat.zero_le _⟩ dX9_touch_20 (fun H locs hP hS => ?_)
    refine lv_if_eq (tgt := 30) hx hb dX9_touch_23 (by decide) (fun c8 => ?_) (fun c8 => ?_)
    · replace h := (if_pos c8).symm.trans h
      refine lv_iconst (v := (0 : Int32)) hx hb dX9_touch_30 (by decide) ?_
      obtain ⟨e1, e2⟩ := Prod.mk.inj (hret _ h)
      exact hR _ _ _ _ _ (congrArg some e1) rfl (by rw [e2]; exact hP) hS dX9_touch_31
    · replace h := (if_neg c8).symm.trans h
      refine lv_iconst (v := (1 : Int32)) hx hb dX9_touch_26 (by decide) ?_
      refine lv_goto (tgt := 31) hx hb dX9_touch_27 (by decide) ?_
      obtain ⟨e1, e2⟩ := Prod.mk.inj (hret _ h)
      exact hR _ _ _ _ _ (congrArg some e1) rfl (by rw [e2]; exact hP) hS dX9_touch_31
  · replace h := (if_pos c4).symm.trans h
    refine lv_iconst (v := (-1 : Int32)) hx hb dX9_touch_12 (by decide) ?_
    obtain ⟨e1, e2⟩ := Prod.mk.inj (hret _ h)
    exact hR _ _ _ _ _ (congrArg some e1) rfl (by rw [e2]; exact hP) hS dX9_touch_13
def fX7_byteOf (p0 : Int64) (p2 : Int32) (x0 : bq_S) : Option (Int32 × bq_S) :=
  some (((p0.toUInt64 >>> (((8 : Int32) * p2).toInt64.toUInt64 &&& Int64.toUInt64 63)).toInt64.toInt32 &&& (255 : Int32)), x0)
theorem dX7_byteOf_0 : decode cX7_byteOf 0 = .ok (.lload_n 0, 1) := by decide +kernel
theorem dX7_byteOf_1 : decode cX7_byteOf 1 = .ok (.bipush 8, 2) := by decide +kernel
theorem dX7_byteOf_3 : decode cX7_byteOf 3 = .ok (.iload_n 2, 1) := by decide +kernel
theorem dX7_byteOf_4 : decode cX7_byteOf 4 = .ok (.imul, 1) := by decide +kernel
theorem dX7_byteOf_5 : decode cX7_byteOf 5 = .ok (.lushr, 1) := by decide +kernel
theorem dX7_byteOf_6 : decode cX7_byteOf 6 = .ok (.l2i, 1) := by decide +kernel
theorem dX7_byteOf_7 : decode cX7_byteOf 7 = .ok (.sipush 255, 3) := by decide +kernel
theorem dX7_byteOf_10 : decode cX7_byteOf 10 = .ok (.iand, 1) := by decide +kernel
theorem dX7_byteOf_11 : decode cX7_byteOf 11 = .ok (.ireturn, 1) := by decide +kernel
set_option maxHeartbeats 4000000 in
set_option maxRecDepth 100000 in
theorem cX7_byteOf_k {l : Launch} {D : va_G} {a : Nat → Nat} {k : Nat → ClassId} {p0 : Int64} {p2 : Int32} {x0 xz : bq_S} {rz : Int32} (h : fX7_byteOf  p0 p2 x0 = some (rz, xz)) : bq_M l D bq_cl (bq_ty k) (bq_wC a k) yX7_byteOf cX7_byteOf 3 (some .int) { frames := 0, cells := 0, slots := 0, locals := 0 } [.long p0, .int p2] x0 (some rz) xz := by
  refine bq_ofW RX7 [(0, .long p0), (2, .int p2)] (by decide +kernel) rfl (Nat.le_of_ble_eq_true rfl) rfl (bq_adC a k) ?_
  intro p e s m below meth c A Q ls S hK hD hA hR hS hP hl
  have hx := S.1; have hb := S.2.1; have hml := S.2.2.1; have hown := S.2.2.2.1; have hts := S.2.2.2.2
  have hret : ∀ z, some z = some (rz, xz) → (rz, xz) = z := fun z h => (Option.some.inj h).symm
  unfold fX7_byteOf at h
  refine lv_lload_n hx hb dX7_byteOf_0 rfl (lv_at hl 0 rfl) ?_
  refine lv_bipush (v := (8 : Int32)) hx hb dX7_byteOf_1 (by decide) ?_
  refine lv_iload_n hx hb dX7_byteOf_3 rfl (lv_at hl 1 rfl) ?_
  refine lv_imul hx hb dX7_byteOf_4 ?_
  refine lv_lushr hx hb dX7_byteOf_5 rfl ?_
  refine lv_l2i hx hb dX7_byteOf_6 rfl ?_
  refine lv_sipush (v := (255 : Int32)) hx hb dX7_byteOf_7 (by decide) ?_
  refine lv_iand hx hb dX7_byteOf_10 ?_
  obtain ⟨e1, e2⟩ := Prod.mk.inj (hret _ h)
  exact hR _ _ _ _ _ (congrArg some e1) rfl (by rw [e2]; exact hP) hS dX7_byteOf_11
def fX7_canHold_b2 (n : Nat) (v1 : Int64) (v2 : Int32) (v : Int32 × bq_S) : Option ((Int32 × bq_S) ⊕ ((Int32 × bq_S) ⊕ (Int32 × bq_S))) :=
  un2 v (fun v3 x4 =>
  if v2 ≤ v3 then
  some (.inr (.inl (v3, x4)))
  else
  (fX7_byteOf v1 v3 x4).bind (fun o6 => un2 o6 (fun v8 x7 =>
  if v8 < (32 : Int32) then
  some (.inr (.inr ((0 : Int32), x7)))
  else
  if v8 ≤ (126 : Int32) then
  bd (v3 + (1 : Int32)) (fun v11 =>
  some (.inl (v11, x7)))
  else
  some (.inr (.inr ((0 : Int32), x7))))))
def fX7_canHold (n : Nat) (p0 : Int64) (p2 : Int32) (x0 : bq_S) : Option (Int32 × bq_S) :=
  (wh n (fX7_canHold_b2 n p0 p2) ((0 : Int32), x0)).bind (fun e12 =>
  Sum.elim (fun z => un2 z (fun v13 x14 =>
  some ((1 : Int32), x14))) (fun z => some z) e12)
theorem dX7_canHold_0 : decode cX7_canHold 0 = .ok (.iconst 0, 1) := by decide +kernel
theorem dX7_canHold_1 : decode cX7_canHold 1 = .ok (.istore_n 3, 1) := by decide +kernel
theorem dX7_canHold_2 : decode cX7_canHold 2 = .ok (.iload_n 3, 1) := by decide +kernel
theorem dX7_canHold_3 : decode cX7_canHold 3 = .ok (.iload_n 2, 1) := by decide +kernel
theorem dX7_canHold_4 : decode cX7_canHold 4 = .ok (.if_icmp .ge 32, 3) := by decide +kernel
theorem dX7_canHold_7 : decode cX7_canHold 7 = .ok (.lload_n 0, 1) := by decide +kernel
theorem dX7_canHold_8 : decode cX7_canHold 8 = .ok (.iload_n 3, 1) := by decide +kernel
theorem dX7_canHold_9 : decode cX7_canHold 9 = .ok (.invokestatic 26, 3) := by decide +kernel
theorem dX7_canHold_12 : decode cX7_canHold 12 = .ok (.istore 4, 2) := by decide +kernel
theorem dX7_canHold_14 : decode cX7_canHold 14 = .ok (.iload 4, 2) := by decide +kernel
theorem dX7_canHold_16 : decode cX7_canHold 16 = .ok (.bipush 32, 2) := by decide +kernel
theorem dX7_canHold_18 : decode cX7_canHold 18 = .ok (.if_icmp .lt 10, 3) := by decide +kernel
theorem dX7_canHold_21 : decode cX7_canHold 21 = .ok (.iload 4, 2) := by decide +kernel
theorem dX7_canHold_23 : decode cX7_canHold 23 = .ok (.bipush 126, 2) := by decide +kernel
theorem dX7_canHold_25 : decode cX7_canHold 25 = .ok (.if_icmp .le 5, 3) := by decide +kernel
theorem dX7_canHold_28 : decode cX7_canHold 28 = .ok (.iconst 0, 1) := by decide +kernel
theorem dX7_canHold_29 : decode cX7_canHold 29 = .ok (.ireturn, 1) := by decide +kernel
theorem dX7_canHold_30 : decode cX7_canHold 30 = .ok (.iinc 3 1, 3) := by decide +kernel
theorem dX7_canHold_33 : decode cX7_canHold 33 = .ok (.goto (-31), 3) := by decide +kernel
theorem dX7_canHold_36 : decode cX7_canHold 36 = .ok (.iconst 1, 1) := by decide +kernel
theorem dX7_canHold_37 : decode cX7_canHold 37 = .ok (.ireturn, 1) := by decide +kernel
set_option maxHeartbeats 4000000 in
set_option maxRecDepth 100000 in
theorem cX7_canHold_k {l : Launch} {D : va_G} {a : Nat → Nat} {k : Nat → ClassId} {n : Nat} {p0 : Int64} {p2 : Int32} {x0 xz : bq_S} {rz : Int32} (h : fX7_canHold n p0 p2 x0 = some (rz, xz)) : bq_M l D bq_cl (bq_ty k) (bq_wC a k) yX7_canHold cX7_canHold 5 (some .boolean) { frames := 1, cells := 0, slots := 0, locals := 22 } [.long p0, .int p2] x0 (some rz) xz := by
  refine bq_ofW RX7 [(0, .long p0), (2, .int p2)] (by decide +kernel) rfl (Nat.le_of_ble_eq_true rfl) rfl (bq_adC a k) ?_
  intro p e s m below meth c A Q ls S hK hD hA hR hS hP hl
  have hx := S.1; have hb := S.2.1; have hml := S.2.2.1; have hown := S.2.2.2.1; have hts := S.2.2.2.2
  have hret : ∀ z, some z = some (rz, xz) → (rz, xz) = z := fun z h => (Option.some.inj h).symm
  unfold fX7_canHold at h
  refine lv_iconst (v := (0 : Int32)) hx hb dX7_canHold_0 (by decide) ?_
  refine lv_istore_n (lv' := [(3, .int (0 : Int32)), (0, .long p0), (2, .int p2)]) hx hb dX7_canHold_1 rfl hl (by decide) rfl (fun ls hl => ?_)
  have hl2 : ∀ (v1 : Int64) (v2 : Int32) (kf : Nat) (v3 : Int32) (x4 : bq_S) (eo : (Int32 × bq_S) ⊕ (Int32 × bq_S)) (H : Heap) (locs : List Loc) (ls : Array Slot), wh kf (fX7_canHold_b2 n v1 v2) (v3, x4) = some eo → va_P D bq_cl (bq_wC a k x4) H → va_S A s.heap H locs → lv_has ls 5 [(0, .long v1), (2, .int v2), (3, .int v3)] → (∀ (H : Heap) (locs : List Loc) (ls : Array Slot) (v13 : Int32) (x14 : bq_S), eo = .inl (v13, x14) → va_P D bq_cl (bq_wC a k x14) H → va_S A s.heap H locs → lv_has ls 5 [] → W p l e { frames := 1, cells := 0, slots := 0, locals := 22 } s m [.long p0, .int p2].toArray below meth c H locs 0 0 Q (F0 m 36 ls [])) → (∀ z, eo = .inr z → (rz, xz) = z) → W p l e { frames := 1, cells := 0, slots := 0, locals := 22 } s m [.long p0, .int p2].toArray below meth c H locs 0 0 Q (F0 m 2 ls []) := by
    intro v1 v2 kf
    induction kf with
    | zero => intro v3 x4 eo H locs ls h; cases h
    | succ kf ih =>
      intro v3 x4 eo H locs ls h hP hS hl kx kr
      obtain ⟨out, h, hw⟩ := wh_s h
      have hret : ∀ z, (some (.inr (.inr z)) : Option ((Int32 × bq_S) ⊕ ((Int32 × bq_S) ⊕ (Int32 × bq_S)))) = some out → (rz, xz) = z := fun z h => kr z (by cases h; exact (Option.some.inj hw).symm)
      unfold fX7_canHold_b2 at h
      replace h := un2_e h
      refine lv_iload_n hx hb dX7_canHold_2 rfl (lv_at hl 2 rfl) ?_
      refine lv_iload_n hx hb dX7_canHold_3 rfl (lv_at hl 1 rfl) ?_
      refine lv_icmp_ge (tgt := 36) hx hb dX7_canHold_4 (by decide) (fun c5 => ?_) (fun c5 => ?_)
      · replace h := (if_pos c5).symm.trans h
        cases h
        exact kx _ _ _ _ _ (Option.some.inj hw).symm hP hS (lv_sub hl [] rfl)
      · replace h := (if_neg c5).symm.trans h
        refine lv_lload_n hx hb dX7_canHold_7 rfl (lv_at hl 0 rfl) ?_
        refine lv_iload_n hx hb dX7_canHold_8 rfl (lv_at hl 2 rfl) ?_
        obtain ⟨o6, ho6, h⟩ := Option.bind_eq_some_iff.mp h
        obtain ⟨v8, x7⟩ := o6
        replace h := un2_e h
        refine bq_callSi (As := [.long _, .int _]) S hK hD hA hP hS (cX7_byteOf_k ho6) hd_yX7_byteOf ml_X7_26 st_yX7_byteOf ⟨rfl, rfl⟩ ⟨by decide, by decide⟩ rfl hl.1 rfl (Nat.le_of_ble_eq_true rfl) ⟨Nat.zero_le _, Nat.zero_le _⟩ dX7_canHold_9 (fun H locs hP hS => ?_)
        refine lv_istore (lv' := [(4, .int v8), (0, .long v1), (2, .int v2), (3, .int v3)]) hx hb dX7_canHold_12 hl (by decide) rfl (fun ls hl => ?_)
        refine lv_iload hx hb dX7_canHold_14 (lv_at hl 0 rfl) ?_
        refine lv_bipush (v := (32 : Int32)) hx hb dX7_canHold_16 (by decide) ?_
        refine lv_icmp_lt (tgt := 28) hx hb dX7_canHold_18 (by decide) (fun c9 => ?_) (fun c9 => ?_)
        · replace h := (if_pos c9).symm.trans h
          refine lv_iconst (v := (0 : Int32)) hx hb dX7_canHold_28 (by decide) ?_
          obtain ⟨e1, e2⟩ := Prod.mk.inj (hret _ h)
          exact hR _ _ _ _ _ (congrArg some e1) rfl (by rw [e2]; exact hP) hS dX7_canHold_29
        · replace h := (if_neg c9).symm.trans h
          refine lv_iload hx hb dX7_canHold_21 (lv_at hl 0 rfl) ?_
          refine lv_bipush (v := (126 : Int32)) hx hb dX7_canHold_23 (by decide) ?_
          refine lv_icmp_le (tgt := 30) hx hb dX7_canHold_25 (by decide) (fun c10 => ?_) (fun c10 => ?_)
          · replace h := (if_pos c10).symm.trans h
            obtain ⟨v11, hv11, h⟩ := bq_b h
            refine lv_iinc (v := v11) (lv' := [(3, .int v11), (4, .int v8), (0, .long v1), (2, .int v2)]) hx hb dX7_canHold_30 hl (k := 3) rfl (by rw [hv11]; rfl) (by decide) rfl (fun ls hl => ?_)
            refine lv_goto (tgt := 2) hx hb dX7_canHold_33 (by decide) ?_
            cases h
            exact ih _ _ _ _ _ _ hw hP hS (lv_sub hl [2, 3, 0] rfl) kx kr
          · replace h := (if_neg c10).symm.trans h
            refine lv_iconst (v := (0 : Int32)) hx hb dX7_canHold_28 (by decide) ?_
            obtain ⟨e1, e2⟩ := Prod.mk.inj (hret _ h)
            exact hR _ _ _ _ _ (congrArg some e1) rfl (by rw [e2]; exact hP) hS dX7_canHold_29
  obtain ⟨e12, he12, h⟩ := Option.bind_eq_some_iff.mp h
  refine hl2 _ _ n _ _ e12 _ _ _ he12 hP hS (lv_sub hl [1, 2, 0] rfl) (fun H locs ls v13 x14 hz hP hS hl => ?_) (fun z hz => hret z (bq_ir h hz :))
  replace h := bq_il h hz
  replace h := un2_e h
  refine lv_iconst (v := (1 : Int32)) hx hb dX7_canHold_36 (by decide) ?_
  obtain ⟨e1, e2⟩ := Prod.mk.inj (hret _ h)
  exact hR _ _ _ _ _ (congrArg some e1) rfl (by rw [e2]; exact hP) hS dX7_canHold_37
def fX7_append_b5 (n : Nat) (v2 : Int64) (v : Int32 × bq_S) : Option ((Int32 × bq_S) ⊕ (Int32 × bq_S)) :=
  un2 v (fun v3 x4 =>
  if v3 < 0 then
  some (.inr (v3, x4))
  else
  (fX7_byteOf v2 v3 x4).bind (fun o6 => un2 o6 (fun v8 x7 =>
  if ok_i (x4.1 22 2) 60 then
  bd (bq_sI x7 23 (x4.1 22 2).toNatClampNeg (vp_nar .byte v8.toInt8.toInt32)) (fun x9 =>
  bd (bq_sI x9 22 2 ((x9.1 22 2) + (1 : Int32))) (fun x11 =>
  bd (v3 + (-1 : Int32)) (fun v12 =>
  some (.inl (v12, x11)))))
  else none)))
def fX7_append (n : Nat) (p1 : Int64) (p3 : Int32) (x0 : bq_S) : Option (Int32 × bq_S) :=
  bd (p3 - (1 : Int32)) (fun v1 =>
  (wh n (fX7_append_b5 n p1) (v1, x0)).bind (fun e13 => un2 e13 (fun v14 x15 =>
  some ((x15.1 22 2), x15))))
theorem dX7_append_0 : decode cX7_append 0 = .ok (.iload_n 3, 1) := by decide +kernel
theorem dX7_append_1 : decode cX7_append 1 = .ok (.iconst 1, 1) := by decide +kernel
theorem dX7_append_2 : decode cX7_append 2 = .ok (.isub, 1) := by decide +kernel
theorem dX7_append_3 : decode cX7_append 3 = .ok (.istore 4, 2) := by decide +kernel
theorem dX7_append_5 : decode cX7_append 5 = .ok (.iload 4, 2) := by decide +kernel
theorem dX7_append_7 : decode cX7_append 7 = .ok (.ifCond .lt 35, 3) := by decide +kernel
theorem dX7_append_10 : decode cX7_append 10 = .ok (.aload_n 0, 1) := by decide +kernel
theorem dX7_append_11 : decode cX7_append 11 = .ok (.getfield 9, 3) := by decide +kernel
theorem dX7_append_14 : decode cX7_append 14 = .ok (.aload_n 0, 1) := by decide +kernel
theorem dX7_append_15 : decode cX7_append 15 = .ok (.getfield 19, 3) := by decide +kernel
theorem dX7_append_18 : decode cX7_append 18 = .ok (.lload_n 1, 1) := by decide +kernel
theorem dX7_append_19 : decode cX7_append 19 = .ok (.iload 4, 2) := by decide +kernel
theorem dX7_append_21 : decode cX7_append 21 = .ok (.invokestatic 26, 3) := by decide +kernel
theorem dX7_append_24 : decode cX7_append 24 = .ok (.i2b, 1) := by decide +kernel
theorem dX7_append_25 : decode cX7_append 25 = .ok (.bastore, 1) := by decide +kernel
theorem dX7_append_26 : decode cX7_append 26 = .ok (.aload_n 0, 1) := by decide +kernel
theorem dX7_append_27 : decode cX7_append 27 = .ok (.dup, 1) := by decide +kernel
theorem dX7_append_28 : decode cX7_append 28 = .ok (.getfield 19, 3) := by decide +kernel
theorem dX7_append_31 : decode cX7_append 31 = .ok (.iconst 1, 1) := by decide +kernel
theorem dX7_append_32 : decode cX7_append 32 = .ok (.iadd, 1) := by decide +kernel
theorem dX7_append_33 : decode cX7_append 33 = .ok (.putfield 19, 3) := by decide +kernel
theorem dX7_append_36 : decode cX7_append 36 = .ok (.iinc 4 (-1), 3) := by decide +kernel
theorem dX7_append_39 : decode cX7_append 39 = .ok (.goto (-34), 3) := by decide +kernel
theorem dX7_append_42 : decode cX7_append 42 = .ok (.aload_n 0, 1) := by decide +kernel
theorem dX7_append_43 : decode cX7_append 43 = .ok (.getfield 19, 3) := by decide +kernel
theorem dX7_append_46 : decode cX7_append 46 = .ok (.ireturn, 1) := by decide +kernel
set_option maxHeartbeats 4000000 in
set_option maxRecDepth 100000 in
theorem cX7_append_k_22 {l : Launch} {D : va_G} {a : Nat → Nat} {k : Nat → ClassId} {n : Nat} {p1 : Int64} {p3 : Int32} {x0 xz : bq_S} {rz : Int32} (h : fX7_append n p1 p3 x0 = some (rz, xz)) : bq_M l D bq_cl (bq_ty k) (bq_wC a k) yX7_append cX7_append 5 (some .int) { frames := 1, cells := 0, slots := 0, locals := 22 } [.ref (a 22), .long p1, .int p3] x0 (some rz) xz := by
  refine bq_ofW RX7 [(0, .ref (a 22)), (1, .long p1), (3, .int p3)] (by decide +kernel) rfl (Nat.le_of_ble_eq_true rfl) rfl (bq_adC a k) ?_
  intro p e s m below meth c A Q ls S hK hD hA hR hS hP hl
  have hx := S.1; have hb := S.2.1; have hml := S.2.2.1; have hown := S.2.2.2.1; have hts := S.2.2.2.2
  have hret : ∀ z, some z = some (rz, xz) → (rz, xz) = z := fun z h => (Option.some.inj h).symm
  unfold fX7_append at h
  refine lv_iload_n hx hb dX7_append_0 rfl (lv_at hl 2 rfl) ?_
  refine lv_iconst (v := (1 : Int32)) hx hb dX7_append_1 (by decide) ?_
  refine lv_isub hx hb dX7_append_2 ?_
  refine lv_topi (fun v1 hv1 => ?_)
  replace h := bq_bv h hv1
  refine lv_istore (lv' := [(4, .int v1), (0, .ref (a 22)), (1, .long p1), (3, .int p3)]) hx hb dX7_append_3 hl (by decide) rfl (fun ls hl => ?_)
  have hl5 : ∀ (v2 : Int64) (kf : Nat) (v3 : Int32) (x4 : bq_S) (eo : Int32 × bq_S) (H : Heap) (locs : List Loc) (ls : Array Slot), wh kf (fX7_append_b5 n v2) (v3, x4) = some eo → va_P D bq_cl (bq_wC a k x4) H → va_S A s.heap H locs → lv_has ls 5 [(0, .ref (a 22)), (1, .long v2), (4, .int v3)] → (∀ (H : Heap) (locs : List Loc) (ls : Array Slot) (v14 : Int32) (x15 : bq_S), eo = (v14, x15) → va_P D bq_cl (bq_wC a k x15) H → va_S A s.heap H locs → lv_has ls 5 [(0, .ref (a 22))] → W p l e { frames := 1, cells := 0, slots := 0, locals := 22 } s m [.ref (a 22), .long p1, .int p3].toArray below meth c H locs 0 0 Q (F0 m 42 ls [])) → W p l e { frames := 1, cells := 0, slots := 0, locals := 22 } s m [.ref (a 22), .long p1, .int p3].toArray below meth c H locs 0 0 Q (F0 m 5 ls []) := by
    intro v2 kf
    induction kf with
    | zero => intro v3 x4 eo H locs ls h; cases h
    | succ kf ih =>
      intro v3 x4 eo H locs ls h hP hS hl kx
      obtain ⟨out, h, hw⟩ := wh_s h
      unfold fX7_append_b5 at h
      replace h := un2_e h
      refine lv_iload hx hb dX7_append_5 (lv_at hl 2 rfl) ?_
      refine lv_if_lt (tgt := 42) hx hb dX7_append_7 (by decide) (fun c5 => ?_) (fun c5 => ?_)
      · replace h := (if_pos c5).symm.trans h
        cases h
        exact kx _ _ _ _ _ (Option.some.inj hw).symm hP hS (lv_sub hl [0] rfl)
      · replace h := (if_neg c5).symm.trans h
        refine lv_aload_n hx hb dX7_append_10 rfl (lv_at hl 0 rfl) ?_
        refine bq_get (q0 := 22) S hK hP fl_X7_9_X7_0 rfl rfl rfl dX7_append_11 ?_
        refine lv_aload_n hx hb dX7_append_14 rfl (lv_at hl 0 rfl) ?_
        refine bq_get (q0 := 22) S hK hP fl_X7_19_X7_2 rfl rfl rfl dX7_append_15 ?_
        refine lv_lload_n hx hb dX7_append_18 rfl (lv_at hl 1 rfl) ?_
        refine lv_iload hx hb dX7_append_19 (lv_at hl 2 rfl) ?_
        obtain ⟨o6, ho6, h⟩ := Option.bind_eq_some_iff.mp h
        obtain ⟨v8, x7⟩ := o6
        replace h := un2_e h
        refine bq_callSi (As := [.long _, .int _]) S hK hD hA hP hS (cX7_byteOf_k ho6) hd_yX7_byteOf ml_X7_26 st_yX7_byteOf ⟨rfl, rfl⟩ ⟨by decide, by decide⟩ rfl hl.1 rfl (Nat.le_of_ble_eq_true rfl) ⟨Nat.zero_le _, Nat.zero_le _⟩ dX7_append_21 (fun H locs hP hS => ?_)
        refine lv_i2b hx hb dX7_append_24 rfl ?_
        obtain ⟨g10, h⟩ := bq_gd h
        obtain ⟨x9, hx9, h⟩ := bq_b h
        refine bq_bast (x1 := x9) (q0 := 23) (t0 := 2) S hK hD hP hS rfl rfl g10 (by rw [hx9]; rfl) dX7_append_25 (fun H locs hP hS => ?_)
        refine lv_aload_n hx hb dX7_append_26 rfl (lv_at hl 0 rfl) ?_
        refine lv_dup hx hb dX7_append_27 rfl ?_
        refine bq_get (q0 := 22) S hK hP fl_X7_19_X7_2 rfl rfl rfl dX7_append_28 ?_
        refine lv_iconst (v := (1 : Int32)) hx hb dX7_append_31 (by decide) ?_
        refine lv_iadd hx hb dX7_append_32 ?_
        obtain ⟨x11, hx11, h⟩ := bq_b h
        refine bq_put (x1 := x11) (q0 := 22) (ty := .int) S hK hD hP hS fl_X7_19_X7_2 bt_X7 rfl (by decide +kernel) rfl rfl (Nat.le_of_ble_eq_true rfl) rfl rfl (by rw [hx11]; rfl) dX7_append_33 (fun H locs hP hS => ?_)
        obtain ⟨v12, hv12, h⟩ := bq_b h
        refine lv_iinc (v := v12) (lv' := [(4, .int v12), (0, .ref (a 22)), (1, .long v2)]) hx hb dX7_append_36 hl (k := 2) rfl (by rw [hv12]; rfl) (by decide) rfl (fun ls hl => ?_)
        refine lv_goto (tgt := 5) hx hb dX7_append_39 (by decide) ?_
        cases h
        exact ih _ _ _ _ _ _ hw hP hS (lv_sub hl [1, 2, 0] rfl) kx
  obtain ⟨e13, he13, h⟩ := Option.bind_eq_some_iff.mp h
  refine hl5 _ n _ _ e13 _ _ _ he13 hP hS (lv_sub hl [1, 2, 0] rfl) (fun H locs ls v14 x15 hz hP hS hl => ?_)
  subst hz
  replace h := un2_e h
  refine lv_aload_n hx hb dX7_append_42 rfl (lv_at hl 0 rfl) ?_
  refine bq_get (q0 := 22) S hK hP fl_X7_19_X7_2 rfl rfl rfl dX7_append_43 ?_
  obtain ⟨e1, e2⟩ := Prod.mk.inj (hret _ h)
  exact hR _ _ _ _ _ (congrArg some e1) rfl (by rw [e2]; exact hP) hS dX7_append_46
def fX9_type (n : Nat) (p1 : Int64) (p3 : Int32) (x0 : bq_S) : Option (Int32 × bq_S) :=
  if p3 < (1 : Int32) then
  some ((-1 : Int32), x0)
  else
  if (8 : Int32) < p3 then
  some ((-1 : Int32), x0)
  else
  (fX7_canHold n p1 p3 x0).bind (fun o3 => un2 o3 (fun v5 x4 =>
  if v5 = 0 then
  some ((-1 : Int32), x4)
  else
  if ((x4.1 22 2) + p3) ≤ (60 : Int32) then
  (fX7_append n p1 p3 x4).bind (fun o8 => un2 o8 (fun v10 x9 =>
  some (v10, x9)))
  else
  some ((-3 : Int32), x4)))
theorem dX9_type_0 : decode cX9_type 0 = .ok (.iload_n 3, 1) := by decide +kernel
theorem dX9_type_1 : decode cX9_type 1 = .ok (.iconst 1, 1) := by decide +kernel
theorem dX9_type_2 : decode cX9_type 2 = .ok (.if_icmp .lt 17, 3) := by decide +kernel
theorem dX9_type_5 : decode cX9_type 5 = .ok (.iload_n 3, 1) := by decide +kernel
theorem dX9_type_6 : decode cX9_type 6 = .ok (.bipush 8, 2) := by decide +kernel
theorem dX9_type_8 : decode cX9_type 8 = .ok (.if_icmp .gt 11, 3) := by decide +kernel
theorem dX9_type_11 : decode cX9_type 11 = .ok (.lload_n 1, 1) := by decide +kernel
theorem dX9_type_12 : decode cX9_type 12 = .ok (.iload_n 3, 1) := by decide +kernel
theorem dX9_type_13 : decode cX9_type 13 = .ok (.invokestatic 124, 3) := by decide +kernel
theorem dX9_type_16 : decode cX9_type 16 = .ok (.ifCond .ne 5, 3) := by decide +kernel
theorem dX9_type_19 : decode cX9_type 19 = .ok (.iconst (-1), 1) := by decide +kernel
theorem dX9_type_20 : decode cX9_type 20 = .ok (.ireturn, 1) := by decide +kernel
theorem dX9_type_21 : decode cX9_type 21 = .ok (.aload_n 0, 1) := by decide +kernel
theorem dX9_type_22 : decode cX9_type 22 = .ok (.getfield 25, 3) := by decide +kernel
theorem dX9_type_25 : decode cX9_type 25 = .ok (.getfield 128, 3) := by decide +kernel
theorem dX9_type_28 : decode cX9_type 28 = .ok (.iload_n 3, 1) := by decide +kernel
theorem dX9_type_29 : decode cX9_type 29 = .ok (.iadd, 1) := by decide +kernel
theorem dX9_type_30 : decode cX9_type 30 = .ok (.bipush 60, 2) := by decide +kernel
theorem dX9_type_32 : decode cX9_type 32 = .ok (.if_icmp .le 6, 3) := by decide +kernel
theorem dX9_type_35 : decode cX9_type 35 = .ok (.bipush (-3), 2) := by decide +kernel
theorem dX9_type_37 : decode cX9_type 37 = .ok (.ireturn, 1) := by decide +kernel
theorem dX9_type_38 : decode cX9_type 38 = .ok (.aload_n 0, 1) := by decide +kernel
theorem dX9_type_39 : decode cX9_type 39 = .ok (.getfield 25, 3) := by decide +kernel
theorem dX9_type_42 : decode cX9_type 42 = .ok (.lload_n 1, 1) := by decide +kernel
theorem dX9_type_43 : decode cX9_type 43 = .ok (.iload_n 3, 1) := by decide +kernel
theorem dX9_type_44 : decode cX9_type 44 = .ok (.invokevirtual 131, 3) := by decide +kernel
theorem dX9_type_47 : decode cX9_type 47 = .ok (.ireturn, 1) := by decide +kernel
set_option maxHeartbeats 4000000 in
set_option maxRecDepth 100000 in
theorem cX9_type_k_0 {l : Launch} {D : va_G} {a : Nat → Nat} {k : Nat → ClassId} {n : Nat} {p1 : Int64} {p3 : Int32} {x0 xz : bq_S} {rz : Int32} (h : fX9_type n p1 p3 x0 = some (rz, xz)) : bq_M l D bq_cl (bq_ty k) (bq_wC a k) yX9_type cX9_type 4 (some .int) { frames := 2, cells := 0, slots := 0, locals := 46 } [.ref (a 0), .long p1, .int p3] x0 (some rz) xz := by
  refine bq_ofW RX9 [(0, .ref (a 0)), (1, .long p1), (3, .int p3)] (by decide +kernel) rfl (Nat.le_of_ble_eq_true rfl) rfl (bq_adC a k) ?_
  intro p e s m below meth c A Q ls S hK hD hA hR hS hP hl
  have hx := S.1; have hb := S.2.1; have hml := S.2.2.1; have hown := S.2.2.2.1; have hts := S.2.2.2.2
  have hret : ∀ z, some z = some (rz, xz) → (rz, xz) = z := fun z h => (Option.some.inj h).symm
  unfold fX9_type at h
  refine lv_iload_n hx hb dX9_type_0 rfl (lv_at hl 2 rfl) ?_
  refine lv_iconst (v := (1 : Int32)) hx hb dX9_type_1 (by decide) ?_
  refine lv_icmp_lt (tgt := 19) hx hb dX9_type_2 (by decide) (fun c1 => ?_) (fun c1 => ?_)
  · replace h := (if_pos c1).symm.trans h
    refine lv_iconst (v := (-1 : Int32)) hx hb dX9_type_19 (by decide) ?_
    obtain ⟨e1, e2⟩ := Prod.mk.inj (hret _ h)
    exact hR _ _ _ _ _ (congrArg some e1) rfl (by rw [e2]; exact hP) hS dX9_type_20
  · replace h := (if_neg c1).symm.trans h
    refine lv_iload_n hx hb dX9_type_5 rfl (lv_at hl 2 rfl) ?_
    refine lv_bipush (v := (8 : Int32)) hx hb dX9_type_6 (by decide) ?_
    refine lv_icmp_gt (tgt := 19) hx hb dX9_type_8 (by decide) (fun c2 => ?_) (fun c2 => ?_)
    · replace h := (if_pos c2).symm.trans h
      refine lv_iconst (v := (-1 : Int32)) hx hb dX9_type_19 (by decide) ?_
      obtain ⟨e1, e2⟩ := Prod.mk.inj (hret _ h)
      exact hR _ _ _ _ _ (congrArg some e1) rfl (by rw [e2]; exact hP) hS dX9_type_20
    · replace h := (if_neg c2).symm.trans h
      refine lv_lload_n hx hb dX9_type_11 rfl (lv_at hl 1 rfl) ?_
      refine lv_iload_n hx hb dX9_type_12 rfl (lv_at hl 2 rfl) ?_
      obtain ⟨o3, ho3, h⟩ := Option.bind_eq_some_iff.mp h
      obtain ⟨v5, x4⟩ := o3
      replace h := un2_e h
      refine bq_callSi (As := [.long _, .int _]) S hK hD hA hP hS (cX7_canHold_k ho3) hd_yX7_canHold ml_X9_124 st_yX7_canHold ⟨rfl, rfl⟩ ⟨by decide, by decide⟩ rfl hl.1 rfl (Nat.le_of_ble_eq_true rfl) ⟨Nat.zero_le _, Nat.zero_le _⟩ dX9_type_13 (fun H locs hP hS => ?_)
      refine lv_if_ne (tgt := 21) hx hb dX9_type_16 (by decide) (fun c6 => ?_) (fun c6 => ?_)
      · replace h := (if_neg c6).symm.trans h
        refine lv_aload_n hx hb dX9_type_21 rfl (lv_at hl 0 rfl) ?_
        refine bq_get (q0 := 0) S hK hP fl_X9_25_X9_3 rfl rfl rfl dX9_type_22 ?_
        refine bq_get (q0 := 22) S hK hP fl_X9_128_X7_2 rfl rfl rfl dX9_type_25 ?_
        refine lv_iload_n hx hb dX9_type_28 rfl (lv_at hl 2 rfl) ?_
        refine lv_iadd hx hb dX9_type_29 ?_
        refine lv_bipush (v := (60 : Int32)) hx hb dX9_type_30 (by decide) ?_
        refine lv_icmp_le (tgt := 38) hx hb dX9_type_32 (by decide) (fun c7 => ?_) (fun c7 => ?_)
        · replace h := (if_pos c7).symm.trans h
          refine lv_aload_n hx hb dX9_type_38 rfl (lv_at hl 0 rfl) ?_
          refine bq_get (q0 := 0) S hK hP fl_X9_25_X9_3 rfl rfl rfl dX9_type_39 ?_
          refine lv_lload_n hx hb dX9_type_42 rfl (lv_at hl 1 rfl) ?_
          refine lv_iload_n hx hb dX9_type_43 rfl (lv_at hl 2 rfl) ?_
          obtain ⟨o8, ho8, h⟩ := Option.bind_eq_some_iff.mp h
          obtain ⟨v10, x9⟩ := o8
          replace h := un2_e h
          refine bq_callVi (q0 := 22) (As := [.long _, .int _]) S hK hD hA hP hS (cX7_append_k_22 ho8) hd_yX7_append ml_X9_131 in_yX7_append (hts _ sl_X7_X7_yX7_append) ⟨rfl, rfl⟩ ⟨by decide, by decide⟩ rfl rfl rfl hl.1 rfl (Nat.le_of_ble_eq_true rfl) ⟨Nat.zero_le _, Nat.zero_le _⟩ dX9_type_44 (fun H locs hP hS => ?_)
          obtain ⟨e1, e2⟩ := Prod.mk.inj (hret _ h)
          exact hR _ _ _ _ _ (congrArg some e1) rfl (by rw [e2]; exact hP) hS dX9_type_47
        · replace h := (if_neg c7).symm.trans h
          refine lv_bipush (v := (-3 : Int32)) hx hb dX9_type_35 (by decide) ?_
          obtain ⟨e1, e2⟩ := Prod.mk.inj (hret _ h)
          exact hR _ _ _ _ _ (congrArg some e1) rfl (by rw [e2]; exact hP) hS dX9_type_37
      · replace h := (if_pos c6).symm.trans h
        refine lv_iconst (v := (-1 : Int32)) hx hb dX9_type_19 (by decide) ?_
        obtain ⟨e1, e2⟩ := Prod.mk.inj (hret _ h)
        exact hR _ _ _ _ _ (congrArg some e1) rfl (by rw [e2]; exact hP) hS dX9_type_20
