def fX10_drop (p1 : Int32) (x0 : bq_S) : Option (Int32 × bq_S) :=
  (fX10_isSheet p1 x0).bind (fun o1 => un2 o1 (fun v3 x2 =>
  if v3 = 0 then
  some ((-1 : Int32), x2)
  else
  if ok_i p1 4 then
  if 0 ≤ (x2.1 14 p1.toNatClampNeg) then
  if ok_i p1 4 then
  bd (bq_sI x2 14 p1.toNatClampNeg (-1 : Int32)) (fun x7 =>
  if ok_i p1 4 then
  some ((x7.1 15 p1.toNatClampNeg), x7)
  else none)
  else none
  else
  some ((-11 : Int32), x2)
  else none))
theorem dX10_drop_0 : decode cX10_drop 0 = .ok (.iload_n 1, 1) := by decide +kernel
theorem dX10_drop_1 : decode cX10_drop 1 = .ok (.invokestatic 195, 3) := by decide +kernel
theorem dX10_drop_4 : decode cX10_drop 4 = .ok (.ifCond .ne 5, 3) := by decide +kernel
theorem dX10_drop_7 : decode cX10_drop 7 = .ok (.iconst (-1), 1) := by decide +kernel
theorem dX10_drop_8 : decode cX10_drop 8 = .ok (.ireturn, 1) := by decide +kernel
theorem dX10_drop_9 : decode cX10_drop 9 = .ok (.aload_n 0, 1) := by decide +kernel
theorem dX10_drop_10 : decode cX10_drop 10 = .ok (.getfield 49, 3) := by decide +kernel
theorem dX10_drop_13 : decode cX10_drop 13 = .ok (.iload_n 1, 1) := by decide +kernel
theorem dX10_drop_14 : decode cX10_drop 14 = .ok (.iaload, 1) := by decide +kernel
theorem dX10_drop_15 : decode cX10_drop 15 = .ok (.ifCond .ge 6, 3) := by decide +kernel
theorem dX10_drop_18 : decode cX10_drop 18 = .ok (.bipush (-11), 2) := by decide +kernel
theorem dX10_drop_20 : decode cX10_drop 20 = .ok (.ireturn, 1) := by decide +kernel
theorem dX10_drop_21 : decode cX10_drop 21 = .ok (.aload_n 0, 1) := by decide +kernel
theorem dX10_drop_22 : decode cX10_drop 22 = .ok (.getfield 49, 3) := by decide +kernel
theorem dX10_drop_25 : decode cX10_drop 25 = .ok (.iload_n 1, 1) := by decide +kernel
theorem dX10_drop_26 : decode cX10_drop 26 = .ok (.iconst (-1), 1) := by decide +kernel
theorem dX10_drop_27 : decode cX10_drop 27 = .ok (.iastore, 1) := by decide +kernel
theorem dX10_drop_28 : decode cX10_drop 28 = .ok (.aload_n 0, 1) := by decide +kernel
theorem dX10_drop_29 : decode cX10_drop 29 = .ok (.getfield 52, 3) := by decide +kernel
theorem dX10_drop_32 : decode cX10_drop 32 = .ok (.iload_n 1, 1) := by decide +kernel
theorem dX10_drop_33 : decode cX10_drop 33 = .ok (.iaload, 1) := by decide +kernel
theorem dX10_drop_34 : decode cX10_drop 34 = .ok (.ireturn, 1) := by decide +kernel
set_option maxHeartbeats 4000000 in
set_option maxRecDepth 100000 in
theorem cX10_drop_k_0 {l : Launch} {D : va_G} {a : Nat → Nat} {k : Nat → ClassId} {p1 : Int32} {x0 xz : bq_S} {rz : Int32} (h : fX10_drop  p1 x0 = some (rz, xz)) : bq_M l D bq_cl (bq_ty k) (bq_wM a k) yX10_drop cX10_drop 2 (some .int) { frames := 2, cells := 0, slots := 0, locals := 45 } [.ref (a 0), .int p1] x0 (some rz) xz := by
  refine bq_ofW RX10 [(0, .ref (a 0)), (1, .int p1)] (by decide +kernel) rfl (Nat.le_of_ble_eq_true rfl) rfl (bq_adM a k) ?_
  intro p e s m below meth c A Q ls S hK hD hA hR hS hP hl
  have hx := S.1; have hb := S.2.1; have hml := S.2.2.1; have hown := S.2.2.2.1; have hts := S.2.2.2.2
  have hret : ∀ z, some z = some (rz, xz) → (rz, xz) = z := fun z h => (Option.some.inj h).symm
  unfold fX10_drop at h
  refine lv_iload_n hx hb dX10_drop_0 rfl (lv_at hl 1 rfl) ?_
  obtain ⟨o1, ho1, h⟩ := Option.bind_eq_some_iff.mp h
  obtain ⟨v3, x2⟩ := o1
  replace h := un2_e h
  refine bq_callSi (As := [.int _]) S hK hD hA hP hS (cX10_isSheet_k ho1) hd_yX10_isSheet ml_X10_195 st_yX10_isSheet ⟨rfl, rfl⟩ ⟨by decide, by decide⟩ rfl hl.1 rfl (Nat.le_of_ble_eq_true rfl) ⟨Nat.zero_le _, Nat.zero_le _⟩ dX10_drop_1 (fun H locs hP hS => ?_)
  refine lv_if_ne (tgt := 9) hx hb dX10_drop_4 (by decide) (fun c4 => ?_) (fun c4 => ?_)
  · replace h := (if_neg c4).symm.trans h
    refine lv_aload_n hx hb dX10_drop_9 rfl (lv_at hl 0 rfl) ?_
    refine bq_get (q0 := 0) S hK hP fl_X10_49_X10_22 rfl rfl rfl dX10_drop_10 ?_
    refine lv_iload_n hx hb dX10_drop_13 rfl (lv_at hl 1 rfl) ?_
    obtain ⟨g5, h⟩ := bq_gd h
    refine va_iald (D := D) hx hb hK hP 14 0 rfl rfl g5 dX10_drop_14 ?_
    refine lv_if_ge (tgt := 21) hx hb dX10_drop_15 (by decide) (fun c6 => ?_) (fun c6 => ?_)
    · replace h := (if_pos c6).symm.trans h
      refine lv_aload_n hx hb dX10_drop_21 rfl (lv_at hl 0 rfl) ?_
      refine bq_get (q0 := 0) S hK hP fl_X10_49_X10_22 rfl rfl rfl dX10_drop_22 ?_
      refine lv_iload_n hx hb dX10_drop_25 rfl (lv_at hl 1 rfl) ?_
      refine lv_iconst (v := (-1 : Int32)) hx hb dX10_drop_26 (by decide) ?_
      obtain ⟨g8, h⟩ := bq_gd h
      obtain ⟨x7, hx7, h⟩ := bq_b h
      refine bq_iast (x1 := x7) (q0 := 14) (t0 := 0) S hK hD hP hS rfl rfl g8 (by rw [hx7]; rfl) dX10_drop_27 (fun H locs hP hS => ?_)
      refine lv_aload_n hx hb dX10_drop_28 rfl (lv_at hl 0 rfl) ?_
      refine bq_get (q0 := 0) S hK hP fl_X10_52_X10_23 rfl rfl rfl dX10_drop_29 ?_
      refine lv_iload_n hx hb dX10_drop_32 rfl (lv_at hl 1 rfl) ?_
      obtain ⟨g9, h⟩ := bq_gd h
      refine va_iald (D := D) hx hb hK hP 15 0 rfl rfl g9 dX10_drop_33 ?_
      obtain ⟨e1, e2⟩ := Prod.mk.inj (hret _ h)
      exact hR _ _ _ _ _ (congrArg some e1) rfl (by rw [e2]; exact hP) hS dX10_drop_34
    · replace h := (if_neg c6).symm.trans h
      refine lv_bipush (v := (-11 : Int32)) hx hb dX10_drop_18 (by decide) ?_
      obtain ⟨e1, e2⟩ := Prod.mk.inj (hret _ h)
      exact hR _ _ _ _ _ (congrArg some e1) rfl (by rw [e2]; exact hP) hS dX10_drop_20
  · replace h := (if_pos c4).symm.trans h
    refine lv_iconst (v := (-1 : Int32)) hx hb dX10_drop_7 (by decide) ?_
    obtain ⟨e1, e2⟩ := Prod.mk.inj (hret _ h)
    exact hR _ _ _ _ _ (congrArg some e1) rfl (by rw [e2]; exact hP) hS dX10_drop_8
def fX10_item (p1 : Int32) (p2 : Int32) (p3 : Int32) (p4 : Int64) (x0 : bq_S) : Option (Int32 × bq_S) :=
  (fX10_isSheet p1 x0).bind (fun o1 => un2 o1 (fun v3 x2 =>
  if v3 = 0 then
  some ((-1 : Int32), x2)
  else
  (fX10_isLane p2 x2).bind (fun o5 => un2 o5 (fun v7 x6 =>
  if v7 = 0 then
  some ((-1 : Int32), x6)
  else
  (fX10_finds p1 p2 p3 (1 : Int32) x6).bind (fun o9 => un2 o9 (fun v11 x10 =>
  if 0 ≤ v11 then
  if p2 = 0 then
  if ok_i (((16 : Int32) * p1) + p3) 64 then
  bd (bq_sL x10 16 (((16 : Int32) * p1) + p3).toNatClampNeg p4.toInt32.toInt8.toInt32.toInt64) (fun x19 =>
  some ((1 : Int32), x19))
  else none
  else
  if p2 = (1 : Int32) then
  if ok_i (((16 : Int32) * p1) + p3) 64 then
  bd (bq_sL x10 16 (((16 : Int32) * p1) + p3).toNatClampNeg p4.toInt32.toInt64) (fun x17 =>
  some ((1 : Int32), x17))
  else none
  else
  if ok_i (((16 : Int32) * p1) + p3) 64 then
  bd (bq_sL x10 16 (((16 : Int32) * p1) + p3).toNatClampNeg p4) (fun x15 =>
  some ((1 : Int32), x15))
  else none
  else
  some (v11, x10)))))))
theorem dX10_item_0 : decode cX10_item 0 = .ok (.iload_n 1, 1) := by decide +kernel
theorem dX10_item_1 : decode cX10_item 1 = .ok (.invokestatic 195, 3) := by decide +kernel
theorem dX10_item_4 : decode cX10_item 4 = .ok (.ifCond .eq 10, 3) := by decide +kernel
theorem dX10_item_7 : decode cX10_item 7 = .ok (.iload_n 2, 1) := by decide +kernel
theorem dX10_item_8 : decode cX10_item 8 = .ok (.invokestatic 198, 3) := by decide +kernel
theorem dX10_item_11 : decode cX10_item 11 = .ok (.ifCond .ne 5, 3) := by decide +kernel
theorem dX10_item_14 : decode cX10_item 14 = .ok (.iconst (-1), 1) := by decide +kernel
theorem dX10_item_15 : decode cX10_item 15 = .ok (.ireturn, 1) := by decide +kernel
theorem dX10_item_16 : decode cX10_item 16 = .ok (.aload_n 0, 1) := by decide +kernel
theorem dX10_item_17 : decode cX10_item 17 = .ok (.iload_n 1, 1) := by decide +kernel
theorem dX10_item_18 : decode cX10_item 18 = .ok (.iload_n 2, 1) := by decide +kernel
theorem dX10_item_19 : decode cX10_item 19 = .ok (.iload_n 3, 1) := by decide +kernel
theorem dX10_item_20 : decode cX10_item 20 = .ok (.iconst 1, 1) := by decide +kernel
theorem dX10_item_21 : decode cX10_item 21 = .ok (.invokevirtual 203, 3) := by decide +kernel
theorem dX10_item_24 : decode cX10_item 24 = .ok (.istore 6, 2) := by decide +kernel
theorem dX10_item_26 : decode cX10_item 26 = .ok (.iload 6, 2) := by decide +kernel
theorem dX10_item_28 : decode cX10_item 28 = .ok (.ifCond .ge 6, 3) := by decide +kernel
theorem dX10_item_31 : decode cX10_item 31 = .ok (.iload 6, 2) := by decide +kernel
theorem dX10_item_33 : decode cX10_item 33 = .ok (.ireturn, 1) := by decide +kernel
theorem dX10_item_34 : decode cX10_item 34 = .ok (.aload_n 0, 1) := by decide +kernel
theorem dX10_item_35 : decode cX10_item 35 = .ok (.getfield 55, 3) := by decide +kernel
theorem dX10_item_38 : decode cX10_item 38 = .ok (.bipush 16, 2) := by decide +kernel
theorem dX10_item_40 : decode cX10_item 40 = .ok (.iload_n 1, 1) := by decide +kernel
theorem dX10_item_41 : decode cX10_item 41 = .ok (.imul, 1) := by decide +kernel
theorem dX10_item_42 : decode cX10_item 42 = .ok (.iload_n 3, 1) := by decide +kernel
theorem dX10_item_43 : decode cX10_item 43 = .ok (.iadd, 1) := by decide +kernel
theorem dX10_item_44 : decode cX10_item 44 = .ok (.iload_n 2, 1) := by decide +kernel
theorem dX10_item_45 : decode cX10_item 45 = .ok (.ifCond .ne 11, 3) := by decide +kernel
theorem dX10_item_48 : decode cX10_item 48 = .ok (.lload 4, 2) := by decide +kernel
theorem dX10_item_50 : decode cX10_item 50 = .ok (.l2i, 1) := by decide +kernel
theorem dX10_item_51 : decode cX10_item 51 = .ok (.i2b, 1) := by decide +kernel
theorem dX10_item_52 : decode cX10_item 52 = .ok (.i2l, 1) := by decide +kernel
theorem dX10_item_53 : decode cX10_item 53 = .ok (.goto 17, 3) := by decide +kernel
theorem dX10_item_56 : decode cX10_item 56 = .ok (.iload_n 2, 1) := by decide +kernel
theorem dX10_item_57 : decode cX10_item 57 = .ok (.iconst 1, 1) := by decide +kernel
theorem dX10_item_58 : decode cX10_item 58 = .ok (.if_icmp .ne 10, 3) := by decide +kernel
theorem dX10_item_61 : decode cX10_item 61 = .ok (.lload 4, 2) := by decide +kernel
theorem dX10_item_63 : decode cX10_item 63 = .ok (.l2i, 1) := by decide +kernel
theorem dX10_item_64 : decode cX10_item 64 = .ok (.i2l, 1) := by decide +kernel
theorem dX10_item_65 : decode cX10_item 65 = .ok (.goto 5, 3) := by decide +kernel
theorem dX10_item_68 : decode cX10_item 68 = .ok (.lload 4, 2) := by decide +kernel
theorem dX10_item_70 : decode cX10_item 70 = .ok (.lastore, 1) := by decide +kernel
theorem dX10_item_71 : decode cX10_item 71 = .ok (.iconst 1, 1) := by decide +kernel
theorem dX10_item_72 : decode cX10_item 72 = .ok (.ireturn, 1) := by decide +kernel
set_option maxHeartbeats 4000000 in
set_option maxRecDepth 100000 in
theorem cX10_item_k_0 {l : Launch} {D : va_G} {a : Nat → Nat} {k : Nat → ClassId} {p1 : Int32} {p2 : Int32} {p3 : Int32} {p4 : Int64} {x0 xz : bq_S} {rz : Int32} (h : fX10_item  p1 p2 p3 p4 x0 = some (rz, xz)) : bq_M l D bq_cl (bq_ty k) (bq_wM a k) yX10_item cX10_item 7 (some .int) { frames := 2, cells := 0, slots := 0, locals := 45 } [.ref (a 0), .int p1, .int p2, .int p3, .long p4] x0 (some rz) xz := by
  refine bq_ofW RX10 [(0, .ref (a 0)), (1, .int p1), (2, .int p2), (3, .int p3), (4, .long p4)] (by decide +kernel) rfl (Nat.le_of_ble_eq_true rfl) rfl (bq_adM a k) ?_
  intro p e s m below meth c A Q ls S hK hD hA hR hS hP hl
  have hx := S.1; have hb := S.2.1; have hml := S.2.2.1; have hown := S.2.2.2.1; have hts := S.2.2.2.2
  have hret : ∀ z, some z = some (rz, xz) → (rz, xz) = z := fun z h => (Option.some.inj h).symm
  unfold fX10_item at h
  refine lv_iload_n hx hb dX10_item_0 rfl (lv_at hl 1 rfl) ?_
  obtain ⟨o1, ho1, h⟩ := Option.bind_eq_some_iff.mp h
  obtain ⟨v3, x2⟩ := o1
  replace h := un2_e h
  refine bq_callSi (As := [.int _]) S hK hD hA hP hS (cX10_isSheet_k ho1) hd_yX10_isSheet ml_X10_195 st_yX10_isSheet ⟨rfl, rfl⟩ ⟨by decide, by decide⟩ rfl hl.1 rfl (Nat.le_of_ble_eq_true rfl) ⟨Nat.zero_le _, Nat.zero_le _⟩ dX10_item_1 (fun H locs hP hS => ?_)
  refine lv_if_eq (tgt := 14) hx hb dX10_item_4 (by decide) (fun c4 => ?_) (fun c4 => ?_)
  · replace h := (if_pos c4).symm.trans h
    refine lv_iconst (v := (-1 : Int32)) hx hb dX10_item_14 (by decide) ?_
    obtain ⟨e1, e2⟩ := Prod.mk.inj (hret _ h)
    exact hR _ _ _ _ _ (congrArg some e1) rfl (by rw [e2]; exact hP) hS dX10_item_15
  · replace h := (if_neg c4).symm.trans h
    refine lv_iload_n hx hb dX10_item_7 rfl (lv_at hl 2 rfl) ?_
    obtain ⟨o5, ho5, h⟩ := Option.bind_eq_some_iff.mp h
    obtain ⟨v7, x6⟩ := o5
    replace h := un2_e h
    refine bq_callSi (As := [.int _]) S hK hD hA hP hS (cX10_isLane_k ho5) hd_yX10_isLane ml_X10_198 st_yX10_isLane ⟨rfl, rfl⟩ ⟨by decide, by decide⟩ rfl hl.1 rfl (Nat.le_of_ble_eq_true rfl) ⟨Nat.zero_le _, Nat.zero_le _⟩ dX10_item_8 (fun H locs hP hS => ?_)
    refine lv_if_ne (tgt := 16) hx hb dX10_item_11 (by decide) (fun c8 => ?_) (fun c8 => ?_)
    · replace h := (if_neg c8).symm.trans h
      refine lv_aload_n hx hb dX10_item_16 rfl (lv_at hl 0 rfl) ?_
      refine lv_iload_n hx hb dX10_item_17 rfl (lv_at hl 1 rfl) ?_
      refine lv_iload_n hx hb dX10_item_18 rfl (lv_at hl 2 rfl) ?_
      refine lv_iload_n hx hb dX10_item_19 rfl (lv_at hl 3 rfl) ?_
      refine lv_iconst (v := (1 : Int32)) hx hb dX10_item_20 (by decide) ?_
      obtain ⟨o9, ho9, h⟩ := Option.bind_eq_some_iff.mp h
      obtain ⟨v11, x10⟩ := o9
      replace h := un2_e h
      refine bq_callVi (q0 := 0) (As := [.int _, .int _, .int _, .int _]) S hK hD hA hP hS (cX10_finds_k_0 ho9) hd_yX10_finds ml_X10_203 in_yX10_finds (hts _ sl_X10_X10_yX10_finds) ⟨rfl, rfl⟩ ⟨by decide, by decide⟩ rfl rfl rfl hl.1 rfl (Nat.le_of_ble_eq_true rfl) ⟨Nat.zero_le _, Nat.zero_le _⟩ dX10_item_21 (fun H locs hP hS => ?_)
      refine lv_istore (lv' := [(6, .int v11), (0, .ref (a 0)), (1, .int p1), (2, .int p2), (3, .int p3), (4, .long p4)]) hx hb dX10_item_24 hl (by decide) rfl (fun ls hl => ?_)
      refine lv_iload hx hb dX10_item_26 (lv_at hl 0 rfl) ?_
      refine lv_if_ge (tgt := 34) hx hb dX10_item_28 (by decide) (fun c12 => ?_) (fun c12 => ?_)
      · replace h := (if_pos c12).symm.trans h
        refine lv_aload_n hx hb dX10_item_34 rfl (lv_at hl 1 rfl) ?_
        refine bq_get (q0 := 0) S hK hP fl_X10_55_X10_24 rfl rfl rfl dX10_item_35 ?_
        refine lv_bipush (v := (16 : Int32)) hx hb dX10_item_38 (by decide) ?_
        refine lv_iload_n hx hb dX10_item_40 rfl (lv_at hl 2 rfl) ?_
        refine lv_imul hx hb dX10_item_41 ?_
        refine lv_iload_n hx hb dX10_item_42 rfl (lv_at hl 4 rfl) ?_
        refine lv_iadd hx hb dX10_item_43 ?_
        refine lv_iload_n hx hb dX10_item_44 rfl (lv_at hl 3 rfl) ?_
        refine lv_if_ne (tgt := 56) hx hb dX10_item_45 (by decide) (fun c13 => ?_) (fun c13 => ?_)
        · replace h := (if_neg c13).symm.trans h
          refine lv_iload_n hx hb dX10_item_56 rfl (lv_at hl 3 rfl) ?_
          refine lv_iconst (v := (1 : Int32)) hx hb dX10_item_57 (by decide) ?_
          refine lv_icmp_ne (tgt := 68) hx hb dX10_item_58 (by decide) (fun c14 => ?_) (fun c14 => ?_)
          · replace h := (if_neg c14).symm.trans h
            refine lv_lload hx hb dX10_item_68 (lv_at hl 5 rfl) ?_
            obtain ⟨g16, h⟩ := bq_gd h
            obtain ⟨x15, hx15, h⟩ := bq_b h
            refine bq_last (x1 := x15) (q0 := 16) (t0 := 1) S hK hD hP hS rfl rfl g16 (by rw [hx15]; rfl) dX10_item_70 (fun H locs hP hS => ?_)
            refine lv_iconst (v := (1 : Int32)) hx hb dX10_item_71 (by decide) ?_
            obtain ⟨e1, e2⟩ := Prod.mk.inj (hret _ h)
            exact hR _ _ _ _ _ (congrArg some e1) rfl (by rw [e2]; exact hP) hS dX10_item_72
          · replace h := (if_pos c14).symm.trans h
            refine lv_lload hx hb dX10_item_61 (lv_at hl 5 rfl) ?_
            refine lv_l2i hx hb dX10_item_63 rfl ?_
            refine lv_i2l hx hb dX10_item_64 rfl ?_
            refine lv_goto (tgt := 70) hx hb dX10_item_65 (by decide) ?_
            obtain ⟨g18, h⟩ := bq_gd h
            obtain ⟨x17, hx17, h⟩ := bq_b h
            refine bq_last (x1 := x17) (q0 := 16) (t0 := 1) S hK hD hP hS rfl rfl g18 (by rw [hx17]; rfl) dX10_item_70 (fun H locs hP hS => ?_)
            refine lv_iconst (v := (1 : Int32)) hx hb dX10_item_71 (by decide) ?_
            obtain ⟨e1, e2⟩ := Prod.mk.inj (hret _ h)
            exact hR _ _ _ _ _ (congrArg some e1) rfl (by rw [e2]; exact hP) hS dX10_item_72
        · replace h := (if_pos c13).symm.trans h
          refine lv_lload hx hb dX10_item_48 (lv_at hl 5 rfl) ?_
          refine lv_l2i hx hb dX10_item_50 rfl ?_
          refine lv_i2b hx hb dX10_item_51 rfl ?_
          refine lv_i2l hx hb dX10_item_52 rfl ?_
          refine lv_goto (tgt := 70) hx hb dX10_item_53 (by decide) ?_
          obtain ⟨g20, h⟩ := bq_gd h
          obtain ⟨x19, hx19, h⟩ := bq_b h
          refine bq_last (x1 := x19) (q0 := 16) (t0 := 1) S hK hD hP hS rfl rfl g20 (by rw [hx19]; rfl) dX10_item_70 (fun H locs hP hS => ?_)
          refine lv_iconst (v := (1 : Int32)) hx hb dX10_item_71 (by decide) ?_
          obtain ⟨e1, e2⟩ := Prod.mk.inj (hret _ h)
          exact hR _ _ _ _ _ (congrArg some e1) rfl (by rw [e2]; exact hP) hS dX10_item_72
      · replace h := (if_neg c12).symm.trans h
        refine lv_iload hx hb dX10_item_31 (lv_at hl 0 rfl) ?_
        obtain ⟨e1, e2⟩ := Prod.mk.inj (hret _ h)
        exact hR _ _ _ _ _ (congrArg some e1) rfl (by rw [e2]; exact hP) hS dX10_item_33
    · replace h := (if_pos c8).symm.trans h
      refine lv_iconst (v := (-1 : Int32)) hx hb dX10_item_14 (by decide) ?_
      obtain ⟨e1, e2⟩ := Prod.mk.inj (hret _ h)
      exact hR _ _ _ _ _ (congrArg some e1) rfl (by rw [e2]; exact hP) hS dX10_item_15
def fX10_copy_b101 (n : Nat) (v27 : Int32) (v28 : Int32) (v29 : Int32) (v30 : Int32) (v31 : Int32) (v : Int32 × bq_S) : Option ((Int32 × bq_S) ⊕ (Int32 × bq_S)) :=
  un2 v (fun v32 x33 =>
  if v31 ≤ v32 then
  some (.inr (v32, x33))
  else
  if ok_i ((((16 : Int32) * v27) + v28) + v32) 64 then
  if ok_i v32 16 then
  bd (bq_sL x33 17 v32.toNatClampNeg (x33.2 16 ((((16 : Int32) * v27) + v28) + v32).toNatClampNeg)) (fun x36 =>
  bd (v32 + (1 : Int32)) (fun v38 =>
  some (.inl (v38, x36))))
  else none
  else none)
def fX10_copy_b138 (n : Nat) (v42 : Int32) (v43 : Int32) (v44 : Int32) (v : Int32 × bq_S) : Option ((Int32 × bq_S) ⊕ (Int32 × bq_S)) :=
  un2 v (fun v45 x46 =>
  if v44 ≤ v45 then
  some (.inr (v45, x46))
  else
  if ok_i v45 16 then
  if ok_i ((((16 : Int32) * v42) + v43) + v45) 64 then
  bd (bq_sL x46 16 ((((16 : Int32) * v42) + v43) + v45).toNatClampNeg (x46.2 17 v45.toNatClampNeg)) (fun x49 =>
  bd (v45 + (1 : Int32)) (fun v51 =>
  some (.inl (v51, x49))))
  else none
  else none)
def fX10_copy (n : Nat) (p1 : Int32) (p2 : Int32) (p3 : Int32) (p4 : Int32) (p5 : Int32) (x0 : bq_S) : Option (Int32 × bq_S) :=
  (fX10_isSheet p1 x0).bind (fun o1 => un2 o1 (fun v3 x2 =>
  if v3 = 0 then
  some ((-1 : Int32), x2)
  else
  (fX10_isSheet p3 x2).bind (fun o5 => un2 o5 (fun v7 x6 =>
  if v7 = 0 then
  some ((-1 : Int32), x6)
  else
  if ok_i p1 4 then
  if (x6.1 14 p1.toNatClampNeg) < 0 then
  some ((-11 : Int32), x6)
  else
  if ok_i p3 4 then
  if 0 ≤ (x6.1 14 p3.toNatClampNeg) then
  if ok_i p1 4 then
  if ok_i p3 4 then
  if (x6.1 14 p1.toNatClampNeg) = (x6.1 14 p3.toNatClampNeg) then
  if p5 < 0 then
  some ((-13 : Int32), x6)
  else
  if ok_i p1 4 then
  (fX10_finds p1 (x6.1 14 p1.toNatClampNeg) p2 p5 x6).bind (fun o18 => un2 o18 (fun v20 x19 =>
  if v20 < 0 then
  some ((-13 : Int32), x19)
  else
  if ok_i p3 4 then
  (fX10_finds p3 (x19.1 14 p3.toNatClampNeg) p4 p5 x19).bind (fun o23 => un2 o23 (fun v25 x24 =>
  if 0 ≤ v25 then
  (wh n (fX10_copy_b101 n p1 p2 p3 p4 p5) ((0 : Int32), x24)).bind (fun e39 => un2 e39 (fun v40 x41 =>
  (wh n (fX10_copy_b138 n p3 p4 p5) ((0 : Int32), x41)).bind (fun e52 => un2 e52 (fun v53 x54 =>
  some (p5, x54)))))
  else
  some ((-13 : Int32), x24)))
  else none))
  else none
  else
  some ((-12 : Int32), x6)
  else none
  else none
  else
  some ((-11 : Int32), x6)
  else none
  else none))))
theorem dX10_copy_0 : decode cX10_copy 0 = .ok (.iload_n 1, 1) := by decide +kernel
theorem dX10_copy_1 : decode cX10_copy 1 = .ok (.invokestatic 195, 3) := by decide +kernel
theorem dX10_copy_4 : decode cX10_copy 4 = .ok (.ifCond .eq 10, 3) := by decide +kernel
theorem dX10_copy_7 : decode cX10_copy 7 = .ok (.iload_n 3, 1) := by decide +kernel
theorem dX10_copy_8 : decode cX10_copy 8 = .ok (.invokestatic 195, 3) := by decide +kernel
theorem dX10_copy_11 : decode cX10_copy 11 = .ok (.ifCond .ne 5, 3) := by decide +kernel
theorem dX10_copy_14 : decode cX10_copy 14 = .ok (.iconst (-1), 1) := by decide +kernel
theorem dX10_copy_15 : decode cX10_copy 15 = .ok (.ireturn, 1) := by decide +kernel
theorem dX10_copy_16 : decode cX10_copy 16 = .ok (.aload_n 0, 1) := by decide +kernel
theorem dX10_copy_17 : decode cX10_copy 17 = .ok (.getfield 49, 3) := by decide +kernel
theorem dX10_copy_20 : decode cX10_copy 20 = .ok (.iload_n 1, 1) := by decide +kernel
theorem dX10_copy_21 : decode cX10_copy 21 = .ok (.iaload, 1) := by decide +kernel
theorem dX10_copy_22 : decode cX10_copy 22 = .ok (.ifCond .lt 12, 3) := by decide +kernel
theorem dX10_copy_25 : decode cX10_copy 25 = .ok (.aload_n 0, 1) := by decide +kernel
theorem dX10_copy_26 : decode cX10_copy 26 = .ok (.getfield 49, 3) := by decide +kernel
theorem dX10_copy_29 : decode cX10_copy 29 = .ok (.iload_n 3, 1) := by decide +kernel
theorem dX10_copy_30 : decode cX10_copy 30 = .ok (.iaload, 1) := by decide +kernel
theorem dX10_copy_31 : decode cX10_copy 31 = .ok (.ifCond .ge 6, 3) := by decide +kernel
theorem dX10_copy_34 : decode cX10_copy 34 = .ok (.bipush (-11), 2) := by decide +kernel
theorem dX10_copy_36 : decode cX10_copy 36 = .ok (.ireturn, 1) := by decide +kernel
theorem dX10_copy_37 : decode cX10_copy 37 = .ok (.aload_n 0, 1) := by decide +kernel
theorem dX10_copy_38 : decode cX10_copy 38 = .ok (.getfield 49, 3) := by decide +kernel
theorem dX10_copy_41 : decode cX10_copy 41 = .ok (.iload_n 1, 1) := by decide +kernel
theorem dX10_copy_42 : decode cX10_copy 42 = .ok (.iaload, 1) := by decide +kernel
theorem dX10_copy_43 : decode cX10_copy 43 = .ok (.aload_n 0, 1) := by decide +kernel
theorem dX10_copy_44 : decode cX10_copy 44 = .ok (.getfield 49, 3) := by decide +kernel
theorem dX10_copy_47 : decode cX10_copy 47 = .ok (.iload_n 3, 1) := by decide +kernel
theorem dX10_copy_48 : decode cX10_copy 48 = .ok (.iaload, 1) := by decide +kernel
theorem dX10_copy_49 : decode cX10_copy 49 = .ok (.if_icmp .eq 6, 3) := by decide +kernel
theorem dX10_copy_52 : decode cX10_copy 52 = .ok (.bipush (-12), 2) := by decide +kernel
theorem dX10_copy_54 : decode cX10_copy 54 = .ok (.ireturn, 1) := by decide +kernel
theorem dX10_copy_55 : decode cX10_copy 55 = .ok (.iload 5, 2) := by decide +kernel
theorem dX10_copy_57 : decode cX10_copy 57 = .ok (.ifCond .lt 38, 3) := by decide +kernel
theorem dX10_copy_60 : decode cX10_copy 60 = .ok (.aload_n 0, 1) := by decide +kernel
theorem dX10_copy_61 : decode cX10_copy 61 = .ok (.iload_n 1, 1) := by decide +kernel
theorem dX10_copy_62 : decode cX10_copy 62 = .ok (.aload_n 0, 1) := by decide +kernel
theorem dX10_copy_63 : decode cX10_copy 63 = .ok (.getfield 49, 3) := by decide +kernel
theorem dX10_copy_66 : decode cX10_copy 66 = .ok (.iload_n 1, 1) := by decide +kernel
theorem dX10_copy_67 : decode cX10_copy 67 = .ok (.iaload, 1) := by decide +kernel
theorem dX10_copy_68 : decode cX10_copy 68 = .ok (.iload_n 2, 1) := by decide +kernel
theorem dX10_copy_69 : decode cX10_copy 69 = .ok (.iload 5, 2) := by decide +kernel
theorem dX10_copy_71 : decode cX10_copy 71 = .ok (.invokevirtual 203, 3) := by decide +kernel
theorem dX10_copy_74 : decode cX10_copy 74 = .ok (.ifCond .lt 21, 3) := by decide +kernel
theorem dX10_copy_77 : decode cX10_copy 77 = .ok (.aload_n 0, 1) := by decide +kernel
theorem dX10_copy_78 : decode cX10_copy 78 = .ok (.iload_n 3, 1) := by decide +kernel
theorem dX10_copy_79 : decode cX10_copy 79 = .ok (.aload_n 0, 1) := by decide +kernel
theorem dX10_copy_80 : decode cX10_copy 80 = .ok (.getfield 49, 3) := by decide +kernel
theorem dX10_copy_83 : decode cX10_copy 83 = .ok (.iload_n 3, 1) := by decide +kernel
theorem dX10_copy_84 : decode cX10_copy 84 = .ok (.iaload, 1) := by decide +kernel
theorem dX10_copy_85 : decode cX10_copy 85 = .ok (.iload 4, 2) := by decide +kernel
theorem dX10_copy_87 : decode cX10_copy 87 = .ok (.iload 5, 2) := by decide +kernel
theorem dX10_copy_89 : decode cX10_copy 89 = .ok (.invokevirtual 203, 3) := by decide +kernel
theorem dX10_copy_92 : decode cX10_copy 92 = .ok (.ifCond .ge 6, 3) := by decide +kernel
theorem dX10_copy_95 : decode cX10_copy 95 = .ok (.bipush (-13), 2) := by decide +kernel
theorem dX10_copy_97 : decode cX10_copy 97 = .ok (.ireturn, 1) := by decide +kernel
theorem dX10_copy_98 : decode cX10_copy 98 = .ok (.iconst 0, 1) := by decide +kernel
theorem dX10_copy_99 : decode cX10_copy 99 = .ok (.istore 6, 2) := by decide +kernel
theorem dX10_copy_101 : decode cX10_copy 101 = .ok (.iload 6, 2) := by decide +kernel
theorem dX10_copy_103 : decode cX10_copy 103 = .ok (.iload 5, 2) := by decide +kernel
theorem dX10_copy_105 : decode cX10_copy 105 = .ok (.if_icmp .ge 30, 3) := by decide +kernel
theorem dX10_copy_108 : decode cX10_copy 108 = .ok (.aload_n 0, 1) := by decide +kernel
theorem dX10_copy_109 : decode cX10_copy 109 = .ok (.getfield 59, 3) := by decide +kernel
theorem dX10_copy_112 : decode cX10_copy 112 = .ok (.iload 6, 2) := by decide +kernel
theorem dX10_copy_114 : decode cX10_copy 114 = .ok (.aload_n 0, 1) := by decide +kernel
theorem dX10_copy_115 : decode cX10_copy 115 = .ok (.getfield 55, 3) := by decide +kernel
theorem dX10_copy_118 : decode cX10_copy 118 = .ok (.bipush 16, 2) := by decide +kernel
theorem dX10_copy_120 : decode cX10_copy 120 = .ok (.iload_n 1, 1) := by decide +kernel
theorem dX10_copy_121 : decode cX10_copy 121 = .ok (.imul, 1) := by decide +kernel
theorem dX10_copy_122 : decode cX10_copy 122 = .ok (.iload_n 2, 1) := by decide +kernel
theorem dX10_copy_123 : decode cX10_copy 123 = .ok (.iadd, 1) := by decide +kernel
theorem dX10_copy_124 : decode cX10_copy 124 = .ok (.iload 6, 2) := by decide +kernel
theorem dX10_copy_126 : decode cX10_copy 126 = .ok (.iadd, 1) := by decide +kernel
theorem dX10_copy_127 : decode cX10_copy 127 = .ok (.laload, 1) := by decide +kernel
theorem dX10_copy_128 : decode cX10_copy 128 = .ok (.lastore, 1) := by decide +kernel
theorem dX10_copy_129 : decode cX10_copy 129 = .ok (.iinc 6 1, 3) := by decide +kernel
theorem dX10_copy_132 : decode cX10_copy 132 = .ok (.goto (-31), 3) := by decide +kernel
theorem dX10_copy_135 : decode cX10_copy 135 = .ok (.iconst 0, 1) := by decide +kernel
theorem dX10_copy_136 : decode cX10_copy 136 = .ok (.istore 6, 2) := by decide +kernel
theorem dX10_copy_138 : decode cX10_copy 138 = .ok (.iload 6, 2) := by decide +kernel
theorem dX10_copy_140 : decode cX10_copy 140 = .ok (.iload 5, 2) := by decide +kernel
theorem dX10_copy_142 : decode cX10_copy 142 = .ok (.if_icmp .ge 31, 3) := by decide +kernel
theorem dX10_copy_145 : decode cX10_copy 145 = .ok (.aload_n 0, 1) := by decide +kernel
theorem dX10_copy_146 : decode cX10_copy 146 = .ok (.getfield 55, 3) := by decide +kernel
theorem dX10_copy_149 : decode cX10_copy 149 = .ok (.bipush 16, 2) := by decide +kernel
theorem dX10_copy_151 : decode cX10_copy 151 = .ok (.iload_n 3, 1) := by decide +kernel
theorem dX10_copy_152 : decode cX10_copy 152 = .ok (.imul, 1) := by decide +kernel
theorem dX10_copy_153 : decode cX10_copy 153 = .ok (.iload 4, 2) := by decide +kernel
theorem dX10_copy_155 : decode cX10_copy 155 = .ok (.iadd, 1) := by decide +kernel
theorem dX10_copy_156 : decode cX10_copy 156 = .ok (.iload 6, 2) := by decide +kernel
theorem dX10_copy_158 : decode cX10_copy 158 = .ok (.iadd, 1) := by decide +kernel
theorem dX10_copy_159 : decode cX10_copy 159 = .ok (.aload_n 0, 1) := by decide +kernel
theorem dX10_copy_160 : decode cX10_copy 160 = .ok (.getfield 59, 3) := by decide +kernel
theorem dX10_copy_163 : decode cX10_copy 163 = .ok (.iload 6, 2) := by decide +kernel
theorem dX10_copy_165 : decode cX10_copy 165 = .ok (.laload, 1) := by decide +kernel
theorem dX10_copy_166 : decode cX10_copy 166 = .ok (.lastore, 1) := by decide +kernel
theorem dX10_copy_167 : decode cX10_copy 167 = .ok (.iinc 6 1, 3) := by decide +kernel
theorem dX10_copy_170 : decode cX10_copy 170 = .ok (.goto (-32), 3) := by decide +kernel
theorem dX10_copy_173 : decode cX10_copy 173 = .ok (.iload 5, 2) := by decide +kernel
theorem dX10_copy_175 : decode cX10_copy 175 = .ok (.ireturn, 1) := by decide +kernel
set_option maxHeartbeats 4000000 in
set_option maxRecDepth 100000 in
theorem cX10_copy_k_0 {l : Launch} {D : va_G} {a : Nat → Nat} {k : Nat → ClassId} {n : Nat} {p1 : Int32} {p2 : Int32} {p3 : Int32} {p4 : Int32} {p5 : Int32} {x0 xz : bq_S} {rz : Int32} (h : fX10_copy n p1 p2 p3 p4 p5 x0 = some (rz, xz)) : bq_M l D bq_cl (bq_ty k) (bq_wM a k) yX10_copy cX10_copy 7 (some .int) { frames := 2, cells := 0, slots := 0, locals := 45 } [.ref (a 0), .int p1, .int p2, .int p3, .int p4, .int p5] x0 (some rz) xz := by
  refine bq_ofW RX10 [(0, .ref (a 0)), (1, .int p1), (2, .int p2), (3, .int p3), (4, .int p4), (5, .int p5)] (by decide +kernel) rfl (Nat.le_of_ble_eq_true rfl) rfl (bq_adM a k) ?_
  intro p e s m below meth c A Q ls S hK hD hA hR hS hP hl
  have hx := S.1; have hb := S.2.1; have hml := S.2.2.1; have hown := S.2.2.2.1; have hts := S.2.2.2.2
  have hret : ∀ z, some z = some (rz, xz) → (rz, xz) = z := fun z h => (Option.some.inj h).symm
  unfold fX10_copy at h
  refine lv_iload_n hx hb dX10_copy_0 rfl (lv_at hl 1 rfl) ?_
  obtain ⟨o1, ho1, h⟩ := Option.bind_eq_some_iff.mp h
  obtain ⟨v3, x2⟩ := o1
  replace h := un2_e h
  refine bq_callSi (As := [.int _]) S hK hD hA hP hS (cX10_isSheet_k ho1) hd_yX10_isSheet ml_X10_195 st_yX10_isSheet ⟨rfl, rfl⟩ ⟨by decide, by decide⟩ rfl hl.1 rfl (Nat.le_of_ble_eq_true rfl) ⟨Nat.zero_le _, Nat.zero_le _⟩ dX10_copy_1 (fun H locs hP hS => ?_)
  refine lv_if_eq (tgt := 14) hx hb dX10_copy_4 (by decide) (fun c4 => ?_) (fun c4 => ?_)
  · replace h := (if_pos c4).symm.trans h
    refine lv_iconst (v := (-1 : Int32)) hx hb dX10_copy_14 (by decide) ?_
    obtain ⟨e1, e2⟩ := Prod.mk.inj (hret _ h)
    exact hR _ _ _ _ _ (congrArg some e1) rfl (by rw [e2]; exact hP) hS dX10_copy_15
  · replace h := (if_neg c4).symm.trans h
    refine lv_iload_n hx hb dX10_copy_7 rfl (lv_at hl 3 rfl) ?_
    obtain ⟨o5, ho5, h⟩ := Option.bind_eq_some_iff.mp h
    obtain ⟨v7, x6⟩ := o5
    replace h := un2_e h
    refine bq_callSi (As := [.int _]) S hK hD hA hP hS (cX10_isSheet_k ho5) hd_yX10_isSheet ml_X10_195 st_yX10_isSheet ⟨rfl, rfl⟩ ⟨by decide, by decide⟩ rfl hl.1 rfl (Nat.le_of_ble_eq_true rfl) ⟨Nat.zero_le _, Nat.zero_le _⟩ dX10_copy_8 (fun H locs hP hS => ?_)
    refine lv_if_ne (tgt := 16) hx hb dX10_copy_11 (by decide) (fun c8 => ?_) (fun c8 => ?_)
    · replace h := (if_neg c8).symm.trans h
      refine lv_aload_n hx hb dX10_copy_16 rfl (lv_at hl 0 rfl) ?_
      refine bq_get (q0 := 0) S hK hP fl_X10_49_X10_22 rfl rfl rfl dX10_copy_17 ?_
      refine lv_iload_n hx hb dX10_copy_20 rfl (lv_at hl 1 rfl) ?_
      obtain ⟨g9, h⟩ := bq_gd h
      refine va_iald (D := D) hx hb hK hP 14 0 rfl rfl g9 dX10_copy_21 ?_
      refine lv_if_lt (tgt := 34) hx hb dX10_copy_22 (by decide) (fun c10 => ?_) (fun c10 => ?_)
      · replace h := (if_pos c10).symm.trans h
        refine lv_bipush (v := (-11 : Int32)) hx hb dX10_copy_34 (by decide) ?_
        obtain ⟨e1, e2⟩ := Prod.mk.inj (hret _ h)
        exact hR _ _ _ _ _ (congrArg some e1) rfl (by rw [e2]; exact hP) hS dX10_copy_36
      · replace h := (if_neg c10).symm.trans h
        refine lv_aload_n hx hb dX10_copy_25 rfl (lv_at hl 0 rfl) ?_
        refine bq_get (q0 := 0) S hK hP fl_X10_49_X10_22 rfl rfl rfl dX10_copy_26 ?_
        refine lv_iload_n hx hb dX10_copy_29 rfl (lv_at hl 3 rfl) ?_
        obtain ⟨g11, h⟩ := bq_gd h
        refine va_iald (D := D) hx hb hK hP 14 0 rfl rfl g11 dX10_copy_30 ?_
        refine lv_if_ge (tgt := 37) hx hb dX10_copy_31 (by decide) (fun c12 => ?_) (fun c12 => ?_)
        · replace h := (if_pos c12).symm.trans h
          refine lv_aload_n hx hb dX10_copy_37 rfl (lv_at hl 0 rfl) ?_
          refine bq_get (q0 := 0) S hK hP fl_X10_49_X10_22 rfl rfl rfl dX10_copy_38 ?_
          refine lv_iload_n hx hb dX10_copy_41 rfl (lv_at hl 1 rfl) ?_
          obtain ⟨g13, h⟩ := bq_gd h
          refine va_iald (D := D) hx hb hK hP 14 0 rfl rfl g13 dX10_copy_42 ?_
          refine lv_aload_n hx hb dX10_copy_43 rfl (lv_at hl 0 rfl) ?_
          refine bq_get (q0 := 0) S hK hP fl_X10_49_X10_22 rfl rfl rfl dX10_copy_44 ?_
          refine lv_iload_n hx hb dX10_copy_47 rfl (lv_at hl 3 rfl) ?_
          obtain ⟨g14, h⟩ := bq_gd h
          refine va_iald (D := D) hx hb hK hP 14 0 rfl rfl g14 dX10_copy_48 ?_
          refine lv_icmp_eq (tgt := 55) hx hb dX10_copy_49 (by decide) (fun c15 => ?_) (fun c15 => ?_)
          · replace h := (if_pos c15).symm.trans h
            refine lv_iload hx hb dX10_copy_55 (lv_at hl 5 rfl) ?_
            refine lv_if_lt (tgt := 95) hx hb dX10_copy_57 (by decide) (fun c16 => ?_) (fun c16 => ?_)
            · replace h := (if_pos c16).symm.trans h
              refine lv_bipush (v := (-13 : Int32)) hx hb dX10_copy_95 (by decide) ?_
              obtain ⟨e1, e2⟩ := Prod.mk.inj (hret _ h)
              exact hR _ _ _ _ _ (congrArg some e1) rfl (by rw [e2]; exact hP) hS dX10_copy_97
            · replace h := (if_neg c16).symm.trans h
              refine lv_aload_n hx hb dX10_copy_60 rfl (lv_at hl 0 rfl) ?_
              refine lv_iload_n hx hb dX10_copy_61 rfl (lv_at hl 1 rfl) ?_
              refine lv_aload_n hx hb dX10_copy_62 rfl (lv_at hl 0 rfl) ?_
              refine bq_get (q0 := 0) S hK hP fl_X10_49_X10_22 rfl rfl rfl dX10_copy_63 ?_
              refine lv_iload_n hx hb dX10_copy_66 rfl (lv_at hl 1 rfl) ?_
              obtain ⟨g17, h⟩ := bq_gd h
              refine va_iald (D := D) hx hb hK hP 14 0 rfl rfl g17 dX10_copy_67 ?_
              refine lv_iload_n hx hb dX10_copy_68 rfl (lv_at hl 2 rfl) ?_
              refine lv_iload hx hb dX10_copy_69 (lv_at hl 5 rfl) ?_
              obtain ⟨o18, ho18, h⟩ := Option.bind_eq_some_iff.mp h
              obtain ⟨v20, x19⟩ := o18
              replace h := un2_e h
              refine bq_callVi (q0 := 0) (As := [.int _, .int _, .int _, .int _]) S hK hD hA hP hS (cX10_finds_k_0 ho18) hd_yX10_finds ml_X10_203 in_yX10_finds (hts _ sl_X10_X10_yX10_finds) ⟨rfl, rfl⟩ ⟨by decide, by decide⟩ rfl rfl rfl hl.1 rfl (Nat.le_of_ble_eq_true rfl) ⟨Nat.zero_le _, Nat.zero_le _⟩ dX10_copy_71 (fun H locs hP hS => ?_)
              refine lv_if_lt (tgt := 95) hx hb dX10_copy_74 (by decide) (fun c21 => ?_) (fun c21 => ?_)
              · replace h := (if_pos c21).symm.trans h
                refine lv_bipush (v := (-13 : Int32)) hx hb dX10_copy_95 (by decide) ?_
                obtain ⟨e1, e2⟩ := Prod.mk.inj (hret _ h)
                exact hR _ _ _ _ _ (congrArg some e1) rfl (by rw [e2]; exact hP) hS dX10_copy_97
              · replace h := (if_neg c21).symm.trans h
                refine lv_aload_n hx hb dX10_copy_77 rfl (lv_at hl 0 rfl) ?_
                refine lv_iload_n hx hb dX10_copy_78 rfl (lv_at hl 3 rfl) ?_
                refine lv_aload_n hx hb dX10_copy_79 rfl (lv_at hl 0 rfl) ?_
                refine bq_get (q0 := 0) S hK hP fl_X10_49_X10_22 rfl rfl rfl dX10_copy_80 ?_
                refine lv_iload_n hx hb dX10_copy_83 rfl (lv_at hl 3 rfl) ?_
                obtain ⟨g22, h⟩ := bq_gd h
                refine va_iald (D := D) hx hb hK hP 14 0 rfl rfl g22 dX10_copy_84 ?_
                refine lv_iload hx hb dX10_copy_85 (lv_at hl 4 rfl) ?_
                refine lv_iload hx hb dX10_copy_87 (lv_at hl 5 rfl) ?_
                obtain ⟨o23, ho23, h⟩ := Option.bind_eq_some_iff.mp h
                obtain ⟨v25, x24⟩ := o23
                replace h := un2_e h
                refine bq_callVi (q0 := 0) (As := [.int _, .int _, .int _, .int _]) S hK hD hA hP hS (cX10_finds_k_0 ho23) hd_yX10_finds ml_X10_203 in_yX10_finds (hts _ sl_X10_X10_yX10_finds) ⟨rfl, rfl⟩ ⟨by decide, by decide⟩ rfl rfl rfl hl.1 rfl (Nat.le_of_ble_eq_true rfl) ⟨Nat.zero_le _, Nat.zero_le _⟩ dX10_copy_89 (fun H locs hP hS => ?_)
                refine lv_if_ge (tgt := 98) hx hb dX10_copy_92 (by decide) (fun c26 => ?_) (fun c26 => ?_)
                · replace h := (if_pos c26).symm.trans h
                  refine lv_iconst (v := (0 : Int32)) hx hb dX10_copy_98 (by decide) ?_
                  refine lv_istore (lv' := [(6, .int (0 : Int32)), (0, .ref (a 0)), (1, .int p1), (2, .int p2), (3, .int p3), (4, .int p4), (5, .int p5)]) hx hb dX10_copy_99 hl (by decide) rfl (fun ls hl => ?_)
                  have hl101 : ∀ (v27 : Int32) (v28 : Int32) (v29 : Int32) (v30 : Int32) (v31 : Int32) (kf : Nat) (v32 : Int32) (x33 : bq_S) (eo : Int32 × bq_S) (H : Heap) (locs : List Loc) (ls : Array Slot), wh kf (fX10_copy_b101 n v27 v28 v29 v30 v31) (v32, x33) = some eo → va_P D bq_cl (bq_wM a k x33) H → va_S A s.heap H locs → lv_has ls 7 [(0, .ref (a 0)), (1, .int v27), (2, .int v28), (3, .int v29), (4, .int v30), (5, .int v31), (6, .int v32)] → (∀ (H : Heap) (locs : List Loc) (ls : Array Slot) (v40 : Int32) (x41 : bq_S), eo = (v40, x41) → va_P D bq_cl (bq_wM a k x41) H → va_S A s.heap H locs → lv_has ls 7 [(0, .ref (a 0)), (3, .int v29), (4, .int v30), (5, .int v31)] → W p l e { frames := 2, cells := 0, slots := 0, locals := 45 } s m [.ref (a 0), .int p1, .int p2, .int p3, .int p4, .int p5].toArray below meth c H locs 0 0 Q (F0 m 135 ls [])) → W p l e { frames := 2, cells := 0, slots := 0, locals := 45 } s m [.ref (a 0), .int p1, .int p2, .int p3, .int p4, .int p5].toArray below meth c H locs 0 0 Q (F0 m 101 ls []) := by
                    intro v27 v28 v29 v30 v31 kf
                    induction kf with
                    | zero => intro v32 x33 eo H locs ls h; cases h
                    | succ kf ih =>
                      intro v32 x33 eo H locs ls h hP hS hl kx
                      obtain ⟨out, h, hw⟩ := wh_s h
                      unfold fX10_copy_b101 at h
                      replace h := un2_e h
                      refine lv_iload hx hb dX10_copy_101 (lv_at hl 6 rfl) ?_
                      refine lv_iload hx hb dX10_copy_103 (lv_at hl 5 rfl) ?_
                      refine lv_icmp_ge (tgt := 135) hx hb dX10_copy_105 (by decide) (fun c34 => ?_) (fun c34 => ?_)
                      · replace h := (if_pos c34).symm.trans h
                        cases h
                        exact kx _ _ _ _ _ (Option.some.inj hw).symm hP hS (lv_sub hl [0, 3, 4, 5] rfl)
                      · replace h := (if_neg c34).symm.trans h
                        refine lv_aload_n hx hb dX10_copy_108 rfl (lv_at hl 0 rfl) ?_
                        refine bq_get (q0 := 0) S hK hP fl_X10_59_X10_25 rfl rfl rfl dX10_copy_109 ?_
                        refine lv_iload hx hb dX10_copy_112 (lv_at hl 6 rfl) ?_
                        refine lv_aload_n hx hb dX10_copy_114 rfl (lv_at hl 0 rfl) ?_
                        refine bq_get (q0 := 0) S hK hP fl_X10_55_X10_24 rfl rfl rfl dX10_copy_115 ?_
                        refine lv_bipush (v := (16 : Int32)) hx hb dX10_copy_118 (by decide) ?_
                        refine lv_iload_n hx hb dX10_copy_120 rfl (lv_at hl 1 rfl) ?_
                        refine lv_imul hx hb dX10_copy_121 ?_
                        refine lv_iload_n hx hb dX10_copy_122 rfl (lv_at hl 2 rfl) ?_
                        refine lv_iadd hx hb dX10_copy_123 ?_
                        refine lv_iload hx hb dX10_copy_124 (lv_at hl 6 rfl) ?_
                        refine lv_iadd hx hb dX10_copy_126 ?_
                        obtain ⟨g35, h⟩ := bq_gd h
                        refine va_lald (D := D) hx hb hK hP 16 1 rfl rfl g35 dX10_copy_127 ?_
                        obtain ⟨g37, h⟩ := bq_gd h
                        obtain ⟨x36, hx36, h⟩ := bq_b h
                        refine bq_last (x1 := x36) (q0 := 17) (t0 := 1) S hK hD hP hS rfl rfl g37 (by rw [hx36]; rfl) dX10_copy_128 (fun H locs hP hS => ?_)
                        obtain ⟨v38, hv38, h⟩ := bq_b h
                        refine lv_iinc (v := v38) (lv' := [(6, .int v38), (0, .ref (a 0)), (1, .int v27), (2, .int v28), (3, .int v29), (4, .int v30), (5, .int v31)]) hx hb dX10_copy_129 hl (k := 6) rfl (by rw [hv38]; rfl) (by decide) rfl (fun ls hl => ?_)
                        refine lv_goto (tgt := 101) hx hb dX10_copy_132 (by decide) ?_
                        cases h
                        exact ih _ _ _ _ _ _ hw hP hS (lv_sub hl [1, 2, 3, 4, 5, 6, 0] rfl) kx
                  obtain ⟨e39, he39, h⟩ := Option.bind_eq_some_iff.mp h
                  refine hl101 _ _ _ _ _ n _ _ e39 _ _ _ he39 hP hS (lv_sub hl [1, 2, 3, 4, 5, 6, 0] rfl) (fun H locs ls v40 x41 hz hP hS hl => ?_)
                  subst hz
                  replace h := un2_e h
                  refine lv_iconst (v := (0 : Int32)) hx hb dX10_copy_135 (by decide) ?_
                  refine lv_istore (lv' := [(6, .int (0 : Int32)), (0, .ref (a 0)), (3, .int p3), (4, .int p4), (5, .int p5)]) hx hb dX10_copy_136 hl (by decide) rfl (fun ls hl => ?_)
                  have hl138 : ∀ (v42 : Int32) (v43 : Int32) (v44 : Int32) (kf : Nat) (v45 : Int32) (x46 : bq_S) (eo : Int32 × bq_S) (H : Heap) (locs : List Loc) (ls : Array Slot), wh kf (fX10_copy_b138 n v42 v43 v44) (v45, x46) = some eo → va_P D bq_cl (bq_wM a k x46) H → va_S A s.heap H locs → lv_has ls 7 [(0, .ref (a 0)), (3, .int v42), (4, .int v43), (5, .int v44), (6, .int v45)] → (∀ (H : Heap) (locs : List Loc) (ls : Array Slot) (v53 : Int32) (x54 : bq_S), eo = (v53, x54) → va_P D bq_cl (bq_wM a k x54) H → va_S A s.heap H locs → lv_has ls 7 [(5, .int v44)] → W p l e { frames := 2, cells := 0, slots := 0, locals := 45 } s m [.ref (a 0), .int p1, .int p2, .int p3, .int p4, .int p5].toArray below meth c H locs 0 0 Q (F0 m 173 ls [])) → W p l e { frames := 2, cells := 0, slots := 0, locals := 45 } s m [.ref (a 0), .int p1, .int p2, .int p3, .int p4, .int p5].toArray below meth c H locs 0 0 Q (F0 m 138 ls []) := by
                    intro v42 v43 v44 kf
                    induction kf with
                    | zero => intro v45 x46 eo H locs ls h; cases h
                    | succ kf ih =>
                      intro v45 x46 eo H locs ls h hP hS hl kx
                      obtain ⟨out, h, hw⟩ := wh_s h
                      unfold fX10_copy_b138 at h
                      replace h := un2_e h
                      refine lv_iload hx hb dX10_copy_138 (lv_at hl 4 rfl) ?_
                      refine lv_iload hx hb dX10_copy_140 (lv_at hl 3 rfl) ?_
                      refine lv_icmp_ge (tgt := 173) hx hb dX10_copy_142 (by decide) (fun c47 => ?_) (fun c47 => ?_)
                      · replace h := (if_pos c47).symm.trans h
                        cases h
                        exact kx _ _ _ _ _ (Option.some.inj hw).symm hP hS (lv_sub hl [3] rfl)
                      · replace h := (if_neg c47).symm.trans h
                        refine lv_aload_n hx hb dX10_copy_145 rfl (lv_at hl 0 rfl) ?_
                        refine bq_get (q0 := 0) S hK hP fl_X10_55_X10_24 rfl rfl rfl dX10_copy_146 ?_
                        refine lv_bipush (v := (16 : Int32)) hx hb dX10_copy_149 (by decide) ?_
                        refine lv_iload_n hx hb dX10_copy_151 rfl (lv_at hl 1 rfl) ?_
                        refine lv_imul hx hb dX10_copy_152 ?_
                        refine lv_iload hx hb dX10_copy_153 (lv_at hl 2 rfl) ?_
                        refine lv_iadd hx hb dX10_copy_155 ?_
                        refine lv_iload hx hb dX10_copy_156 (lv_at hl 4 rfl) ?_
                        refine lv_iadd hx hb dX10_copy_158 ?_
                        refine lv_aload_n hx hb dX10_copy_159 rfl (lv_at hl 0 rfl) ?_
                        refine bq_get (q0 := 0) S hK hP fl_X10_59_X10_25 rfl rfl rfl dX10_copy_160 ?_
                        refine lv_iload hx hb dX10_copy_163 (lv_at hl 4 rfl) ?_
                        obtain ⟨g48, h⟩ := bq_gd h
                        refine va_lald (D := D) hx hb hK hP 17 1 rfl rfl g48 dX10_copy_165 ?_
                        obtain ⟨g50, h⟩ := bq_gd h
                        obtain ⟨x49, hx49, h⟩ := bq_b h
                        refine bq_last (x1 := x49) (q0 := 16) (t0 := 1) S hK hD hP hS rfl rfl g50 (by rw [hx49]; rfl) dX10_copy_166 (fun H locs hP hS => ?_)
                        obtain ⟨v51, hv51, h⟩ := bq_b h
                        refine lv_iinc (v := v51) (lv' := [(6, .int v51), (0, .ref (a 0)), (3, .int v42), (4, .int v43), (5, .int v44)]) hx hb dX10_copy_167 hl (k := 4) rfl (by rw [hv51]; rfl) (by decide) rfl (fun ls hl => ?_)
                        refine lv_goto (tgt := 138) hx hb dX10_copy_170 (by decide) ?_
                        cases h
                        exact ih _ _ _ _ _ _ hw hP hS (lv_sub hl [1, 2, 3, 4, 0] rfl) kx
                  obtain ⟨e52, he52, h⟩ := Option.bind_eq_some_iff.mp h
                  refine hl138 _ _ _ n _ _ e52 _ _ _ he52 hP hS (lv_sub hl [1, 2, 3, 4, 0] rfl) (fun H locs ls v53 x54 hz hP hS hl => ?_)
                  subst hz
                  replace h := un2_e h
                  refine lv_iload hx hb dX10_copy_173 (lv_at hl 0 rfl) ?_
                  obtain ⟨e1, e2⟩ := Prod.mk.inj (hret _ h)
                  exact hR _ _ _ _ _ (congrArg some e1) rfl (by rw [e2]; exact hP) hS dX10_copy_175
                · replace h := (if_neg c26).symm.trans h
                  refine lv_bipush (v := (-13 : Int32)) hx hb dX10_copy_95 (by decide) ?_
                  obtain ⟨e1, e2⟩ := Prod.mk.inj (hret _ h)
                  exact hR _ _ _ _ _ (congrArg some e1) rfl (by rw [e2]; exact hP) hS dX10_copy_97
          · replace h := (if_neg c15).symm.trans h
            refine lv_bipush (v := (-12 : Int32)) hx hb dX10_copy_52 (by decide) ?_
            obtain ⟨e1, e2⟩ := Prod.mk.inj (hret _ h)
            exact hR _ _ _ _ _ (congrArg some e1) rfl (by rw [e2]; exact hP) hS dX10_copy_54
        · replace h := (if_neg c12).symm.trans h
          refine lv_bipush (v := (-11 : Int32)) hx hb dX10_copy_34 (by decide) ?_
          obtain ⟨e1, e2⟩ := Prod.mk.inj (hret _ h)
          exact hR _ _ _ _ _ (congrArg some e1) rfl (by rw [e2]; exact hP) hS dX10_copy_36
    · replace h := (if_pos c8).symm.trans h
      refine lv_iconst (v := (-1 : Int32)) hx hb dX10_copy_14 (by decide) ?_
      obtain ⟨e1, e2⟩ := Prod.mk.inj (hret _ h)
      exact hR _ _ _ _ _ (congrArg some e1) rfl (by rw [e2]; exact hP) hS dX10_copy_15
