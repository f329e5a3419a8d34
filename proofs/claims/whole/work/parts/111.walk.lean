def fX10_book (p1 : Int32) (x0 : bq_S) : Option (Int32 × bq_S) :=
  (fX10_in p1.toInt64 (1 : Int64) (9 : Int64) x0).bind (fun o1 => un2 o1 (fun v3 x2 =>
  if v3 = 0 then
  some ((-1 : Int32), x2)
  else
  if (x2.1 0 0) = (8 : Int32) then
  some ((-3 : Int32), x2)
  else
  if ok_i (x2.1 0 0) 8 then
  bd (bq_sI x2 1 (x2.1 0 0).toNatClampNeg p1) (fun x6 =>
  if ok_i (x6.1 0 0) 8 then
  bd (bq_sI x6 2 (x6.1 0 0).toNatClampNeg (0 : Int32)) (fun x8 =>
  if ok_i (x8.1 0 0) 8 then
  bd (bq_sI x8 3 (x8.1 0 0).toNatClampNeg (0 : Int32)) (fun x10 =>
  bd (bq_sI x10 0 4 ((x10.1 0 4) &&& (((1 : Int32) <<< ((x10.1 0 0) &&& 31)) ^^^ (-1 : Int32)))) (fun x12 =>
  bd (bq_sI x12 0 0 ((x12.1 0 0) + (1 : Int32))) (fun x13 =>
  some (((x13.1 0 0) - (1 : Int32)), x13))))
  else none)
  else none)
  else none))
theorem dX10_book_0 : decode cX10_book 0 = .ok (.iload_n 1, 1) := by decide +kernel
theorem dX10_book_1 : decode cX10_book 1 = .ok (.i2l, 1) := by decide +kernel
theorem dX10_book_2 : decode cX10_book 2 = .ok (.lconst 1, 1) := by decide +kernel
theorem dX10_book_3 : decode cX10_book 3 = .ok (.ldc2_w 74, 3) := by decide +kernel
theorem dX10_book_6 : decode cX10_book 6 = .ok (.invokestatic 66, 3) := by decide +kernel
theorem dX10_book_9 : decode cX10_book 9 = .ok (.ifCond .ne 5, 3) := by decide +kernel
theorem dX10_book_12 : decode cX10_book 12 = .ok (.iconst (-1), 1) := by decide +kernel
theorem dX10_book_13 : decode cX10_book 13 = .ok (.ireturn, 1) := by decide +kernel
theorem dX10_book_14 : decode cX10_book 14 = .ok (.aload_n 0, 1) := by decide +kernel
theorem dX10_book_15 : decode cX10_book 15 = .ok (.getfield 62, 3) := by decide +kernel
theorem dX10_book_18 : decode cX10_book 18 = .ok (.bipush 8, 2) := by decide +kernel
theorem dX10_book_20 : decode cX10_book 20 = .ok (.if_icmp .ne 6, 3) := by decide +kernel
theorem dX10_book_23 : decode cX10_book 23 = .ok (.bipush (-3), 2) := by decide +kernel
theorem dX10_book_25 : decode cX10_book 25 = .ok (.ireturn, 1) := by decide +kernel
theorem dX10_book_26 : decode cX10_book 26 = .ok (.aload_n 0, 1) := by decide +kernel
theorem dX10_book_27 : decode cX10_book 27 = .ok (.getfield 7, 3) := by decide +kernel
theorem dX10_book_30 : decode cX10_book 30 = .ok (.aload_n 0, 1) := by decide +kernel
theorem dX10_book_31 : decode cX10_book 31 = .ok (.getfield 62, 3) := by decide +kernel
theorem dX10_book_34 : decode cX10_book 34 = .ok (.iload_n 1, 1) := by decide +kernel
theorem dX10_book_35 : decode cX10_book 35 = .ok (.iastore, 1) := by decide +kernel
theorem dX10_book_36 : decode cX10_book 36 = .ok (.aload_n 0, 1) := by decide +kernel
theorem dX10_book_37 : decode cX10_book 37 = .ok (.getfield 13, 3) := by decide +kernel
theorem dX10_book_40 : decode cX10_book 40 = .ok (.aload_n 0, 1) := by decide +kernel
theorem dX10_book_41 : decode cX10_book 41 = .ok (.getfield 62, 3) := by decide +kernel
theorem dX10_book_44 : decode cX10_book 44 = .ok (.iconst 0, 1) := by decide +kernel
theorem dX10_book_45 : decode cX10_book 45 = .ok (.iastore, 1) := by decide +kernel
theorem dX10_book_46 : decode cX10_book 46 = .ok (.aload_n 0, 1) := by decide +kernel
theorem dX10_book_47 : decode cX10_book 47 = .ok (.getfield 16, 3) := by decide +kernel
theorem dX10_book_50 : decode cX10_book 50 = .ok (.aload_n 0, 1) := by decide +kernel
theorem dX10_book_51 : decode cX10_book 51 = .ok (.getfield 62, 3) := by decide +kernel
theorem dX10_book_54 : decode cX10_book 54 = .ok (.iconst 0, 1) := by decide +kernel
theorem dX10_book_55 : decode cX10_book 55 = .ok (.iastore, 1) := by decide +kernel
theorem dX10_book_56 : decode cX10_book 56 = .ok (.aload_n 0, 1) := by decide +kernel
theorem dX10_book_57 : decode cX10_book 57 = .ok (.dup, 1) := by decide +kernel
theorem dX10_book_58 : decode cX10_book 58 = .ok (.getfield 76, 3) := by decide +kernel
theorem dX10_book_61 : decode cX10_book 61 = .ok (.iconst 1, 1) := by decide +kernel
theorem dX10_book_62 : decode cX10_book 62 = .ok (.aload_n 0, 1) := by decide +kernel
theorem dX10_book_63 : decode cX10_book 63 = .ok (.getfield 62, 3) := by decide +kernel
theorem dX10_book_66 : decode cX10_book 66 = .ok (.ishl, 1) := by decide +kernel
theorem dX10_book_67 : decode cX10_book 67 = .ok (.iconst (-1), 1) := by decide +kernel
theorem dX10_book_68 : decode cX10_book 68 = .ok (.ixor, 1) := by decide +kernel
theorem dX10_book_69 : decode cX10_book 69 = .ok (.iand, 1) := by decide +kernel
theorem dX10_book_70 : decode cX10_book 70 = .ok (.putfield 76, 3) := by decide +kernel
theorem dX10_book_73 : decode cX10_book 73 = .ok (.aload_n 0, 1) := by decide +kernel
theorem dX10_book_74 : decode cX10_book 74 = .ok (.dup, 1) := by decide +kernel
theorem dX10_book_75 : decode cX10_book 75 = .ok (.getfield 62, 3) := by decide +kernel
theorem dX10_book_78 : decode cX10_book 78 = .ok (.iconst 1, 1) := by decide +kernel
theorem dX10_book_79 : decode cX10_book 79 = .ok (.iadd, 1) := by decide +kernel
theorem dX10_book_80 : decode cX10_book 80 = .ok (.putfield 62, 3) := by decide +kernel
theorem dX10_book_83 : decode cX10_book 83 = .ok (.aload_n 0, 1) := by decide +kernel
theorem dX10_book_84 : decode cX10_book 84 = .ok (.getfield 62, 3) := by decide +kernel
theorem dX10_book_87 : decode cX10_book 87 = .ok (.iconst 1, 1) := by decide +kernel
theorem dX10_book_88 : decode cX10_book 88 = .ok (.isub, 1) := by decide +kernel
theorem dX10_book_89 : decode cX10_book 89 = .ok (.ireturn, 1) := by decide +kernel
set_option maxHeartbeats 4000000 in
set_option maxRecDepth 100000 in
theorem cX10_book_k_0 {l : Launch} {D : va_G} {a : Nat → Nat} {k : Nat → ClassId} {p1 : Int32} {x0 xz : bq_S} {rz : Int32} (h : fX10_book  p1 x0 = some (rz, xz)) : bq_M l D bq_cl (bq_ty k) (bq_wM a k) yX10_book cX10_book 2 (some .int) { frames := 1, cells := 0, slots := 0, locals := 25 } [.ref (a 0), .int p1] x0 (some rz) xz := by
  refine bq_ofW RX10 [(0, .ref (a 0)), (1, .int p1)] (by decide +kernel) rfl (Nat.le_of_ble_eq_true rfl) rfl (bq_adM a k) ?_
  intro p e s m below meth c A Q ls S hK hD hA hR hS hP hl
  have hx := S.1; have hb := S.2.1; have hml := S.2.2.1; have hown := S.2.2.2.1; have hts := S.2.2.2.2
  have hret : ∀ z, some z = some (rz, xz) → (rz, xz) = z := fun z h => (Option.some.inj h).symm
  unfold fX10_book at h
  refine lv_iload_n hx hb dX10_book_0 rfl (lv_at hl 1 rfl) ?_
  refine lv_i2l hx hb dX10_book_1 rfl ?_
  refine lv_lconst (v := (1 : Int64)) hx hb dX10_book_2 (by decide) ?_
  refine lv_ldc2 hx hb hown (hts _ kl_X10_74) dX10_book_3 ?_
  obtain ⟨o1, ho1, h⟩ := Option.bind_eq_some_iff.mp h
  obtain ⟨v3, x2⟩ := o1
  replace h := un2_e h
  refine bq_callSi (As := [.long _, .long _, .long _]) S hK hD hA hP hS (cX10_in_k ho1) hd_yX10_in ml_X10_66 st_yX10_in ⟨rfl, rfl⟩ ⟨by decide, by decide⟩ rfl hl.1 rfl (Nat.le_of_ble_eq_true rfl) ⟨Nat.zero_le _, Nat.zero_le _⟩ dX10_book_6 (fun H locs hP hS => ?_)
  refine lv_if_ne (tgt := 14) hx hb dX10_book_9 (by decide) (fun c4 => ?_) (fun c4 => ?_)
  · replace h := (if_neg c4).symm.trans h
    refine lv_aload_n hx hb dX10_book_14 rfl (lv_at hl 0 rfl) ?_
    refine bq_get (q0 := 0) S hK hP fl_X10_62_X10_0 rfl rfl rfl dX10_book_15 ?_
    refine lv_bipush (v := (8 : Int32)) hx hb dX10_book_18 (by decide) ?_
    refine lv_icmp_ne (tgt := 26) hx hb dX10_book_20 (by decide) (fun c5 => ?_) (fun c5 => ?_)
    · replace h := (if_neg c5).symm.trans h
      refine lv_aload_n hx hb dX10_book_26 rfl (lv_at hl 0 rfl) ?_
      refine bq_get (q0 := 0) S hK hP fl_X10_7_X10_1 rfl rfl rfl dX10_book_27 ?_
      refine lv_aload_n hx hb dX10_book_30 rfl (lv_at hl 0 rfl) ?_
      refine bq_get (q0 := 0) S hK hP fl_X10_62_X10_0 rfl rfl rfl dX10_book_31 ?_
      refine lv_iload_n hx hb dX10_book_34 rfl (lv_at hl 1 rfl) ?_
      obtain ⟨g7, h⟩ := bq_gd h
      obtain ⟨x6, hx6, h⟩ := bq_b h
      refine bq_iast (x1 := x6) (q0 := 1) (t0 := 0) S hK hD hP hS rfl rfl g7 (by rw [hx6]; rfl) dX10_book_35 (fun H locs hP hS => ?_)
      refine lv_aload_n hx hb dX10_book_36 rfl (lv_at hl 0 rfl) ?_
      refine bq_get (q0 := 0) S hK hP fl_X10_13_X10_2 rfl rfl rfl dX10_book_37 ?_
      refine lv_aload_n hx hb dX10_book_40 rfl (lv_at hl 0 rfl) ?_
      refine bq_get (q0 := 0) S hK hP fl_X10_62_X10_0 rfl rfl rfl dX10_book_41 ?_
      refine lv_iconst (v := (0 : Int32)) hx hb dX10_book_44 (by decide) ?_
      obtain ⟨g9, h⟩ := bq_gd h
      obtain ⟨x8, hx8, h⟩ := bq_b h
      refine bq_iast (x1 := x8) (q0 := 2) (t0 := 0) S hK hD hP hS rfl rfl g9 (by rw [hx8]; rfl) dX10_book_45 (fun H locs hP hS => ?_)
      refine lv_aload_n hx hb dX10_book_46 rfl (lv_at hl 0 rfl) ?_
      refine bq_get (q0 := 0) S hK hP fl_X10_16_X10_3 rfl rfl rfl dX10_book_47 ?_
      refine lv_aload_n hx hb dX10_book_50 rfl (lv_at hl 0 rfl) ?_
      refine bq_get (q0 := 0) S hK hP fl_X10_62_X10_0 rfl rfl rfl dX10_book_51 ?_
      refine lv_iconst (v := (0 : Int32)) hx hb dX10_book_54 (by decide) ?_
      obtain ⟨g11, h⟩ := bq_gd h
      obtain ⟨x10, hx10, h⟩ := bq_b h
      refine bq_iast (x1 := x10) (q0 := 3) (t0 := 0) S hK hD hP hS rfl rfl g11 (by rw [hx10]; rfl) dX10_book_55 (fun H locs hP hS => ?_)
      refine lv_aload_n hx hb dX10_book_56 rfl (lv_at hl 0 rfl) ?_
      refine lv_dup hx hb dX10_book_57 rfl ?_
      refine bq_get (q0 := 0) S hK hP fl_X10_76_X10_4 rfl rfl rfl dX10_book_58 ?_
      refine lv_iconst (v := (1 : Int32)) hx hb dX10_book_61 (by decide) ?_
      refine lv_aload_n hx hb dX10_book_62 rfl (lv_at hl 0 rfl) ?_
      refine bq_get (q0 := 0) S hK hP fl_X10_62_X10_0 rfl rfl rfl dX10_book_63 ?_
      refine lv_ishl hx hb dX10_book_66 ?_
      refine lv_iconst (v := (-1 : Int32)) hx hb dX10_book_67 (by decide) ?_
      refine lv_ixor hx hb dX10_book_68 ?_
      refine lv_iand hx hb dX10_book_69 ?_
      obtain ⟨x12, hx12, h⟩ := bq_b h
      refine bq_put (x1 := x12) (q0 := 0) (ty := .int) S hK hD hP hS fl_X10_76_X10_4 bt_X10 rfl (by decide +kernel) rfl rfl (Nat.le_of_ble_eq_true rfl) rfl rfl (by rw [hx12]; rfl) dX10_book_70 (fun H locs hP hS => ?_)
      refine lv_aload_n hx hb dX10_book_73 rfl (lv_at hl 0 rfl) ?_
      refine lv_dup hx hb dX10_book_74 rfl ?_
      refine bq_get (q0 := 0) S hK hP fl_X10_62_X10_0 rfl rfl rfl dX10_book_75 ?_
      refine lv_iconst (v := (1 : Int32)) hx hb dX10_book_78 (by decide) ?_
      refine lv_iadd hx hb dX10_book_79 ?_
      obtain ⟨x13, hx13, h⟩ := bq_b h
      refine bq_put (x1 := x13) (q0 := 0) (ty := .int) S hK hD hP hS fl_X10_62_X10_0 bt_X10 rfl (by decide +kernel) rfl rfl (Nat.le_of_ble_eq_true rfl) rfl rfl (by rw [hx13]; rfl) dX10_book_80 (fun H locs hP hS => ?_)
      refine lv_aload_n hx hb dX10_book_83 rfl (lv_at hl 0 rfl) ?_
      refine bq_get (q0 := 0) S hK hP fl_X10_62_X10_0 rfl rfl rfl dX10_book_84 ?_
      refine lv_iconst (v := (1 : Int32)) hx hb dX10_book_87 (by decide) ?_
      refine lv_isub hx hb dX10_book_88 ?_
      obtain ⟨e1, e2⟩ := Prod.mk.inj (hret _ h)
      exact hR _ _ _ _ _ (congrArg some e1) rfl (by rw [e2]; exact hP) hS dX10_book_89
    · replace h := (if_pos c5).symm.trans h
      refine lv_bipush (v := (-3 : Int32)) hx hb dX10_book_23 (by decide) ?_
      obtain ⟨e1, e2⟩ := Prod.mk.inj (hret _ h)
      exact hR _ _ _ _ _ (congrArg some e1) rfl (by rw [e2]; exact hP) hS dX10_book_25
  · replace h := (if_pos c4).symm.trans h
    refine lv_iconst (v := (-1 : Int32)) hx hb dX10_book_12 (by decide) ?_
    obtain ⟨e1, e2⟩ := Prod.mk.inj (hret _ h)
    exact hR _ _ _ _ _ (congrArg some e1) rfl (by rw [e2]; exact hP) hS dX10_book_13
def fX10_isBook (p1 : Int32) (x0 : bq_S) : Option (Int32 × bq_S) :=
  (fX10_in p1.toInt64 (0 : Int64) ((x0.1 0 0) - (1 : Int32)).toInt64 x0).bind (fun o1 => un2 o1 (fun v3 x2 =>
  if v3 = 0 ∨ v3 = 1 then
  some (v3, x2)
  else none))
theorem dX10_isBook_0 : decode cX10_isBook 0 = .ok (.iload_n 1, 1) := by decide +kernel
theorem dX10_isBook_1 : decode cX10_isBook 1 = .ok (.i2l, 1) := by decide +kernel
theorem dX10_isBook_2 : decode cX10_isBook 2 = .ok (.lconst 0, 1) := by decide +kernel
theorem dX10_isBook_3 : decode cX10_isBook 3 = .ok (.aload_n 0, 1) := by decide +kernel
theorem dX10_isBook_4 : decode cX10_isBook 4 = .ok (.getfield 62, 3) := by decide +kernel
theorem dX10_isBook_7 : decode cX10_isBook 7 = .ok (.iconst 1, 1) := by decide +kernel
theorem dX10_isBook_8 : decode cX10_isBook 8 = .ok (.isub, 1) := by decide +kernel
theorem dX10_isBook_9 : decode cX10_isBook 9 = .ok (.i2l, 1) := by decide +kernel
theorem dX10_isBook_10 : decode cX10_isBook 10 = .ok (.invokestatic 66, 3) := by decide +kernel
theorem dX10_isBook_13 : decode cX10_isBook 13 = .ok (.ireturn, 1) := by decide +kernel
set_option maxHeartbeats 4000000 in
set_option maxRecDepth 100000 in
theorem cX10_isBook_k_0 {l : Launch} {D : va_G} {a : Nat → Nat} {k : Nat → ClassId} {p1 : Int32} {x0 xz : bq_S} {rz : Int32} (h : fX10_isBook  p1 x0 = some (rz, xz)) : bq_M l D bq_cl (bq_ty k) (bq_wM a k) yX10_isBook cX10_isBook 2 (some .boolean) { frames := 1, cells := 0, slots := 0, locals := 25 } [.ref (a 0), .int p1] x0 (some rz) xz := by
  refine bq_ofW RX10 [(0, .ref (a 0)), (1, .int p1)] (by decide +kernel) rfl (Nat.le_of_ble_eq_true rfl) rfl (bq_adM a k) ?_
  intro p e s m below meth c A Q ls S hK hD hA hR hS hP hl
  have hx := S.1; have hb := S.2.1; have hml := S.2.2.1; have hown := S.2.2.2.1; have hts := S.2.2.2.2
  have hret : ∀ z, some z = some (rz, xz) → (rz, xz) = z := fun z h => (Option.some.inj h).symm
  unfold fX10_isBook at h
  refine lv_iload_n hx hb dX10_isBook_0 rfl (lv_at hl 1 rfl) ?_
  refine lv_i2l hx hb dX10_isBook_1 rfl ?_
  refine lv_lconst (v := (0 : Int64)) hx hb dX10_isBook_2 (by decide) ?_
  refine lv_aload_n hx hb dX10_isBook_3 rfl (lv_at hl 0 rfl) ?_
  refine bq_get (q0 := 0) S hK hP fl_X10_62_X10_0 rfl rfl rfl dX10_isBook_4 ?_
  refine lv_iconst (v := (1 : Int32)) hx hb dX10_isBook_7 (by decide) ?_
  refine lv_isub hx hb dX10_isBook_8 ?_
  refine lv_i2l hx hb dX10_isBook_9 rfl ?_
  obtain ⟨o1, ho1, h⟩ := Option.bind_eq_some_iff.mp h
  obtain ⟨v3, x2⟩ := o1
  replace h := un2_e h
  refine bq_callSi (As := [.long _, .long _, .long _]) S hK hD hA hP hS (cX10_in_k ho1) hd_yX10_in ml_X10_66 st_yX10_in ⟨rfl, rfl⟩ ⟨by decide, by decide⟩ rfl hl.1 rfl (Nat.le_of_ble_eq_true rfl) ⟨Nat.zero_le _, Nat.zero_le _⟩ dX10_isBook_10 (fun H locs hP hS => ?_)
  obtain ⟨g4, h⟩ := bq_gp h
  obtain ⟨e1, e2⟩ := Prod.mk.inj (hret _ h)
  exact hR _ _ _ _ _ (congrArg some e1) (bq_z g4) (by rw [e2]; exact hP) hS dX10_isBook_13
def fX10_areTwo (p1 : Int32) (p2 : Int32) (x0 : bq_S) : Option (Int32 × bq_S) :=
  (fX10_isBook p1 x0).bind (fun o1 => un2 o1 (fun v3 x2 =>
  if v3 = 0 then
  some ((0 : Int32), x2)
  else
  (fX10_isBook p2 x2).bind (fun o5 => un2 o5 (fun v7 x6 =>
  if v7 = 0 then
  some ((0 : Int32), x6)
  else
  if p1 = p2 then
  some ((0 : Int32), x6)
  else
  some ((1 : Int32), x6)))))
theorem dX10_areTwo_0 : decode cX10_areTwo 0 = .ok (.aload_n 0, 1) := by decide +kernel
theorem dX10_areTwo_1 : decode cX10_areTwo 1 = .ok (.iload_n 1, 1) := by decide +kernel
theorem dX10_areTwo_2 : decode cX10_areTwo 2 = .ok (.invokevirtual 70, 3) := by decide +kernel
theorem dX10_areTwo_5 : decode cX10_areTwo 5 = .ok (.ifCond .eq 20, 3) := by decide +kernel
theorem dX10_areTwo_8 : decode cX10_areTwo 8 = .ok (.aload_n 0, 1) := by decide +kernel
theorem dX10_areTwo_9 : decode cX10_areTwo 9 = .ok (.iload_n 2, 1) := by decide +kernel
theorem dX10_areTwo_10 : decode cX10_areTwo 10 = .ok (.invokevirtual 70, 3) := by decide +kernel
theorem dX10_areTwo_13 : decode cX10_areTwo 13 = .ok (.ifCond .eq 12, 3) := by decide +kernel
theorem dX10_areTwo_16 : decode cX10_areTwo 16 = .ok (.iload_n 1, 1) := by decide +kernel
theorem dX10_areTwo_17 : decode cX10_areTwo 17 = .ok (.iload_n 2, 1) := by decide +kernel
theorem dX10_areTwo_18 : decode cX10_areTwo 18 = .ok (.if_icmp .eq 7, 3) := by decide +kernel
theorem dX10_areTwo_21 : decode cX10_areTwo 21 = .ok (.iconst 1, 1) := by decide +kernel
theorem dX10_areTwo_22 : decode cX10_areTwo 22 = .ok (.goto 4, 3) := by decide +kernel
theorem dX10_areTwo_25 : decode cX10_areTwo 25 = .ok (.iconst 0, 1) := by decide +kernel
theorem dX10_areTwo_26 : decode cX10_areTwo 26 = .ok (.ireturn, 1) := by decide +kernel
set_option maxHeartbeats 4000000 in
set_option maxRecDepth 100000 in
theorem cX10_areTwo_k_0 {l : Launch} {D : va_G} {a : Nat → Nat} {k : Nat → ClassId} {p1 : Int32} {p2 : Int32} {x0 xz : bq_S} {rz : Int32} (h : fX10_areTwo  p1 p2 x0 = some (rz, xz)) : bq_M l D bq_cl (bq_ty k) (bq_wM a k) yX10_areTwo cX10_areTwo 3 (some .boolean) { frames := 2, cells := 0, slots := 0, locals := 46 } [.ref (a 0), .int p1, .int p2] x0 (some rz) xz := by
  refine bq_ofW RX10 [(0, .ref (a 0)), (1, .int p1), (2, .int p2)] (by decide +kernel) rfl (Nat.le_of_ble_eq_true rfl) rfl (bq_adM a k) ?_
  intro p e s m below meth c A Q ls S hK hD hA hR hS hP hl
  have hx := S.1; have hb := S.2.1; have hml := S.2.2.1; have hown := S.2.2.2.1; have hts := S.2.2.2.2
  have hret : ∀ z, some z = some (rz, xz) → (rz, xz) = z := fun z h => (Option.some.inj h).symm
  unfold fX10_areTwo at h
  refine lv_aload_n hx hb dX10_areTwo_0 rfl (lv_at hl 0 rfl) ?_
  refine lv_iload_n hx hb dX10_areTwo_1 rfl (lv_at hl 1 rfl) ?_
  obtain ⟨o1, ho1, h⟩ := Option.bind_eq_some_iff.mp h
  obtain ⟨v3, x2⟩ := o1
  replace h := un2_e h
  refine bq_callVi (q0 := 0) (As := [.int _]) S hK hD hA hP hS (cX10_isBook_k_0 ho1) hd_yX10_isBook ml_X10_70 in_yX10_isBook (hts _ sl_X10_X10_yX10_isBook) ⟨rfl, rfl⟩ ⟨by decide, by decide⟩ rfl rfl rfl hl.1 rfl (Nat.le_of_ble_eq_true rfl) ⟨Nat.zero_le _, Nat.zero_le _⟩ dX10_areTwo_2 (fun H locs hP hS => ?_)
  refine lv_if_eq (tgt := 25) hx hb dX10_areTwo_5 (by decide) (fun c4 => ?_) (fun c4 => ?_)
  · replace h := (if_pos c4).symm.trans h
    refine lv_iconst (v := (0 : Int32)) hx hb dX10_areTwo_25 (by decide) ?_
    obtain ⟨e1, e2⟩ := Prod.mk.inj (hret _ h)
    exact hR _ _ _ _ _ (congrArg some e1) rfl (by rw [e2]; exact hP) hS dX10_areTwo_26
  · replace h := (if_neg c4).symm.trans h
    refine lv_aload_n hx hb dX10_areTwo_8 rfl (lv_at hl 0 rfl) ?_
    refine lv_iload_n hx hb dX10_areTwo_9 rfl (lv_at hl 2 rfl) ?_
    obtain ⟨o5, ho5, h⟩ := Option.bind_eq_some_iff.mp h
    obtain ⟨v7, x6⟩ := o5
    replace h := un2_e h
    refine bq_callVi (q0 := 0) (As := [.int _]) S hK hD hA hP hS (cX10_isBook_k_0 ho5) hd_yX10_isBook ml_X10_70 in_yX10_isBook (hts _ sl_X10_X10_yX10_isBook) ⟨rfl, rfl⟩ ⟨by decide, by decide⟩ rfl rfl rfl hl.1 rfl (Nat.le_of_ble_eq_true rfl) ⟨Nat.zero_le _, Nat.zero_le _⟩ dX10_areTwo_10 (fun H locs hP hS => ?_)
    refine lv_if_eq (tgt := 25) hx hb dX10_areTwo_13 (by decide) (fun c8 => ?_) (fun c8 => ?_)
    · replace h := (if_pos c8).symm.trans h
      refine lv_iconst (v := (0 : Int32)) hx hb dX10_areTwo_25 (by decide) ?_
      obtain ⟨e1, e2⟩ := Prod.mk.inj (hret _ h)
      exact hR _ _ _ _ _ (congrArg some e1) rfl (by rw [e2]; exact hP) hS dX10_areTwo_26
    · replace h := (if_neg c8).symm.trans h
      refine lv_iload_n hx hb dX10_areTwo_16 rfl (lv_at hl 1 rfl) ?_
      refine lv_iload_n hx hb dX10_areTwo_17 rfl (lv_at hl 2 rfl) ?_
      refine lv_icmp_eq (tgt := 25) hx hb dX10_areTwo_18 (by decide) (fun c9 => ?_) (fun c9 => ?_)
      · replace h := (if_pos c9).symm.trans h
        refine lv_iconst (v := (0 : Int32)) hx hb dX10_areTwo_25 (by decide) ?_
        obtain ⟨e1, e2⟩ := Prod.mk.inj (hret _ h)
        exact hR _ _ _ _ _ (congrArg some e1) rfl (by rw [e2]; exact hP) hS dX10_areTwo_26
      · replace h := (if_neg c9).symm.trans h
        refine lv_iconst (v := (1 : Int32)) hx hb dX10_areTwo_21 (by decide) ?_
        refine lv_goto (tgt := 26) hx hb dX10_areTwo_22 (by decide) ?_
        obtain ⟨e1, e2⟩ := Prod.mk.inj (hret _ h)
        exact hR _ _ _ _ _ (congrArg some e1) rfl (by rw [e2]; exact hP) hS dX10_areTwo_26
def fX10_quote (p1 : Int32) (p2 : Int32) (p3 : Int32) (x0 : bq_S) : Option (Int32 × bq_S) :=
  (fX10_areTwo p1 p2 x0).bind (fun o1 => un2 o1 (fun v3 x2 =>
  if v3 = 0 then
  some ((-1 : Int32), x2)
  else
  if ok_i p1 8 then
  bd (((x2.1 2 p1.toNatClampNeg) >>> (p2 &&& 31)) &&& (1 : Int32)) (fun v6 =>
  if p3 = 0 then
  if ok_i p1 8 then
  if ok_i p1 8 then
  bd (bq_sI x2 2 p1.toNatClampNeg ((x2.1 2 p1.toNatClampNeg) &&& (((1 : Int32) <<< (p2 &&& 31)) ^^^ (-1 : Int32)))) (fun x9 =>
  some (v6, x9))
  else none
  else none
  else
  if ok_i p1 8 then
  if ok_i p1 8 then
  bd (bq_sI x2 2 p1.toNatClampNeg ((x2.1 2 p1.toNatClampNeg) ||| ((1 : Int32) <<< (p2 &&& 31)))) (fun x12 =>
  some (v6, x12))
  else none
  else none)
  else none))
theorem dX10_quote_0 : decode cX10_quote 0 = .ok (.aload_n 0, 1) := by decide +kernel
theorem dX10_quote_1 : decode cX10_quote 1 = .ok (.iload_n 1, 1) := by decide +kernel
theorem dX10_quote_2 : decode cX10_quote 2 = .ok (.iload_n 2, 1) := by decide +kernel
theorem dX10_quote_3 : decode cX10_quote 3 = .ok (.invokevirtual 79, 3) := by decide +kernel
theorem dX10_quote_6 : decode cX10_quote 6 = .ok (.ifCond .ne 5, 3) := by decide +kernel
theorem dX10_quote_9 : decode cX10_quote 9 = .ok (.iconst (-1), 1) := by decide +kernel
theorem dX10_quote_10 : decode cX10_quote 10 = .ok (.ireturn, 1) := by decide +kernel
theorem dX10_quote_11 : decode cX10_quote 11 = .ok (.aload_n 0, 1) := by decide +kernel
theorem dX10_quote_12 : decode cX10_quote 12 = .ok (.getfield 13, 3) := by decide +kernel
theorem dX10_quote_15 : decode cX10_quote 15 = .ok (.iload_n 1, 1) := by decide +kernel
theorem dX10_quote_16 : decode cX10_quote 16 = .ok (.iaload, 1) := by decide +kernel
theorem dX10_quote_17 : decode cX10_quote 17 = .ok (.iload_n 2, 1) := by decide +kernel
theorem dX10_quote_18 : decode cX10_quote 18 = .ok (.ishr, 1) := by decide +kernel
theorem dX10_quote_19 : decode cX10_quote 19 = .ok (.iconst 1, 1) := by decide +kernel
theorem dX10_quote_20 : decode cX10_quote 20 = .ok (.iand, 1) := by decide +kernel
theorem dX10_quote_21 : decode cX10_quote 21 = .ok (.istore 4, 2) := by decide +kernel
theorem dX10_quote_23 : decode cX10_quote 23 = .ok (.aload_n 0, 1) := by decide +kernel
theorem dX10_quote_24 : decode cX10_quote 24 = .ok (.getfield 13, 3) := by decide +kernel
theorem dX10_quote_27 : decode cX10_quote 27 = .ok (.iload_n 1, 1) := by decide +kernel
theorem dX10_quote_28 : decode cX10_quote 28 = .ok (.iload_n 3, 1) := by decide +kernel
theorem dX10_quote_29 : decode cX10_quote 29 = .ok (.ifCond .eq 16, 3) := by decide +kernel
theorem dX10_quote_32 : decode cX10_quote 32 = .ok (.aload_n 0, 1) := by decide +kernel
theorem dX10_quote_33 : decode cX10_quote 33 = .ok (.getfield 13, 3) := by decide +kernel
theorem dX10_quote_36 : decode cX10_quote 36 = .ok (.iload_n 1, 1) := by decide +kernel
theorem dX10_quote_37 : decode cX10_quote 37 = .ok (.iaload, 1) := by decide +kernel
theorem dX10_quote_38 : decode cX10_quote 38 = .ok (.iconst 1, 1) := by decide +kernel
theorem dX10_quote_39 : decode cX10_quote 39 = .ok (.iload_n 2, 1) := by decide +kernel
theorem dX10_quote_40 : decode cX10_quote 40 = .ok (.ishl, 1) := by decide +kernel
theorem dX10_quote_41 : decode cX10_quote 41 = .ok (.ior, 1) := by decide +kernel
theorem dX10_quote_42 : decode cX10_quote 42 = .ok (.goto 15, 3) := by decide +kernel
theorem dX10_quote_45 : decode cX10_quote 45 = .ok (.aload_n 0, 1) := by decide +kernel
theorem dX10_quote_46 : decode cX10_quote 46 = .ok (.getfield 13, 3) := by decide +kernel
theorem dX10_quote_49 : decode cX10_quote 49 = .ok (.iload_n 1, 1) := by decide +kernel
theorem dX10_quote_50 : decode cX10_quote 50 = .ok (.iaload, 1) := by decide +kernel
theorem dX10_quote_51 : decode cX10_quote 51 = .ok (.iconst 1, 1) := by decide +kernel
theorem dX10_quote_52 : decode cX10_quote 52 = .ok (.iload_n 2, 1) := by decide +kernel
theorem dX10_quote_53 : decode cX10_quote 53 = .ok (.ishl, 1) := by decide +kernel
theorem dX10_quote_54 : decode cX10_quote 54 = .ok (.iconst (-1), 1) := by decide +kernel
theorem dX10_quote_55 : decode cX10_quote 55 = .ok (.ixor, 1) := by decide +kernel
theorem dX10_quote_56 : decode cX10_quote 56 = .ok (.iand, 1) := by decide +kernel
theorem dX10_quote_57 : decode cX10_quote 57 = .ok (.iastore, 1) := by decide +kernel
theorem dX10_quote_58 : decode cX10_quote 58 = .ok (.iload 4, 2) := by decide +kernel
theorem dX10_quote_60 : decode cX10_quote 60 = .ok (.ireturn, 1) := by decide +kernel
set_option maxHeartbeats 4000000 in
set_option maxRecDepth 100000 in
theorem cX10_quote_k_0 {l : Launch} {D : va_G} {a : Nat → Nat} {k : Nat → ClassId} {p1 : Int32} {p2 : Int32} {p3 : Int32} {x0 xz : bq_S} {rz : Int32} (h : fX10_quote  p1 p2 p3 x0 = some (rz, xz)) : bq_M l D bq_cl (bq_ty k) (bq_wM a k) yX10_quote cX10_quote 5 (some .int) { frames := 3, cells := 0, slots := 0, locals := 68 } [.ref (a 0), .int p1, .int p2, .int p3] x0 (some rz) xz := by
  refine bq_ofW RX10 [(0, .ref (a 0)), (1, .int p1), (2, .int p2), (3, .int p3)] (by decide +kernel) rfl (Nat.le_of_ble_eq_true rfl) rfl (bq_adM a k) ?_
  intro p e s m below meth c A Q ls S hK hD hA hR hS hP hl
  have hx := S.1; have hb := S.2.1; have hml := S.2.2.1; have hown := S.2.2.2.1; have hts := S.2.2.2.2
  have hret : ∀ z, some z = some (rz, xz) → (rz, xz) = z := fun z h => (Option.some.inj h).symm
  unfold fX10_quote at h
  refine lv_aload_n hx hb dX10_quote_0 rfl (lv_at hl 0 rfl) ?_
  refine lv_iload_n hx hb dX10_quote_1 rfl (lv_at hl 1 rfl) ?_
  refine lv_iload_n hx hb dX10_quote_2 rfl (lv_at hl 2 rfl) ?_
  obtain ⟨o1, ho1, h⟩ := Option.bind_eq_some_iff.mp h
  obtain ⟨v3, x2⟩ := o1
  replace h := un2_e h
  refine bq_callVi (q0 := 0) (As := [.int _, .int _]) S hK hD hA hP hS (cX10_areTwo_k_0 ho1) hd_yX10_areTwo ml_X10_79 in_yX10_areTwo (hts _ sl_X10_X10_yX10_areTwo) ⟨rfl, rfl⟩ ⟨by decide, by decide⟩ rfl rfl rfl hl.1 rfl (Nat.le_of_ble_eq_true rfl) ⟨Nat.zero_le _, Nat.zero_le _⟩ dX10_quote_3 (fun H locs hP hS => ?_)
  refine lv_if_ne (tgt := 11) hx hb dX10_quote_6 (by decide) (fun c4 => ?_) (fun c4 => ?_)
  · replace h := (if_neg c4).symm.trans h
    refine lv_aload_n hx hb dX10_quote_11 rfl (lv_at hl 0 rfl) ?_
    refine bq_get (q0 := 0) S hK hP fl_X10_13_X10_2 rfl rfl rfl dX10_quote_12 ?_
    refine lv_iload_n hx hb dX10_quote_15 rfl (lv_at hl 1 rfl) ?_
    obtain ⟨g5, h⟩ := bq_gd h
    refine va_iald (D := D) hx hb hK hP 2 0 rfl rfl g5 dX10_quote_16 ?_
    refine lv_iload_n hx hb dX10_quote_17 rfl (lv_at hl 2 rfl) ?_
    refine lv_ishr hx hb dX10_quote_18 ?_
    refine lv_iconst (v := (1 : Int32)) hx hb dX10_quote_19 (by decide) ?_
    refine lv_iand hx hb dX10_quote_20 ?_
    refine lv_topi (fun v6 hv6 => ?_)
    replace h := bq_bv h hv6
    refine lv_istore (lv' := [(4, .int v6), (0, .ref (a 0)), (1, .int p1), (2, .int p2), (3, .int p3)]) hx hb dX10_quote_21 hl (by decide) rfl (fun ls hl => ?_)
    refine lv_aload_n hx hb dX10_quote_23 rfl (lv_at hl 1 rfl) ?_
    refine bq_get (q0 := 0) S hK hP fl_X10_13_X10_2 rfl rfl rfl dX10_quote_24 ?_
    refine lv_iload_n hx hb dX10_quote_27 rfl (lv_at hl 2 rfl) ?_
    refine lv_iload_n hx hb dX10_quote_28 rfl (lv_at hl 4 rfl) ?_
    refine lv_if_eq (tgt := 45) hx hb dX10_quote_29 (by decide) (fun c7 => ?_) (fun c7 => ?_)
    · replace h := (if_pos c7).symm.trans h
      refine lv_aload_n hx hb dX10_quote_45 rfl (lv_at hl 1 rfl) ?_
      refine bq_get (q0 := 0) S hK hP fl_X10_13_X10_2 rfl rfl rfl dX10_quote_46 ?_
      refine lv_iload_n hx hb dX10_quote_49 rfl (lv_at hl 2 rfl) ?_
      obtain ⟨g8, h⟩ := bq_gd h
      refine va_iald (D := D) hx hb hK hP 2 0 rfl rfl g8 dX10_quote_50 ?_
      refine lv_iconst (v := (1 : Int32)) hx hb dX10_quote_51 (by decide) ?_
      refine lv_iload_n hx hb dX10_quote_52 rfl (lv_at hl 3 rfl) ?_
      refine lv_ishl hx hb dX10_quote_53 ?_
      refine lv_iconst (v := (-1 : Int32)) hx hb dX10_quote_54 (by decide) ?_
      refine lv_ixor hx hb dX10_quote_55 ?_
      refine lv_iand hx hb dX10_quote_56 ?_
      obtain ⟨g10, h⟩ := bq_gd h
      obtain ⟨x9, hx9, h⟩ := bq_b h
      refine bq_iast (x1 := x9) (q0 := 2) (t0 := 0) S hK hD hP hS rfl rfl g10 (by rw [hx9]; rfl) dX10_quote_57 (fun H locs hP hS => ?_)
      refine lv_iload hx hb dX10_quote_58 (lv_at hl 0 rfl) ?_
      obtain ⟨e1, e2⟩ := Prod.mk.inj (hret _ h)
      exact hR _ _ _ _ _ (congrArg some e1) rfl (by rw [e2]; exact hP) hS dX10_quote_60
    · replace h := (if_neg c7).symm.trans h
      refine lv_aload_n hx hb dX10_quote_32 rfl (lv_at hl 1 rfl) ?_
      refine bq_get (q0 := 0) S hK hP fl_X10_13_X10_2 rfl rfl rfl dX10_quote_33 ?_
      refine lv_iload_n hx hb dX10_quote_36 rfl (lv_at hl 2 rfl) ?_
      obtain ⟨g11, h⟩ := bq_gd h
      refine va_iald (D := D) hx hb hK hP 2 0 rfl rfl g11 dX10_quote_37 ?_
      refine lv_iconst (v := (1 : Int32)) hx hb dX10_quote_38 (by decide) ?_
      refine lv_iload_n hx hb dX10_quote_39 rfl (lv_at hl 3 rfl) ?_
      refine lv_ishl hx hb dX10_quote_40 ?_
      refine lv_ior hx hb dX10_quote_41 ?_
      refine lv_goto (tgt := 57) hx hb dX10_quote_42 (by decide) ?_
      obtain ⟨g13, h⟩ := bq_gd h
      obtain ⟨x12, hx12, h⟩ := bq_b h
      refine bq_iast (x1 := x12) (q0 := 2) (t0 := 0) S hK hD hP hS rfl rfl g13 (by rw [hx12]; rfl) dX10_quote_57 (fun H locs hP hS => ?_)
      refine lv_iload hx hb dX10_quote_58 (lv_at hl 0 rfl) ?_
      obtain ⟨e1, e2⟩ := Prod.mk.inj (hret _ h)
      exact hR _ _ _ _ _ (congrArg some e1) rfl (by rw [e2]; exact hP) hS dX10_quote_60
  · replace h := (if_pos c4).symm.trans h
    refine lv_iconst (v := (-1 : Int32)) hx hb dX10_quote_9 (by decide) ?_
    obtain ⟨e1, e2⟩ := Prod.mk.inj (hret _ h)
    exact hR _ _ _ _ _ (congrArg some e1) rfl (by rw [e2]; exact hP) hS dX10_quote_10
def fX10_hate_j57 (v9 : Int32) (v10 : Int32) (v11 : Int32) (v12 : Int32) (v13 : Int32) (v14 : Int32) (x15 : bq_S) : Option (Int32 × bq_S) :=
  if ok_i v13 8 then
  bd (bq_sI x15 3 v13.toNatClampNeg v14) (fun x16 =>
  if v11 = 0 then
  if ok_i v10 8 then
  if ok_i v10 8 then
  bd (bq_sI x16 3 v10.toNatClampNeg ((x16.1 3 v10.toNatClampNeg) &&& (((1 : Int32) <<< (v9 &&& 31)) ^^^ (-1 : Int32)))) (fun x20 =>
  some (v12, x20))
  else none
  else none
  else
  if ok_i v10 8 then
  if ok_i v10 8 then
  bd (bq_sI x16 3 v10.toNatClampNeg ((x16.1 3 v10.toNatClampNeg) ||| ((1 : Int32) <<< (v9 &&& 31)))) (fun x23 =>
  some (v12, x23))
  else none
  else none)
  else none
def fX10_hate (p1 : Int32) (p2 : Int32) (p3 : Int32) (x0 : bq_S) : Option (Int32 × bq_S) :=
  (fX10_areTwo p1 p2 x0).bind (fun o1 => un2 o1 (fun v3 x2 =>
  if v3 = 0 then
  some ((-1 : Int32), x2)
  else
  if ok_i p1 8 then
  bd (((x2.1 3 p1.toNatClampNeg) >>> (p2 &&& 31)) &&& (1 : Int32)) (fun v6 =>
  if p3 = 0 then
  if ok_i p1 8 then
  fX10_hate_j57  p1 p2 p3 v6 p1 ((x2.1 3 p1.toNatClampNeg) &&& (((1 : Int32) <<< (p2 &&& 31)) ^^^ (-1 : Int32))) x2
  else none
  else
  if ok_i p1 8 then
  fX10_hate_j57  p1 p2 p3 v6 p1 ((x2.1 3 p1.toNatClampNeg) ||| ((1 : Int32) <<< (p2 &&& 31))) x2
  else none)
  else none))
theorem dX10_hate_0 : decode cX10_hate 0 = .ok (.aload_n 0, 1) := by decide +kernel
theorem dX10_hate_1 : decode cX10_hate 1 = .ok (.iload_n 1, 1) := by decide +kernel
theorem dX10_hate_2 : decode cX10_hate 2 = .ok (.iload_n 2, 1) := by decide +kernel
theorem dX10_hate_3 : decode cX10_hate 3 = .ok (.invokevirtual 79, 3) := by decide +kernel
theorem dX10_hate_6 : decode cX10_hate 6 = .ok (.ifCond .ne 5, 3) := by decide +kernel
theorem dX10_hate_9 : decode cX10_hate 9 = .ok (.iconst (-1), 1) := by decide +kernel
theorem dX10_hate_10 : decode cX10_hate 10 = .ok (.ireturn, 1) := by decide +kernel
theorem dX10_hate_11 : decode cX10_hate 11 = .ok (.aload_n 0, 1) := by decide +kernel
theorem dX10_hate_12 : decode cX10_hate 12 = .ok (.getfield 16, 3) := by decide +kernel
theorem dX10_hate_15 : decode cX10_hate 15 = .ok (.iload_n 1, 1) := by decide +kernel
theorem dX10_hate_16 : decode cX10_hate 16 = .ok (.iaload, 1) := by decide +kernel
theorem dX10_hate_17 : decode cX10_hate 17 = .ok (.iload_n 2, 1) := by decide +kernel
theorem dX10_hate_18 : decode cX10_hate 18 = .ok (.ishr, 1) := by decide +kernel
theorem dX10_hate_19 : decode cX10_hate 19 = .ok (.iconst 1, 1) := by decide +kernel
theorem dX10_hate_20 : decode cX10_hate 20 = .ok (.iand, 1) := by decide +kernel
theorem dX10_hate_21 : decode cX10_hate 21 = .ok (.istore 4, 2) := by decide +kernel
theorem dX10_hate_23 : decode cX10_hate 23 = .ok (.aload_n 0, 1) := by decide +kernel
theorem dX10_hate_24 : decode cX10_hate 24 = .ok (.getfield 16, 3) := by decide +kernel
theorem dX10_hate_27 : decode cX10_hate 27 = .ok (.iload_n 1, 1) := by decide +kernel
theorem dX10_hate_28 : decode cX10_hate 28 = .ok (.iload_n 3, 1) := by decide +kernel
theorem dX10_hate_29 : decode cX10_hate 29 = .ok (.ifCond .eq 16, 3) := by decide +kernel
theorem dX10_hate_32 : decode cX10_hate 32 = .ok (.aload_n 0, 1) := by decide +kernel
theorem dX10_hate_33 : decode cX10_hate 33 = .ok (.getfield 16, 3) := by decide +kernel
theorem dX10_hate_36 : decode cX10_hate 36 = .ok (.iload_n 1, 1) := by decide +kernel
theorem dX10_hate_37 : decode cX10_hate 37 = .ok (.iaload, 1) := by decide +kernel
theorem dX10_hate_38 : decode cX10_hate 38 = .ok (.iconst 1, 1) := by decide +kernel
theorem dX10_hate_39 : decode cX10_hate 39 = .ok (.iload_n 2, 1) := by decide +kernel
theorem dX10_hate_40 : decode cX10_hate 40 = .ok (.ishl, 1) := by decide +kernel
theorem dX10_hate_41 : decode cX10_hate 41 = .ok (.ior, 1) := by decide +kernel
theorem dX10_hate_42 : decode cX10_hate 42 = .ok (.goto 15, 3) := by decide +kernel
theorem dX10_hate_45 : decode cX10_hate 45 = .ok (.aload_n 0, 1) := by decide +kernel
theorem dX10_hate_46 : decode cX10_hate 46 = .ok (.getfield 16, 3) := by decide +kernel
theorem dX10_hate_49 : decode cX10_hate 49 = .ok (.iload_n 1, 1) := by decide +kernel
theorem dX10_hate_50 : decode cX10_hate 50 = .ok (.iaload, 1) := by decide +kernel
theorem dX10_hate_51 : decode cX10_hate 51 = .ok (.iconst 1, 1) := by decide +kernel
theorem dX10_hate_52 : decode cX10_hate 52 = .ok (.iload_n 2, 1) := by decide +kernel
theorem dX10_hate_53 : decode cX10_hate 53 = .ok (.ishl, 1) := by decide +kernel
theorem dX10_hate_54 : decode cX10_hate 54 = .ok (.iconst (-1), 1) := by decide +kernel
theorem dX10_hate_55 : decode cX10_hate 55 = .ok (.ixor, 1) := by decide +kernel
theorem dX10_hate_56 : decode cX10_hate 56 = .ok (.iand, 1) := by decide +kernel
theorem dX10_hate_57 : decode cX10_hate 57 = .ok (.iastore, 1) := by decide +kernel
theorem dX10_hate_58 : decode cX10_hate 58 = .ok (.aload_n 0, 1) := by decide +kernel
theorem dX10_hate_59 : decode cX10_hate 59 = .ok (.getfield 16, 3) := by decide +kernel
theorem dX10_hate_62 : decode cX10_hate 62 = .ok (.iload_n 2, 1) := by decide +kernel
theorem dX10_hate_63 : decode cX10_hate 63 = .ok (.iload_n 3, 1) := by decide +kernel
theorem dX10_hate_64 : decode cX10_hate 64 = .ok (.ifCond .eq 16, 3) := by decide +kernel
theorem dX10_hate_67 : decode cX10_hate 67 = .ok (.aload_n 0, 1) := by decide +kernel
theorem dX10_hate_68 : decode cX10_hate 68 = .ok (.getfield 16, 3) := by decide +kernel
theorem dX10_hate_71 : decode cX10_hate 71 = .ok (.iload_n 2, 1) := by decide +kernel
theorem dX10_hate_72 : decode cX10_hate 72 = .ok (.iaload, 1) := by decide +kernel
theorem dX10_hate_73 : decode cX10_hate 73 = .ok (.iconst 1, 1) := by decide +kernel
theorem dX10_hate_74 : decode cX10_hate 74 = .ok (.iload_n 1, 1) := by decide +kernel
theorem dX10_hate_75 : decode cX10_hate 75 = .ok (.ishl, 1) := by decide +kernel
theorem dX10_hate_76 : decode cX10_hate 76 = .ok (.ior, 1) := by decide +kernel
theorem dX10_hate_77 : decode cX10_hate 77 = .ok (.goto 15, 3) := by decide +kernel
theorem dX10_hate_80 : decode cX10_hate 80 = .ok (.aload_n 0, 1) := by decide +kernel
theorem dX10_hate_81 : decode cX10_hate 81 = .ok (.getfield 16, 3) := by decide +kernel
theorem dX10_hate_84 : decode cX10_hate 84 = .ok (.iload_n 2, 1) := by decide +kernel
theorem dX10_hate_85 : decode cX10_hate 85 = .ok (.iaload, 1) := by decide +kernel
theorem dX10_hate_86 : decode cX10_hate 86 = .ok (.iconst 1, 1) := by decide +kernel
theorem dX10_hate_87 : decode cX10_hate 87 = .ok (.iload_n 1, 1) := by decide +kernel
theorem dX10_hate_88 : decode cX10_hate 88 = .ok (.ishl, 1) := by decide +kernel
theorem dX10_hate_89 : decode cX10_hate 89 = .ok (.iconst (-1), 1) := by decide +kernel
theorem dX10_hate_90 : decode cX10_hate 90 = .ok (.ixor, 1) := by decide +kernel
theorem dX10_hate_91 : decode cX10_hate 91 = .ok (.iand, 1) := by decide +kernel
theorem dX10_hate_92 : decode cX10_hate 92 = .ok (.iastore, 1) := by decide +kernel
theorem dX10_hate_93 : decode cX10_hate 93 = .ok (.iload 4, 2) := by decide +kernel
theorem dX10_hate_95 : decode cX10_hate 95 = .ok (.ireturn, 1) := by decide +kernel
set_option maxHeartbeats 4000000 in
set_option maxRecDepth 100000 in
theorem cX10_hate_k_0 {l : Launch} {D : va_G} {a : Nat → Nat} {k : Nat → ClassId} {p1 : Int32} {p2 : Int32} {p3 : Int32} {x0 xz : bq_S} {rz : Int32} (h : fX10_hate  p1 p2 p3 x0 = some (rz, xz)) : bq_M l D bq_cl (bq_ty k) (bq_wM a k) yX10_hate cX10_hate 5 (some .int) { frames := 3, cells := 0, slots := 0, locals := 68 } [.ref (a 0), .int p1, .int p2, .int p3] x0 (some rz) xz := by
  refine bq_ofW RX10 [(0, .ref (a 0)), (1, .int p1), (2, .int p2), (3, .int p3)] (by decide +kernel) rfl (Nat.le_of_ble_eq_true rfl) rfl (bq_adM a k) ?_
  intro p e s m below meth c A Q ls S hK hD hA hR hS hP hl
  have hx := S.1; have hb := S.2.1; have hml := S.2.2.1; have hown := S.2.2.2.1; have hts := S.2.2.2.2
  have hret : ∀ z, some z = some (rz, xz) → (rz, xz) = z := fun z h => (Option.some.inj h).symm
  unfold fX10_hate at h
  have hj57 : ∀ (v9 : Int32) (v10 : Int32) (v11 : Int32) (v12 : Int32) (v13 : Int32) (v14 : Int32) (x15 : bq_S) (H : Heap) (locs : List Loc) (ls : Array Slot), fX10_hate_j57  v9 v10 v11 v12 v13 v14 x15 = some (rz, xz) → va_P D bq_cl (bq_wM a k x15) H → va_S A s.heap H locs → lv_has ls 5 [(0, .ref (a 0)), (1, .int v9), (2, .int v10), (3, .int v11), (4, .int v12)] → W p l e { frames := 3, cells := 0, slots := 0, locals := 68 } s m [.ref (a 0), .int p1, .int p2, .int p3].toArray below meth c H locs 0 0 Q (F0 m 57 ls [.int v14, .int v13, .ref (a 3)]) := by
    intro v9 v10 v11 v12 v13 v14 x15 H locs ls h hP hS hl
    unfold fX10_hate_j57 at h
    obtain ⟨g17, h⟩ := bq_gd h
    obtain ⟨x16, hx16, h⟩ := bq_b h
    refine bq_iast (x1 := x16) (q0 := 3) (t0 := 0) S hK hD hP hS rfl rfl g17 (by rw [hx16]; rfl) dX10_hate_57 (fun H locs hP hS => ?_)
    refine lv_aload_n hx hb dX10_hate_58 rfl (lv_at hl 0 rfl) ?_
    refine bq_get (q0 := 0) S hK hP fl_X10_16_X10_3 rfl rfl rfl dX10_hate_59 ?_
    refine lv_iload_n hx hb dX10_hate_62 rfl (lv_at hl 2 rfl) ?_
    refine lv_iload_n hx hb dX10_hate_63 rfl (lv_at hl 3 rfl) ?_
    refine lv_if_eq (tgt := 80) hx hb dX10_hate_64 (by decide) (fun c18 => ?_) (fun c18 => ?_)
    · replace h := (if_pos c18).symm.trans h
      refine lv_aload_n hx hb dX10_hate_80 rfl (lv_at hl 0 rfl) ?_
      refine bq_get (q0 := 0) S hK hP fl_X10_16_X10_3 rfl rfl rfl dX10_hate_81 ?_
      refine lv_iload_n hx hb dX10_hate_84 rfl (lv_at hl 2 rfl) ?_
      obtain ⟨g19, h⟩ := bq_gd h
      refine va_iald (D := D) hx hb hK hP 3 0 rfl rfl g19 dX10_hate_85 ?_
      refine lv_iconst (v := (1 : Int32)) hx hb dX10_hate_86 (by decide) ?_
      refine lv_iload_n hx hb dX10_hate_87 rfl (lv_at hl 1 rfl) ?_
      refine lv_ishl hx hb dX10_hate_88 ?_
      refine lv_iconst (v := (-1 : Int32)) hx hb dX10_hate_89 (by decide) ?_
      refine lv_ixor hx hb dX10_hate_90 ?_
      refine lv_iand hx hb dX10_hate_91 ?_
      obtain ⟨g21, h⟩ := bq_gd h
      obtain ⟨x20, hx20, h⟩ := bq_b h
      refine bq_iast (x1 := x20) (q0 := 3) (t0 := 0) S hK hD hP hS rfl rfl g21 (by rw [hx20]; rfl) dX10_hate_92 (fun H locs hP hS => ?_)
      refine lv_iload hx hb dX10_hate_93 (lv_at hl 4 rfl) ?_
      obtain ⟨e1, e2⟩ := Prod.mk.inj (hret _ h)
      exact hR _ _ _ _ _ (congrArg some e1) rfl (by rw [e2]; exact hP) hS dX10_hate_95
    · replace h := (if_neg c18).symm.trans h
      refine lv_aload_n hx hb dX10_hate_67 rfl (lv_at hl 0 rfl) ?_
      refine bq_get (q0 := 0) S hK hP fl_X10_16_X10_3 rfl rfl rfl dX10_hate_68 ?_
      refine lv_iload_n hx hb dX10_hate_71 rfl (lv_at hl 2 rfl) ?_
      obtain ⟨g22, h⟩ := bq_gd h
      refine va_iald (D := D) hx hb hK hP 3 0 rfl rfl g22 dX10_hate_72 ?_
      refine lv_iconst (v := (1 : Int32)) hx hb dX10_hate_73 (by decide) ?_
      refine lv_iload_n hx hb dX10_hate_74 rfl (lv_at hl 1 rfl) ?_
      refine lv_ishl hx hb dX10_hate_75 ?_
      refine lv_ior hx hb dX10_hate_76 ?_
      refine lv_goto (tgt := 92) hx hb dX10_hate_77 (by decide) ?_
      obtain ⟨g24, h⟩ := bq_gd h
      obtain ⟨x23, hx23, h⟩ := bq_b h
      refine bq_iast (x1 := x23) (q0 := 3) (t0 := 0) S hK hD hP hS rfl rfl g24 (by rw [hx23]; rfl) dX10_hate_92 (fun H locs hP hS => ?_)
      refine lv_iload hx hb dX10_hate_93 (lv_at hl 4 rfl) ?_
      obtain ⟨e1, e2⟩ := Prod.mk.inj (hret _ h)
      exact hR _ _ _ _ _ (congrArg some e1) rfl (by rw [e2]; exact hP) hS dX10_hate_95
  refine lv_aload_n hx hb dX10_hate_0 rfl (lv_at hl 0 rfl) ?_
  refine lv_iload_n hx hb dX10_hate_1 rfl (lv_at hl 1 rfl) ?_
  refine lv_iload_n hx hb dX10_hate_2 rfl (lv_at hl 2 rfl) ?_
  obtain ⟨o1, ho1, h⟩ := Option.bind_eq_some_iff.mp h
  obtain ⟨v3, x2⟩ := o1
  replace h := un2_e h
  refine bq_callVi (q0 := 0) (As := [.int _, .int _]) S hK hD hA hP hS (cX10_areTwo_k_0 ho1) hd_yX10_areTwo ml_X10_79 in_yX10_areTwo (hts _ sl_X10_X10_yX10_areTwo) ⟨rfl, rfl⟩ ⟨by decide, by decide⟩ rfl rfl rfl hl.1 rfl (Nat.le_of_ble_eq_true rfl) ⟨Nat.zero_le _, Nat.zero_le _⟩ dX10_hate_3 (fun H locs hP hS => ?_)
  refine lv_if_ne (tgt := 11) hx hb dX10_hate_6 (by decide) (fun c4 => ?_) (fun c4 => ?_)
  · replace h := (if_neg c4).symm.trans h
    refine lv_aload_n hx hb dX10_hate_11 rfl (lv_at hl 0 rfl) ?_
    refine bq_get (q0 := 0) S hK hP fl_X10_16_X10_3 rfl rfl rfl dX10_hate_12 ?_
    refine lv_iload_n hx hb dX10_hate_15 rfl (lv_at hl 1 rfl) ?_
    obtain ⟨g5, h⟩ := bq_gd h
    refine va_iald (D := D) hx hb hK hP 3 0 rfl rfl g5 dX10_hate_16 ?_
    refine lv_iload_n hx hb dX10_hate_17 rfl (lv_at hl 2 rfl) ?_
    refine lv_ishr hx hb dX10_hate_18 ?_
    refine lv_iconst (v := (1 : Int32)) hx hb dX10_hate_19 (by decide) ?_
    refine lv_iand hx hb dX10_hate_20 ?_
    refine lv_topi (fun v6 hv6 => ?_)
    replace h := bq_bv h hv6
    refine lv_istore (lv' := [(4, .int v6), (0, .ref (a 0)), (1, .int p1), (2, .int p2), (3, .int p3)]) hx hb dX10_hate_21 hl (by decide) rfl (fun ls hl => ?_)
    refine lv_aload_n hx hb dX10_hate_23 rfl (lv_at hl 1 rfl) ?_
    refine bq_get (q0 := 0) S hK hP fl_X10_16_X10_3 rfl rfl rfl dX10_hate_24 ?_
    refine lv_iload_n hx hb dX10_hate_27 rfl (lv_at hl 2 rfl) ?_
    refine lv_iload_n hx hb dX10_hate_28 rfl (lv_at hl 4 rfl) ?_
    refine lv_if_eq (tgt := 45) hx hb dX10_hate_29 (by decide) (fun c7 => ?_) (fun c7 => ?_)
    · replace h := (if_pos c7).symm.trans h
      refine lv_aload_n hx hb dX10_hate_45 rfl (lv_at hl 1 rfl) ?_
      refine bq_get (q0 := 0) S hK hP fl_X10_16_X10_3 rfl rfl rfl dX10_hate_46 ?_
      refine lv_iload_n hx hb dX10_hate_49 rfl (lv_at hl 2 rfl) ?_
      obtain ⟨g8, h⟩ := bq_gd h
      refine va_iald (D := D) hx hb hK hP 3 0 rfl rfl g8 dX10_hate_50 ?_
      refine lv_iconst (v := (1 : Int32)) hx hb dX10_hate_51 (by decide) ?_
      refine lv_iload_n hx hb dX10_hate_52 rfl (lv_at hl 3 rfl) ?_
      refine lv_ishl hx hb dX10_hate_53 ?_
      refine lv_iconst (v := (-1 : Int32)) hx hb dX10_hate_54 (by decide) ?_
      refine lv_ixor hx hb dX10_hate_55 ?_
      refine lv_iand hx hb dX10_hate_56 ?_
      exact hj57 _ _ _ _ _ _ _ _ _ _ h hP hS (lv_sub hl [1, 2, 3, 4, 0] rfl)
    · replace h := (if_neg c7).symm.trans h
      refine lv_aload_n hx hb dX10_hate_32 rfl (lv_at hl 1 rfl) ?_
      refine bq_get (q0 := 0) S hK hP fl_X10_16_X10_3 rfl rfl rfl dX10_hate_33 ?_
      refine lv_iload_n hx hb dX10_hate_36 rfl (lv_at hl 2 rfl) ?_
      obtain ⟨g25, h⟩ := bq_gd h
      refine va_iald (D := D) hx hb hK hP 3 0 rfl rfl g25 dX10_hate_37 ?_
      refine lv_iconst (v := (1 : Int32)) hx hb dX10_hate_38 (by decide) ?_
      refine lv_iload_n hx hb dX10_hate_39 rfl (lv_at hl 3 rfl) ?_
      refine lv_ishl hx hb dX10_hate_40 ?_
      refine lv_ior hx hb dX10_hate_41 ?_
      refine lv_goto (tgt := 57) hx hb dX10_hate_42 (by decide) ?_
      exact hj57 _ _ _ _ _ _ _ _ _ _ h hP hS (lv_sub hl [1, 2, 3, 4, 0] rfl)
  · replace h := (if_pos c4).symm.trans h
    refine lv_iconst (v := (-1 : Int32)) hx hb dX10_hate_9 (by decide) ?_
    obtain ⟨e1, e2⟩ := Prod.mk.inj (hret _ h)
    exact hR _ _ _ _ _ (congrArg some e1) rfl (by rw [e2]; exact hP) hS dX10_hate_10
def fX10_prop (p1 : Int32) (p2 : Int32) (x0 : bq_S) : Option (Int32 × bq_S) :=
  (fX10_isBook p1 x0).bind (fun o1 => un2 o1 (fun v3 x2 =>
  if v3 = 0 then
  some ((-1 : Int32), x2)
  else
  bd (((x2.1 0 4) >>> (p1 &&& 31)) &&& (1 : Int32)) (fun v5 =>
  if p2 = 0 then
  bd (bq_sI x2 0 4 ((x2.1 0 4) &&& (((1 : Int32) <<< (p1 &&& 31)) ^^^ (-1 : Int32)))) (fun x7 =>
  some (v5, x7))
  else
  bd (bq_sI x2 0 4 ((x2.1 0 4) ||| ((1 : Int32) <<< (p1 &&& 31)))) (fun x8 =>
  some (v5, x8)))))
theorem dX10_prop_0 : decode cX10_prop 0 = .ok (.aload_n 0, 1) := by decide +kernel
theorem dX10_prop_1 : decode cX10_prop 1 = .ok (.iload_n 1, 1) := by decide +kernel
theorem dX10_prop_2 : decode cX10_prop 2 = .ok (.invokevirtual 70, 3) := by decide +kernel
theorem dX10_prop_5 : decode cX10_prop 5 = .ok (.ifCond .ne 5, 3) := by decide +kernel
theorem dX10_prop_8 : decode cX10_prop 8 = .ok (.iconst (-1), 1) := by decide +kernel
theorem dX10_prop_9 : decode cX10_prop 9 = .ok (.ireturn, 1) := by decide +kernel
theorem dX10_prop_10 : decode cX10_prop 10 = .ok (.aload_n 0, 1) := by decide +kernel
theorem dX10_prop_11 : decode cX10_prop 11 = .ok (.getfield 76, 3) := by decide +kernel
theorem dX10_prop_14 : decode cX10_prop 14 = .ok (.iload_n 1, 1) := by decide +kernel
theorem dX10_prop_15 : decode cX10_prop 15 = .ok (.ishr, 1) := by decide +kernel
theorem dX10_prop_16 : decode cX10_prop 16 = .ok (.iconst 1, 1) := by decide +kernel
theorem dX10_prop_17 : decode cX10_prop 17 = .ok (.iand, 1) := by decide +kernel
theorem dX10_prop_18 : decode cX10_prop 18 = .ok (.istore_n 3, 1) := by decide +kernel
theorem dX10_prop_19 : decode cX10_prop 19 = .ok (.aload_n 0, 1) := by decide +kernel
theorem dX10_prop_20 : decode cX10_prop 20 = .ok (.iload_n 2, 1) := by decide +kernel
theorem dX10_prop_21 : decode cX10_prop 21 = .ok (.ifCond .eq 14, 3) := by decide +kernel
theorem dX10_prop_24 : decode cX10_prop 24 = .ok (.aload_n 0, 1) := by decide +kernel
theorem dX10_prop_25 : decode cX10_prop 25 = .ok (.getfield 76, 3) := by decide +kernel
theorem dX10_prop_28 : decode cX10_prop 28 = .ok (.iconst 1, 1) := by decide +kernel
theorem dX10_prop_29 : decode cX10_prop 29 = .ok (.iload_n 1, 1) := by decide +kernel
theorem dX10_prop_30 : decode cX10_prop 30 = .ok (.ishl, 1) := by decide +kernel
theorem dX10_prop_31 : decode cX10_prop 31 = .ok (.ior, 1) := by decide +kernel
theorem dX10_prop_32 : decode cX10_prop 32 = .ok (.goto 13, 3) := by decide +kernel
theorem dX10_prop_35 : decode cX10_prop 35 = .ok (.aload_n 0, 1) := by decide +kernel
theorem dX10_prop_36 : decode cX10_prop 36 = .ok (.getfield 76, 3) := by decide +kernel
theorem dX10_prop_39 : decode cX10_prop 39 = .ok (.iconst 1, 1) := by decide +kernel
theorem dX10_prop_40 : decode cX10_prop 40 = .ok (.iload_n 1, 1) := by decide +kernel
theorem dX10_prop_41 : decode cX10_prop 41 = .ok (.ishl, 1) := by decide +kernel
theorem dX10_prop_42 : decode cX10_prop 42 = .ok (.iconst (-1), 1) := by decide +kernel
theorem dX10_prop_43 : decode cX10_prop 43 = .ok (.ixor, 1) := by decide +kernel
theorem dX10_prop_44 : decode cX10_prop 44 = .ok (.iand, 1) := by decide +kernel
theorem dX10_prop_45 : decode cX10_prop 45 = .ok (.putfield 76, 3) := by decide +kernel
theorem dX10_prop_48 : decode cX10_prop 48 = .ok (.iload_n 3, 1) := by decide +kernel
theorem dX10_prop_49 : decode cX10_prop 49 = .ok (.ireturn, 1) := by decide +kernel
set_option maxHeartbeats 4000000 in
set_option maxRecDepth 100000 in
theorem cX10_prop_k_0 {l : Launch} {D : va_G} {a : Nat → Nat} {k : Nat → ClassId} {p1 : Int32} {p2 : Int32} {x0 xz : bq_S} {rz : Int32} (h : fX10_prop  p1 p2 x0 = some (rz, xz)) : bq_M l D bq_cl (bq_ty k) (bq_wM a k) yX10_prop cX10_prop 4 (some .int) { frames := 2, cells := 0, slots := 0, locals := 46 } [.ref (a 0), .int p1, .int p2] x0 (some rz) xz := by
  refine bq_ofW RX10 [(0, .ref (a 0)), (1, .int p1), (2, .int p2)] (by decide +kernel) rfl (Nat.le_of_ble_eq_true rfl) rfl (bq_adM a k) ?_
  intro p e s m below meth c A Q ls S hK hD hA hR hS hP hl
  have hx := S.1; have hb := S.2.1; have hml := S.2.2.1; have hown := S.2.2.2.1; have hts := S.2.2.2.2
  have hret : ∀ z, some z = some (rz, xz) → (rz, xz) = z := fun z h => (Option.some.inj h).symm
  unfold fX10_prop at h
  refine lv_aload_n hx hb dX10_prop_0 rfl (lv_at hl 0 rfl) ?_
  refine lv_iload_n hx hb dX10_prop_1 rfl (lv_at hl 1 rfl) ?_
  obtain ⟨o1, ho1, h⟩ := Option.bind_eq_some_iff.mp h
  obtain ⟨v3, x2⟩ := o1
  replace h := un2_e h
  refine bq_callVi (q0 := 0) (As := [.int _]) S hK hD hA hP hS (cX10_isBook_k_0 ho1) hd_yX10_isBook ml_X10_70 in_yX10_isBook (hts _ sl_X10_X10_yX10_isBook) ⟨rfl, rfl⟩ ⟨by decide, by decide⟩ rfl rfl rfl hl.1 rfl (Nat.le_of_ble_eq_true rfl) ⟨Nat.zero_le _, Nat.zero_le _⟩ dX10_prop_2 (fun H locs hP hS => ?_)
  refine lv_if_ne (tgt := 10) hx hb dX10_prop_5 (by decide) (fun c4 => ?_) (fun c4 => ?_)
  · replace h := (if_neg c4).symm.trans h
    refine lv_aload_n hx hb dX10_prop_10 rfl (lv_at hl 0 rfl) ?_
    refine bq_get (q0 := 0) S hK hP fl_X10_76_X10_4 rfl rfl rfl dX10_prop_11 ?_
    refine lv_iload_n hx hb dX10_prop_14 rfl (lv_at hl 1 rfl) ?_
    refine lv_ishr hx hb dX10_prop_15 ?_
    refine lv_iconst (v := (1 : Int32)) hx hb dX10_prop_16 (by decide) ?_
    refine lv_iand hx hb dX10_prop_17 ?_
    refine lv_topi (fun v5 hv5 => ?_)
    replace h := bq_bv h hv5
    refine lv_istore_n (lv' := [(3, .int v5), (0, .ref (a 0)), (1, .int p1), (2, .int p2)]) hx hb dX10_prop_18 rfl hl (by decide) rfl (fun ls hl => ?_)
    refine lv_aload_n hx hb dX10_prop_19 rfl (lv_at hl 1 rfl) ?_
    refine lv_iload_n hx hb dX10_prop_20 rfl (lv_at hl 3 rfl) ?_
    refine lv_if_eq (tgt := 35) hx hb dX10_prop_21 (by decide) (fun c6 => ?_) (fun c6 => ?_)
    · replace h := (if_pos c6).symm.trans h
      refine lv_aload_n hx hb dX10_prop_35 rfl (lv_at hl 1 rfl) ?_
      refine bq_get (q0 := 0) S hK hP fl_X10_76_X10_4 rfl rfl rfl dX10_prop_36 ?_
      refine lv_iconst (v := (1 : Int32)) hx hb dX10_prop_39 (by decide) ?_
      refine lv_iload_n hx hb dX10_prop_40 rfl (lv_at hl 2 rfl) ?_
      refine lv_ishl hx hb dX10_prop_41 ?_
      refine lv_iconst (v := (-1 : Int32)) hx hb dX10_prop_42 (by decide) ?_
      refine lv_ixor hx hb dX10_prop_43 ?_
      refine lv_iand hx hb dX10_prop_44 ?_
      obtain ⟨x7, hx7, h⟩ := bq_b h
      refine bq_put (x1 := x7) (q0 := 0) (ty := .int) S hK hD hP hS fl_X10_76_X10_4 bt_X10 rfl (by decide +kernel) rfl rfl (Nat.le_of_ble_eq_true rfl) rfl rfl (by rw [hx7]; rfl) dX10_prop_45 (fun H locs hP hS => ?_)
      refine lv_iload_n hx hb dX10_prop_48 rfl (lv_at hl 0 rfl) ?_
      obtain ⟨e1, e2⟩ := Prod.mk.inj (hret _ h)
      exact hR _ _ _ _ _ (congrArg some e1) rfl (by rw [e2]; exact hP) hS dX10_prop_49
    · replace h := (if_neg c6).symm.trans h
      refine lv_aload_n hx hb dX10_prop_24 rfl (lv_at hl 1 rfl) ?_
      refine bq_get (q0 := 0) S hK hP fl_X10_76_X10_4 rfl rfl rfl dX10_prop_25 ?_
      refine lv_iconst (v := (1 : Int32)) hx hb dX10_prop_28 (by decide) ?_
      refine lv_iload_n hx hb dX10_prop_29 rfl (lv_at hl 2 rfl) ?_
      refine lv_ishl hx hb dX10_prop_30 ?_
      refine lv_ior hx hb dX10_prop_31 ?_
      refine lv_goto (tgt := 45) hx hb dX10_prop_32 (by decide) ?_
      obtain ⟨x8, hx8, h⟩ := bq_b h
      refine bq_put (x1 := x8) (q0 := 0) (ty := .int) S hK hD hP hS fl_X10_76_X10_4 bt_X10 rfl (by decide +kernel) rfl rfl (Nat.le_of_ble_eq_true rfl) rfl rfl (by rw [hx8]; rfl) dX10_prop_45 (fun H locs hP hS => ?_)
      refine lv_iload_n hx hb dX10_prop_48 rfl (lv_at hl 0 rfl) ?_
      obtain ⟨e1, e2⟩ := Prod.mk.inj (hret _ h)
      exact hR _ _ _ _ _ (congrArg some e1) rfl (by rw [e2]; exact hP) hS dX10_prop_49
  · replace h := (if_pos c4).symm.trans h
    refine lv_iconst (v := (-1 : Int32)) hx hb dX10_prop_8 (by decide) ?_
    obtain ⟨e1, e2⟩ := Prod.mk.inj (hret _ h)
    exact hR _ _ _ _ _ (congrArg some e1) rfl (by rw [e2]; exact hP) hS dX10_prop_9
def fX10_thick (p1 : Int32) (p2 : Int32) (x0 : bq_S) : Option (Int32 × bq_S) :=
  (fX10_isBook p1 x0).bind (fun o1 => un2 o1 (fun v3 x2 =>
  if v3 = 0 then
  some ((-1 : Int32), x2)
  else
  (fX10_in p2.toInt64 (1 : Int64) (9 : Int64) x2).bind (fun o5 => un2 o5 (fun v7 x6 =>
  if v7 = 0 then
  some ((-1 : Int32), x6)
  else
  if ok_i p1 8 then
  bd (x6.1 1 p1.toNatClampNeg) (fun v10 =>
  if ok_i p1 8 then
  bd (bq_sI x6 1 p1.toNatClampNeg p2) (fun x11 =>
  some (v10, x11))
  else none)
  else none))))
theorem dX10_thick_0 : decode cX10_thick 0 = .ok (.aload_n 0, 1) := by decide +kernel
theorem dX10_thick_1 : decode cX10_thick 1 = .ok (.iload_n 1, 1) := by decide +kernel
theorem dX10_thick_2 : decode cX10_thick 2 = .ok (.invokevirtual 70, 3) := by decide +kernel
theorem dX10_thick_5 : decode cX10_thick 5 = .ok (.ifCond .eq 15, 3) := by decide +kernel
theorem dX10_thick_8 : decode cX10_thick 8 = .ok (.iload_n 2, 1) := by decide +kernel
theorem dX10_thick_9 : decode cX10_thick 9 = .ok (.i2l, 1) := by decide +kernel
theorem dX10_thick_10 : decode cX10_thick 10 = .ok (.lconst 1, 1) := by decide +kernel
theorem dX10_thick_11 : decode cX10_thick 11 = .ok (.ldc2_w 74, 3) := by decide +kernel
theorem dX10_thick_14 : decode cX10_thick 14 = .ok (.invokestatic 66, 3) := by decide +kernel
theorem dX10_thick_17 : decode cX10_thick 17 = .ok (.ifCond .ne 5, 3) := by decide +kernel
theorem dX10_thick_20 : decode cX10_thick 20 = .ok (.iconst (-1), 1) := by decide +kernel
theorem dX10_thick_21 : decode cX10_thick 21 = .ok (.ireturn, 1) := by decide +kernel
theorem dX10_thick_22 : decode cX10_thick 22 = .ok (.aload_n 0, 1) := by decide +kernel
theorem dX10_thick_23 : decode cX10_thick 23 = .ok (.getfield 7, 3) := by decide +kernel
theorem dX10_thick_26 : decode cX10_thick 26 = .ok (.iload_n 1, 1) := by decide +kernel
theorem dX10_thick_27 : decode cX10_thick 27 = .ok (.iaload, 1) := by decide +kernel
theorem dX10_thick_28 : decode cX10_thick 28 = .ok (.istore_n 3, 1) := by decide +kernel
theorem dX10_thick_29 : decode cX10_thick 29 = .ok (.aload_n 0, 1) := by decide +kernel
theorem dX10_thick_30 : decode cX10_thick 30 = .ok (.getfield 7, 3) := by decide +kernel
theorem dX10_thick_33 : decode cX10_thick 33 = .ok (.iload_n 1, 1) := by decide +kernel
theorem dX10_thick_34 : decode cX10_thick 34 = .ok (.iload_n 2, 1) := by decide +kernel
theorem dX10_thick_35 : decode cX10_thick 35 = .ok (.iastore, 1) := by decide +kernel
theorem dX10_thick_36 : decode cX10_thick 36 = .ok (.iload_n 3, 1) := by decide +kernel
theorem dX10_thick_37 : decode cX10_thick 37 = .ok (.ireturn, 1) := by decide +kernel
set_option maxHeartbeats 4000000 in
set_option maxRecDepth 100000 in
theorem cX10_thick_k_0 {l : Launch} {D : va_G} {a : Nat → Nat} {k : Nat → ClassId} {p1 : Int32} {p2 : Int32} {x0 xz : bq_S} {rz : Int32} (h : fX10_thick  p1 p2 x0 = some (rz, xz)) : bq_M l D bq_cl (bq_ty k) (bq_wM a k) yX10_thick cX10_thick 4 (some .int) { frames := 2, cells := 0, slots := 0, locals := 46 } [.ref (a 0), .int p1, .int p2] x0 (some rz) xz := by
  refine bq_ofW RX10 [(0, .ref (a 0)), (1, .int p1), (2, .int p2)] (by decide +kernel) rfl (Nat.le_of_ble_eq_true rfl) rfl (bq_adM a k) ?_
  intro p e s m below meth c A Q ls S hK hD hA hR hS hP hl
  have hx := S.1; have hb := S.2.1; have hml := S.2.2.1; have hown := S.2.2.2.1; have hts := S.2.2.2.2
  have hret : ∀ z, some z = some (rz, xz) → (rz, xz) = z := fun z h => (Option.some.inj h).symm
  unfold fX10_thick at h
  refine lv_aload_n hx hb dX10_thick_0 rfl (lv_at hl 0 rfl) ?_
  refine lv_iload_n hx hb dX10_thick_1 rfl (lv_at hl 1 rfl) ?_
  obtain ⟨o1, ho1, h⟩ := Option.bind_eq_some_iff.mp h
  obtain ⟨v3, x2⟩ := o1
  replace h := un2_e h
  refine bq_callVi (q0 := 0) (As := [.int _]) S hK hD hA hP hS (cX10_isBook_k_0 ho1) hd_yX10_isBook ml_X10_70 in_yX10_isBook (hts _ sl_X10_X10_yX10_isBook) ⟨rfl, rfl⟩ ⟨by decide, by decide⟩ rfl rfl rfl hl.1 rfl (Nat.le_of_ble_eq_true rfl) ⟨Nat.zero_le _, Nat.zero_le _⟩ dX10_thick_2 (fun H locs hP hS => ?_)
  refine lv_if_eq (tgt := 20) hx hb dX10_thick_5 (by decide) (fun c4 => ?_) (fun c4 => ?_)
  · replace h := (if_pos c4).symm.trans h
    refine lv_iconst (v := (-1 : Int32)) hx hb dX10_thick_20 (by decide) ?_
    obtain ⟨e1, e2⟩ := Prod.mk.inj (hret _ h)
    exact hR _ _ _ _ _ (congrArg some e1) rfl (by rw [e2]; exact hP) hS dX10_thick_21
  · replace h := (if_neg c4).symm.trans h
    refine lv_iload_n hx hb dX10_thick_8 rfl (lv_at hl 2 rfl) ?_
    refine lv_i2l hx hb dX10_thick_9 rfl ?_
    refine lv_lconst (v := (1 : Int64)) hx hb dX10_thick_10 (by decide) ?_
    refine lv_ldc2 hx hb hown (hts _ kl_X10_74) dX10_thick_11 ?_
    obtain ⟨o5, ho5, h⟩ := Option.bind_eq_some_iff.mp h
    obtain ⟨v7, x6⟩ := o5
    replace h := un2_e h
    refine bq_callSi (As := [.long _, .long _, .long _]) S hK hD hA hP hS (cX10_in_k ho5) hd_yX10_in ml_X10_66 st_yX10_in ⟨rfl, rfl⟩ ⟨by decide, by decide⟩ rfl hl.1 rfl (Nat.le_of_ble_eq_true rfl) ⟨Nat.zero_le _, Nat.zero_le _⟩ dX10_thick_14 (fun H locs hP hS => ?_)
    refine lv_if_ne (tgt := 22) hx hb dX10_thick_17 (by decide) (fun c8 => ?_) (fun c8 => ?_)
    · replace h := (if_neg c8).symm.trans h
      refine lv_aload_n hx hb dX10_thick_22 rfl (lv_at hl 0 rfl) ?_
      refine bq_get (q0 := 0) S hK hP fl_X10_7_X10_1 rfl rfl rfl dX10_thick_23 ?_
      refine lv_iload_n hx hb dX10_thick_26 rfl (lv_at hl 1 rfl) ?_
      obtain ⟨g9, h⟩ := bq_gd h
      refine va_iald (D := D) hx hb hK hP 1 0 rfl rfl g9 dX10_thick_27 ?_
      refine lv_topi (fun v10 hv10 => ?_)
      replace h := bq_bv h hv10
      refine lv_istore_n (lv' := [(3, .int v10), (0, .ref (a 0)), (1, .int p1), (2, .int p2)]) hx hb dX10_thick_28 rfl hl (by decide) rfl (fun ls hl => ?_)
      refine lv_aload_n hx hb dX10_thick_29 rfl (lv_at hl 1 rfl) ?_
      refine bq_get (q0 := 0) S hK hP fl_X10_7_X10_1 rfl rfl rfl dX10_thick_30 ?_
      refine lv_iload_n hx hb dX10_thick_33 rfl (lv_at hl 2 rfl) ?_
      refine lv_iload_n hx hb dX10_thick_34 rfl (lv_at hl 3 rfl) ?_
      obtain ⟨g12, h⟩ := bq_gd h
      obtain ⟨x11, hx11, h⟩ := bq_b h
      refine bq_iast (x1 := x11) (q0 := 1) (t0 := 0) S hK hD hP hS rfl rfl g12 (by rw [hx11]; rfl) dX10_thick_35 (fun H locs hP hS => ?_)
      refine lv_iload_n hx hb dX10_thick_36 rfl (lv_at hl 0 rfl) ?_
      obtain ⟨e1, e2⟩ := Prod.mk.inj (hret _ h)
      exact hR _ _ _ _ _ (congrArg some e1) rfl (by rw [e2]; exact hP) hS dX10_thick_37
    · replace h := (if_pos c8).symm.trans h
      refine lv_iconst (v := (-1 : Int32)) hx hb dX10_thick_20 (by decide) ?_
      obtain ⟨e1, e2⟩ := Prod.mk.inj (hret _ h)
      exact hR _ _ _ _ _ (congrArg some e1) rfl (by rw [e2]; exact hP) hS dX10_thick_21
def fX10_rule (p1 : Int32) (p2 : Int32) (x0 : bq_S) : Option (Int32 × bq_S) :=
  (fX10_in p1.toInt64 (0 : Int64) (1 : Int64) x0).bind (fun o1 => un2 o1 (fun v3 x2 =>
  if v3 = 0 then
  some ((-1 : Int32), x2)
  else
  (fX10_in p2.toInt64 (0 : Int64) (1 : Int64) x2).bind (fun o5 => un2 o5 (fun v7 x6 =>
  if v7 = 0 then
  some ((-1 : Int32), x6)
  else
  if ok_i p1 2 then
  bd (x6.1 4 p1.toNatClampNeg) (fun v10 =>
  if ok_i p1 2 then
  bd (bq_sI x6 4 p1.toNatClampNeg p2) (fun x11 =>
  some (v10, x11))
  else none)
  else none))))
theorem dX10_rule_0 : decode cX10_rule 0 = .ok (.iload_n 1, 1) := by decide +kernel
theorem dX10_rule_1 : decode cX10_rule 1 = .ok (.i2l, 1) := by decide +kernel
theorem dX10_rule_2 : decode cX10_rule 2 = .ok (.lconst 0, 1) := by decide +kernel
theorem dX10_rule_3 : decode cX10_rule 3 = .ok (.lconst 1, 1) := by decide +kernel
theorem dX10_rule_4 : decode cX10_rule 4 = .ok (.invokestatic 66, 3) := by decide +kernel
theorem dX10_rule_7 : decode cX10_rule 7 = .ok (.ifCond .eq 13, 3) := by decide +kernel
theorem dX10_rule_10 : decode cX10_rule 10 = .ok (.iload_n 2, 1) := by decide +kernel
theorem dX10_rule_11 : decode cX10_rule 11 = .ok (.i2l, 1) := by decide +kernel
theorem dX10_rule_12 : decode cX10_rule 12 = .ok (.lconst 0, 1) := by decide +kernel
theorem dX10_rule_13 : decode cX10_rule 13 = .ok (.lconst 1, 1) := by decide +kernel
theorem dX10_rule_14 : decode cX10_rule 14 = .ok (.invokestatic 66, 3) := by decide +kernel
theorem dX10_rule_17 : decode cX10_rule 17 = .ok (.ifCond .ne 5, 3) := by decide +kernel
theorem dX10_rule_20 : decode cX10_rule 20 = .ok (.iconst (-1), 1) := by decide +kernel
theorem dX10_rule_21 : decode cX10_rule 21 = .ok (.ireturn, 1) := by decide +kernel
theorem dX10_rule_22 : decode cX10_rule 22 = .ok (.aload_n 0, 1) := by decide +kernel
theorem dX10_rule_23 : decode cX10_rule 23 = .ok (.getfield 19, 3) := by decide +kernel
theorem dX10_rule_26 : decode cX10_rule 26 = .ok (.iload_n 1, 1) := by decide +kernel
theorem dX10_rule_27 : decode cX10_rule 27 = .ok (.iaload, 1) := by decide +kernel
theorem dX10_rule_28 : decode cX10_rule 28 = .ok (.istore_n 3, 1) := by decide +kernel
theorem dX10_rule_29 : decode cX10_rule 29 = .ok (.aload_n 0, 1) := by decide +kernel
theorem dX10_rule_30 : decode cX10_rule 30 = .ok (.getfield 19, 3) := by decide +kernel
theorem dX10_rule_33 : decode cX10_rule 33 = .ok (.iload_n 1, 1) := by decide +kernel
theorem dX10_rule_34 : decode cX10_rule 34 = .ok (.iload_n 2, 1) := by decide +kernel
theorem dX10_rule_35 : decode cX10_rule 35 = .ok (.iastore, 1) := by decide +kernel
theorem dX10_rule_36 : decode cX10_rule 36 = .ok (.iload_n 3, 1) := by decide +kernel
theorem dX10_rule_37 : decode cX10_rule 37 = .ok (.ireturn, 1) := by decide +kernel
set_option maxHeartbeats 4000000 in
set_option maxRecDepth 100000 in
theorem cX10_rule_k_0 {l : Launch} {D : va_G} {a : Nat → Nat} {k : Nat → ClassId} {p1 : Int32} {p2 : Int32} {x0 xz : bq_S} {rz : Int32} (h : fX10_rule  p1 p2 x0 = some (rz, xz)) : bq_M l D bq_cl (bq_ty k) (bq_wM a k) yX10_rule cX10_rule 4 (some .int) { frames := 1, cells := 0, slots := 0, locals := 25 } [.ref (a 0), .int p1, .int p2] x0 (some rz) xz := by
  refine bq_ofW RX10 [(0, .ref (a 0)), (1, .int p1), (2, .int p2)] (by decide +kernel) rfl (Nat.le_of_ble_eq_true rfl) rfl (bq_adM a k) ?_
  intro p e s m below meth c A Q ls S hK hD hA hR hS hP hl
  have hx := S.1; have hb := S.2.1; have hml := S.2.2.1; have hown := S.2.2.2.1; have hts := S.2.2.2.2
  have hret : ∀ z, some z = some (rz, xz) → (rz, xz) = z := fun z h => (Option.some.inj h).symm
  unfold fX10_rule at h
  refine lv_iload_n hx hb dX10_rule_0 rfl (lv_at hl 1 rfl) ?_
  refine lv_i2l hx hb dX10_rule_1 rfl ?_
  refine lv_lconst (v := (0 : Int64)) hx hb dX10_rule_2 (by decide) ?_
  refine lv_lconst (v := (1 : Int64)) hx hb dX10_rule_3 (by decide) ?_
  obtain ⟨o1, ho1, h⟩ := Option.bind_eq_some_iff.mp h
  obtain ⟨v3, x2⟩ := o1
  replace h := un2_e h
  refine bq_callSi (As := [.long _, .long _, .long _]) S hK hD hA hP hS (cX10_in_k ho1) hd_yX10_in ml_X10_66 st_yX10_in ⟨rfl, rfl⟩ ⟨by decide, by decide⟩ rfl hl.1 rfl (Nat.le_of_ble_eq_true rfl) ⟨Nat.zero_le _, Nat.zero_le _⟩ dX10_rule_4 (fun H locs hP hS => ?_)
  refine lv_if_eq (tgt := 20) hx hb dX10_rule_7 (by decide) (fun c4 => ?_) (fun c4 => ?_)
  · replace h := (if_pos c4).symm.trans h
    refine lv_iconst (v := (-1 : Int32)) hx hb dX10_rule_20 (by decide) ?_
    obtain ⟨e1, e2⟩ := Prod.mk.inj (hret _ h)
    exact hR _ _ _ _ _ (congrArg some e1) rfl (by rw [e2]; exact hP) hS dX10_rule_21
  · replace h := (if_neg c4).symm.trans h
    refine lv_iload_n hx hb dX10_rule_10 rfl (lv_at hl 2 rfl) ?_
    refine lv_i2l hx hb dX10_rule_11 rfl ?_
    refine lv_lconst (v := (0 : Int64)) hx hb dX10_rule_12 (by decide) ?_
    refine lv_lconst (v := (1 : Int64)) hx hb dX10_rule_13 (by decide) ?_
    obtain ⟨o5, ho5, h⟩ := Option.bind_eq_some_iff.mp h
    obtain ⟨v7, x6⟩ := o5
    replace h := un2_e h
    refine bq_callSi (As := [.long _, .long _, .long _]) S hK hD hA hP hS (cX10_in_k ho5) hd_yX10_in ml_X10_66 st_yX10_in ⟨rfl, rfl⟩ ⟨by decide, by decide⟩ rfl hl.1 rfl (Nat.le_of_ble_eq_true rfl) ⟨Nat.zero_le _, Nat.zero_le _⟩ dX10_rule_14 (fun H locs hP hS => ?_)
    refine lv_if_ne (tgt := 22) hx hb dX10_rule_17 (by decide) (fun c8 => ?_) (fun c8 => ?_)
    · replace h := (if_neg c8).symm.trans h
      refine lv_aload_n hx hb dX10_rule_22 rfl (lv_at hl 0 rfl) ?_
      refine bq_get (q0 := 0) S hK hP fl_X10_19_X10_5 rfl rfl rfl dX10_rule_23 ?_
      refine lv_iload_n hx hb dX10_rule_26 rfl (lv_at hl 1 rfl) ?_
      obtain ⟨g9, h⟩ := bq_gd h
      refine va_iald (D := D) hx hb hK hP 4 0 rfl rfl g9 dX10_rule_27 ?_
      refine lv_topi (fun v10 hv10 => ?_)
      replace h := bq_bv h hv10
      refine lv_istore_n (lv' := [(3, .int v10), (0, .ref (a 0)), (1, .int p1), (2, .int p2)]) hx hb dX10_rule_28 rfl hl (by decide) rfl (fun ls hl => ?_)
      refine lv_aload_n hx hb dX10_rule_29 rfl (lv_at hl 1 rfl) ?_
      refine bq_get (q0 := 0) S hK hP fl_X10_19_X10_5 rfl rfl rfl dX10_rule_30 ?_
      refine lv_iload_n hx hb dX10_rule_33 rfl (lv_at hl 2 rfl) ?_
      refine lv_iload_n hx hb dX10_rule_34 rfl (lv_at hl 3 rfl) ?_
      obtain ⟨g12, h⟩ := bq_gd h
      obtain ⟨x11, hx11, h⟩ := bq_b h
      refine bq_iast (x1 := x11) (q0 := 4) (t0 := 0) S hK hD hP hS rfl rfl g12 (by rw [hx11]; rfl) dX10_rule_35 (fun H locs hP hS => ?_)
      refine lv_iload_n hx hb dX10_rule_36 rfl (lv_at hl 0 rfl) ?_
      obtain ⟨e1, e2⟩ := Prod.mk.inj (hret _ h)
      exact hR _ _ _ _ _ (congrArg some e1) rfl (by rw [e2]; exact hP) hS dX10_rule_37
    · replace h := (if_pos c8).symm.trans h
      refine lv_iconst (v := (-1 : Int32)) hx hb dX10_rule_20 (by decide) ?_
      obtain ⟨e1, e2⟩ := Prod.mk.inj (hret _ h)
      exact hR _ _ _ _ _ (congrArg some e1) rfl (by rw [e2]; exact hP) hS dX10_rule_21
def fX10_mayTouch_j53 (v9 : Int32) (v10 : Int32) (v11 : Int32) (v12 : Int32) (x13 : bq_S) : Option (Int32 × bq_S) :=
  if ok_i v9 8 then
  if ok_i v10 8 then
  bd (((x13.1 2 v9.toNatClampNeg) &&& (x13.1 2 v10.toNatClampNeg)) &&& ((((1 : Int32) <<< (v9 &&& 31)) ||| ((1 : Int32) <<< (v10 &&& 31))) ^^^ (-1 : Int32))) (fun v16 =>
  if v11 = 0 then
  if (((x13.1 0 4) >>> (v9 &&& 31)) &&& (1 : Int32)) = (1 : Int32) then
  some ((1 : Int32), x13)
  else
  if (((x13.1 0 4) >>> (v10 &&& 31)) &&& (1 : Int32)) = (1 : Int32) then
  some ((1 : Int32), x13)
  else
  if v12 = 0 then
  if (x13.1 4 (1 : Int32).toNatClampNeg) = (1 : Int32) then
  if v16 = 0 then
  some ((0 : Int32), x13)
  else
  some ((1 : Int32), x13)
  else
  some ((0 : Int32), x13)
  else
  some ((1 : Int32), x13)
  else
  some ((0 : Int32), x13))
  else none
  else none
def fX10_mayTouch_j19 (v3 : Int32) (v4 : Int32) (v5 : Int32) (x6 : bq_S) : Option (Int32 × bq_S) :=
  if ok_i v3 8 then
  if (((x6.1 2 v3.toNatClampNeg) >>> (v4 &&& 31)) &&& (1 : Int32)) = (1 : Int32) then
  fX10_mayTouch_j53  v3 v4 v5 (1 : Int32) x6
  else
  if ok_i v4 8 then
  if (((x6.1 2 v4.toNatClampNeg) >>> (v3 &&& 31)) &&& (1 : Int32)) = (1 : Int32) then
  fX10_mayTouch_j53  v3 v4 v5 (1 : Int32) x6
  else
  fX10_mayTouch_j53  v3 v4 v5 (0 : Int32) x6
  else none
  else none
def fX10_mayTouch (p1 : Int32) (p2 : Int32) (x0 : bq_S) : Option (Int32 × bq_S) :=
  if ok_i p1 8 then
  if (((x0.1 3 p1.toNatClampNeg) >>> (p2 &&& 31)) &&& (1 : Int32)) = (1 : Int32) then
  fX10_mayTouch_j19  p1 p2 (1 : Int32) x0
  else
  fX10_mayTouch_j19  p1 p2 (0 : Int32) x0
  else none
theorem dX10_mayTouch_0 : decode cX10_mayTouch 0 = .ok (.aload_n 0, 1) := by decide +kernel
theorem dX10_mayTouch_1 : decode cX10_mayTouch 1 = .ok (.getfield 16, 3) := by decide +kernel
theorem dX10_mayTouch_4 : decode cX10_mayTouch 4 = .ok (.iload_n 1, 1) := by decide +kernel
theorem dX10_mayTouch_5 : decode cX10_mayTouch 5 = .ok (.iaload, 1) := by decide +kernel
theorem dX10_mayTouch_6 : decode cX10_mayTouch 6 = .ok (.iload_n 2, 1) := by decide +kernel
theorem dX10_mayTouch_7 : decode cX10_mayTouch 7 = .ok (.ishr, 1) := by decide +kernel
theorem dX10_mayTouch_8 : decode cX10_mayTouch 8 = .ok (.iconst 1, 1) := by decide +kernel
theorem dX10_mayTouch_9 : decode cX10_mayTouch 9 = .ok (.iand, 1) := by decide +kernel
theorem dX10_mayTouch_10 : decode cX10_mayTouch 10 = .ok (.iconst 1, 1) := by decide +kernel
theorem dX10_mayTouch_11 : decode cX10_mayTouch 11 = .ok (.if_icmp .ne 7, 3) := by decide +kernel
theorem dX10_mayTouch_14 : decode cX10_mayTouch 14 = .ok (.iconst 1, 1) := by decide +kernel
theorem dX10_mayTouch_15 : decode cX10_mayTouch 15 = .ok (.goto 4, 3) := by decide +kernel
theorem dX10_mayTouch_18 : decode cX10_mayTouch 18 = .ok (.iconst 0, 1) := by decide +kernel
theorem dX10_mayTouch_19 : decode cX10_mayTouch 19 = .ok (.istore_n 3, 1) := by decide +kernel
theorem dX10_mayTouch_20 : decode cX10_mayTouch 20 = .ok (.aload_n 0, 1) := by decide +kernel
theorem dX10_mayTouch_21 : decode cX10_mayTouch 21 = .ok (.getfield 13, 3) := by decide +kernel
theorem dX10_mayTouch_24 : decode cX10_mayTouch 24 = .ok (.iload_n 1, 1) := by decide +kernel
theorem dX10_mayTouch_25 : decode cX10_mayTouch 25 = .ok (.iaload, 1) := by decide +kernel
theorem dX10_mayTouch_26 : decode cX10_mayTouch 26 = .ok (.iload_n 2, 1) := by decide +kernel
theorem dX10_mayTouch_27 : decode cX10_mayTouch 27 = .ok (.ishr, 1) := by decide +kernel
theorem dX10_mayTouch_28 : decode cX10_mayTouch 28 = .ok (.iconst 1, 1) := by decide +kernel
theorem dX10_mayTouch_29 : decode cX10_mayTouch 29 = .ok (.iand, 1) := by decide +kernel
theorem dX10_mayTouch_30 : decode cX10_mayTouch 30 = .ok (.iconst 1, 1) := by decide +kernel
theorem dX10_mayTouch_31 : decode cX10_mayTouch 31 = .ok (.if_icmp .eq 17, 3) := by decide +kernel
theorem dX10_mayTouch_34 : decode cX10_mayTouch 34 = .ok (.aload_n 0, 1) := by decide +kernel
theorem dX10_mayTouch_35 : decode cX10_mayTouch 35 = .ok (.getfield 13, 3) := by decide +kernel
theorem dX10_mayTouch_38 : decode cX10_mayTouch 38 = .ok (.iload_n 2, 1) := by decide +kernel
theorem dX10_mayTouch_39 : decode cX10_mayTouch 39 = .ok (.iaload, 1) := by decide +kernel
theorem dX10_mayTouch_40 : decode cX10_mayTouch 40 = .ok (.iload_n 1, 1) := by decide +kernel
theorem dX10_mayTouch_41 : decode cX10_mayTouch 41 = .ok (.ishr, 1) := by decide +kernel
theorem dX10_mayTouch_42 : decode cX10_mayTouch 42 = .ok (.iconst 1, 1) := by decide +kernel
theorem dX10_mayTouch_43 : decode cX10_mayTouch 43 = .ok (.iand, 1) := by decide +kernel
theorem dX10_mayTouch_44 : decode cX10_mayTouch 44 = .ok (.iconst 1, 1) := by decide +kernel
theorem dX10_mayTouch_45 : decode cX10_mayTouch 45 = .ok (.if_icmp .ne 7, 3) := by decide +kernel
theorem dX10_mayTouch_48 : decode cX10_mayTouch 48 = .ok (.iconst 1, 1) := by decide +kernel
theorem dX10_mayTouch_49 : decode cX10_mayTouch 49 = .ok (.goto 4, 3) := by decide +kernel
theorem dX10_mayTouch_52 : decode cX10_mayTouch 52 = .ok (.iconst 0, 1) := by decide +kernel
theorem dX10_mayTouch_53 : decode cX10_mayTouch 53 = .ok (.istore 4, 2) := by decide +kernel
theorem dX10_mayTouch_55 : decode cX10_mayTouch 55 = .ok (.aload_n 0, 1) := by decide +kernel
theorem dX10_mayTouch_56 : decode cX10_mayTouch 56 = .ok (.getfield 13, 3) := by decide +kernel
theorem dX10_mayTouch_59 : decode cX10_mayTouch 59 = .ok (.iload_n 1, 1) := by decide +kernel
theorem dX10_mayTouch_60 : decode cX10_mayTouch 60 = .ok (.iaload, 1) := by decide +kernel
theorem dX10_mayTouch_61 : decode cX10_mayTouch 61 = .ok (.aload_n 0, 1) := by decide +kernel
theorem dX10_mayTouch_62 : decode cX10_mayTouch 62 = .ok (.getfield 13, 3) := by decide +kernel
theorem dX10_mayTouch_65 : decode cX10_mayTouch 65 = .ok (.iload_n 2, 1) := by decide +kernel
theorem dX10_mayTouch_66 : decode cX10_mayTouch 66 = .ok (.iaload, 1) := by decide +kernel
theorem dX10_mayTouch_67 : decode cX10_mayTouch 67 = .ok (.iand, 1) := by decide +kernel
theorem dX10_mayTouch_68 : decode cX10_mayTouch 68 = .ok (.iconst 1, 1) := by decide +kernel
theorem dX10_mayTouch_69 : decode cX10_mayTouch 69 = .ok (.iload_n 1, 1) := by decide +kernel
theorem dX10_mayTouch_70 : decode cX10_mayTouch 70 = .ok (.ishl, 1) := by decide +kernel
theorem dX10_mayTouch_71 : decode cX10_mayTouch 71 = .ok (.iconst 1, 1) := by decide +kernel
theorem dX10_mayTouch_72 : decode cX10_mayTouch 72 = .ok (.iload_n 2, 1) := by decide +kernel
theorem dX10_mayTouch_73 : decode cX10_mayTouch 73 = .ok (.ishl, 1) := by decide +kernel
theorem dX10_mayTouch_74 : decode cX10_mayTouch 74 = .ok (.ior, 1) := by decide +kernel
theorem dX10_mayTouch_75 : decode cX10_mayTouch 75 = .ok (.iconst (-1), 1) := by decide +kernel
theorem dX10_mayTouch_76 : decode cX10_mayTouch 76 = .ok (.ixor, 1) := by decide +kernel
theorem dX10_mayTouch_77 : decode cX10_mayTouch 77 = .ok (.iand, 1) := by decide +kernel
theorem dX10_mayTouch_78 : decode cX10_mayTouch 78 = .ok (.istore 5, 2) := by decide +kernel
theorem dX10_mayTouch_80 : decode cX10_mayTouch 80 = .ok (.iload_n 3, 1) := by decide +kernel
theorem dX10_mayTouch_81 : decode cX10_mayTouch 81 = .ok (.ifCond .ne 51, 3) := by decide +kernel
theorem dX10_mayTouch_84 : decode cX10_mayTouch 84 = .ok (.aload_n 0, 1) := by decide +kernel
theorem dX10_mayTouch_85 : decode cX10_mayTouch 85 = .ok (.getfield 76, 3) := by decide +kernel
theorem dX10_mayTouch_88 : decode cX10_mayTouch 88 = .ok (.iload_n 1, 1) := by decide +kernel
theorem dX10_mayTouch_89 : decode cX10_mayTouch 89 = .ok (.ishr, 1) := by decide +kernel
theorem dX10_mayTouch_90 : decode cX10_mayTouch 90 = .ok (.iconst 1, 1) := by decide +kernel
theorem dX10_mayTouch_91 : decode cX10_mayTouch 91 = .ok (.iand, 1) := by decide +kernel
theorem dX10_mayTouch_92 : decode cX10_mayTouch 92 = .ok (.iconst 1, 1) := by decide +kernel
theorem dX10_mayTouch_93 : decode cX10_mayTouch 93 = .ok (.if_icmp .eq 35, 3) := by decide +kernel
theorem dX10_mayTouch_96 : decode cX10_mayTouch 96 = .ok (.aload_n 0, 1) := by decide +kernel
theorem dX10_mayTouch_97 : decode cX10_mayTouch 97 = .ok (.getfield 76, 3) := by decide +kernel
theorem dX10_mayTouch_100 : decode cX10_mayTouch 100 = .ok (.iload_n 2, 1) := by decide +kernel
theorem dX10_mayTouch_101 : decode cX10_mayTouch 101 = .ok (.ishr, 1) := by decide +kernel
theorem dX10_mayTouch_102 : decode cX10_mayTouch 102 = .ok (.iconst 1, 1) := by decide +kernel
theorem dX10_mayTouch_103 : decode cX10_mayTouch 103 = .ok (.iand, 1) := by decide +kernel
theorem dX10_mayTouch_104 : decode cX10_mayTouch 104 = .ok (.iconst 1, 1) := by decide +kernel
theorem dX10_mayTouch_105 : decode cX10_mayTouch 105 = .ok (.if_icmp .eq 23, 3) := by decide +kernel
theorem dX10_mayTouch_108 : decode cX10_mayTouch 108 = .ok (.iload 4, 2) := by decide +kernel
theorem dX10_mayTouch_110 : decode cX10_mayTouch 110 = .ok (.ifCond .ne 18, 3) := by decide +kernel
theorem dX10_mayTouch_113 : decode cX10_mayTouch 113 = .ok (.aload_n 0, 1) := by decide +kernel
theorem dX10_mayTouch_114 : decode cX10_mayTouch 114 = .ok (.getfield 19, 3) := by decide +kernel
theorem dX10_mayTouch_117 : decode cX10_mayTouch 117 = .ok (.iconst 1, 1) := by decide +kernel
theorem dX10_mayTouch_118 : decode cX10_mayTouch 118 = .ok (.iaload, 1) := by decide +kernel
theorem dX10_mayTouch_119 : decode cX10_mayTouch 119 = .ok (.iconst 1, 1) := by decide +kernel
theorem dX10_mayTouch_120 : decode cX10_mayTouch 120 = .ok (.if_icmp .ne 12, 3) := by decide +kernel
theorem dX10_mayTouch_123 : decode cX10_mayTouch 123 = .ok (.iload 5, 2) := by decide +kernel
theorem dX10_mayTouch_125 : decode cX10_mayTouch 125 = .ok (.ifCond .eq 7, 3) := by decide +kernel
theorem dX10_mayTouch_128 : decode cX10_mayTouch 128 = .ok (.iconst 1, 1) := by decide +kernel
theorem dX10_mayTouch_129 : decode cX10_mayTouch 129 = .ok (.goto 4, 3) := by decide +kernel
theorem dX10_mayTouch_132 : decode cX10_mayTouch 132 = .ok (.iconst 0, 1) := by decide +kernel
theorem dX10_mayTouch_133 : decode cX10_mayTouch 133 = .ok (.ireturn, 1) := by decide +kernel
set_option maxHeartbeats 4000000 in
set_option maxRecDepth 100000 in
theorem cX10_mayTouch_k_0 {l : Launch} {D : va_G} {a : Nat → Nat} {k : Nat → ClassId} {p1 : Int32} {p2 : Int32} {x0 xz : bq_S} {rz : Int32} (h : fX10_mayTouch  p1 p2 x0 = some (rz, xz)) : bq_M l D bq_cl (bq_ty k) (bq_wM a k) yX10_mayTouch cX10_mayTouch 6 (some .boolean) { frames := 0, cells := 0, slots := 0, locals := 0 } [.ref (a 0), .int p1, .int p2] x0 (some rz) xz := by
  refine bq_ofW RX10 [(0, .ref (a 0)), (1, .int p1), (2, .int p2)] (by decide +kernel) rfl (Nat.le_of_ble_eq_true rfl) rfl (bq_adM a k) ?_
  intro p e s m below meth c A Q ls S hK hD hA hR hS hP hl
  have hx := S.1; have hb := S.2.1; have hml := S.2.2.1; have hown := S.2.2.2.1; have hts := S.2.2.2.2
  have hret : ∀ z, some z = some (rz, xz) → (rz, xz) = z := fun z h => (Option.some.inj h).symm
  unfold fX10_mayTouch at h
  have hj53 : ∀ (v9 : Int32) (v10 : Int32) (v11 : Int32) (v12 : Int32) (x13 : bq_S) (H : Heap) (locs : List Loc) (ls : Array Slot), fX10_mayTouch_j53  v9 v10 v11 v12 x13 = some (rz, xz) → va_P D bq_cl (bq_wM a k x13) H → va_S A s.heap H locs → lv_has ls 6 [(0, .ref (a 0)), (1, .int v9), (2, .int v10), (3, .int v11)] → W p l e { frames := 0, cells := 0, slots := 0, locals := 0 } s m [.ref (a 0), .int p1, .int p2].toArray below meth c H locs 0 0 Q (F0 m 53 ls [.int v12]) := by
    intro v9 v10 v11 v12 x13 H locs ls h hP hS hl
    unfold fX10_mayTouch_j53 at h
    refine lv_istore (lv' := [(4, .int v12), (0, .ref (a 0)), (1, .int v9), (2, .int v10), (3, .int v11)]) hx hb dX10_mayTouch_53 hl (by decide) rfl (fun ls hl => ?_)
    refine lv_aload_n hx hb dX10_mayTouch_55 rfl (lv_at hl 1 rfl) ?_
    refine bq_get (q0 := 0) S hK hP fl_X10_13_X10_2 rfl rfl rfl dX10_mayTouch_56 ?_
    refine lv_iload_n hx hb dX10_mayTouch_59 rfl (lv_at hl 2 rfl) ?_
    obtain ⟨g14, h⟩ := bq_gd h
    refine va_iald (D := D) hx hb hK hP 2 0 rfl rfl g14 dX10_mayTouch_60 ?_
    refine lv_aload_n hx hb dX10_mayTouch_61 rfl (lv_at hl 1 rfl) ?_
    refine bq_get (q0 := 0) S hK hP fl_X10_13_X10_2 rfl rfl rfl dX10_mayTouch_62 ?_
    refine lv_iload_n hx hb dX10_mayTouch_65 rfl (lv_at hl 3 rfl) ?_
    obtain ⟨g15, h⟩ := bq_gd h
    refine va_iald (D := D) hx hb hK hP 2 0 rfl rfl g15 dX10_mayTouch_66 ?_
    refine lv_iand hx hb dX10_mayTouch_67 ?_
    refine lv_iconst (v := (1 : Int32)) hx hb dX10_mayTouch_68 (by decide) ?_
    refine lv_iload_n hx hb dX10_mayTouch_69 rfl (lv_at hl 2 rfl) ?_
    refine lv_ishl hx hb dX10_mayTouch_70 ?_
    refine lv_iconst (v := (1 : Int32)) hx hb dX10_mayTouch_71 (by decide) ?_
    refine lv_iload_n hx hb dX10_mayTouch_72 rfl (lv_at hl 3 rfl) ?_
    refine lv_ishl hx hb dX10_mayTouch_73 ?_
    refine lv_ior hx hb dX10_mayTouch_74 ?_
    refine lv_iconst (v := (-1 : Int32)) hx hb dX10_mayTouch_75 (by decide) ?_
    refine lv_ixor hx hb dX10_mayTouch_76 ?_
    refine lv_iand hx hb dX10_mayTouch_77 ?_
    refine lv_topi (fun v16 hv16 => ?_)
    replace h := bq_bv h hv16
    refine lv_istore (lv' := [(5, .int v16), (4, .int v12), (0, .ref (a 0)), (1, .int v9), (2, .int v10), (3, .int v11)]) hx hb dX10_mayTouch_78 hl (by decide) rfl (fun ls hl => ?_)
    refine lv_iload_n hx hb dX10_mayTouch_80 rfl (lv_at hl 5 rfl) ?_
    refine lv_if_ne (tgt := 132) hx hb dX10_mayTouch_81 (by decide) (fun c17 => ?_) (fun c17 => ?_)
    · replace h := (if_neg c17).symm.trans h
      refine lv_iconst (v := (0 : Int32)) hx hb dX10_mayTouch_132 (by decide) ?_
      obtain ⟨e1, e2⟩ := Prod.mk.inj (hret _ h)
      exact hR _ _ _ _ _ (congrArg some e1) rfl (by rw [e2]; exact hP) hS dX10_mayTouch_133
    · replace h := (if_pos c17).symm.trans h
      refine lv_aload_n hx hb dX10_mayTouch_84 rfl (lv_at hl 2 rfl) ?_
      refine bq_get (q0 := 0) S hK hP fl_X10_76_X10_4 rfl rfl rfl dX10_mayTouch_85 ?_
      refine lv_iload_n hx hb dX10_mayTouch_88 rfl (lv_at hl 3 rfl) ?_
      refine lv_ishr hx hb dX10_mayTouch_89 ?_
      refine lv_iconst (v := (1 : Int32)) hx hb dX10_mayTouch_90 (by decide) ?_
      refine lv_iand hx hb dX10_mayTouch_91 ?_
      refine lv_iconst (v := (1 : Int32)) hx hb dX10_mayTouch_92 (by decide) ?_
      refine lv_icmp_eq (tgt := 128) hx hb dX10_mayTouch_93 (by decide) (fun c18 => ?_) (fun c18 => ?_)
      · replace h := (if_pos c18).symm.trans h
        refine lv_iconst (v := (1 : Int32)) hx hb dX10_mayTouch_128 (by decide) ?_
        refine lv_goto (tgt := 133) hx hb dX10_mayTouch_129 (by decide) ?_
        obtain ⟨e1, e2⟩ := Prod.mk.inj (hret _ h)
        exact hR _ _ _ _ _ (congrArg some e1) rfl (by rw [e2]; exact hP) hS dX10_mayTouch_133
      · replace h := (if_neg c18).symm.trans h
        refine lv_aload_n hx hb dX10_mayTouch_96 rfl (lv_at hl 2 rfl) ?_
        refine bq_get (q0 := 0) S hK hP fl_X10_76_X10_4 rfl rfl rfl dX10_mayTouch_97 ?_
        refine lv_iload_n hx hb dX10_mayTouch_100 rfl (lv_at hl 4 rfl) ?_
        refine lv_ishr hx hb dX10_mayTouch_101 ?_
        refine lv_iconst (v := (1 : Int32)) hx hb dX10_mayTouch_102 (by decide) ?_
        refine lv_iand hx hb dX10_mayTouch_103 ?_
        refine lv_iconst (v := (1 : Int32)) hx hb dX10_mayTouch_104 (by decide) ?_
        refine lv_icmp_eq (tgt := 128) hx hb dX10_mayTouch_105 (by decide) (fun c19 => ?_) (fun c19 => ?_)
        · replace h := (if_pos c19).symm.trans h
          refine lv_iconst (v := (1 : Int32)) hx hb dX10_mayTouch_128 (by decide) ?_
          refine lv_goto (tgt := 133) hx hb dX10_mayTouch_129 (by decide) ?_
          obtain ⟨e1, e2⟩ := Prod.mk.inj (hret _ h)
          exact hR _ _ _ _ _ (congrArg some e1) rfl (by rw [e2]; exact hP) hS dX10_mayTouch_133
        · replace h := (if_neg c19).symm.trans h
          refine lv_iload hx hb dX10_mayTouch_108 (lv_at hl 1 rfl) ?_
          refine lv_if_ne (tgt := 128) hx hb dX10_mayTouch_110 (by decide) (fun c20 => ?_) (fun c20 => ?_)
          · replace h := (if_neg c20).symm.trans h
            refine lv_iconst (v := (1 : Int32)) hx hb dX10_mayTouch_128 (by decide) ?_
            refine lv_goto (tgt := 133) hx hb dX10_mayTouch_129 (by decide) ?_
            obtain ⟨e1, e2⟩ := Prod.mk.inj (hret _ h)
            exact hR _ _ _ _ _ (congrArg some e1) rfl (by rw [e2]; exact hP) hS dX10_mayTouch_133
          · replace h := (if_pos c20).symm.trans h
            refine lv_aload_n hx hb dX10_mayTouch_113 rfl (lv_at hl 2 rfl) ?_
            refine bq_get (q0 := 0) S hK hP fl_X10_19_X10_5 rfl rfl rfl dX10_mayTouch_114 ?_
            refine lv_iconst (v := (1 : Int32)) hx hb dX10_mayTouch_117 (by decide) ?_
            refine va_iald (D := D) hx hb hK hP 4 0 rfl rfl (bq_inl rfl) dX10_mayTouch_118 ?_
            refine lv_iconst (v := (1 : Int32)) hx hb dX10_mayTouch_119 (by decide) ?_
            refine lv_icmp_ne (tgt := 132) hx hb dX10_mayTouch_120 (by decide) (fun c21 => ?_) (fun c21 => ?_)
            · replace h := (if_neg c21).symm.trans h
              refine lv_iconst (v := (0 : Int32)) hx hb dX10_mayTouch_132 (by decide) ?_
              obtain ⟨e1, e2⟩ := Prod.mk.inj (hret _ h)
              exact hR _ _ _ _ _ (congrArg some e1) rfl (by rw [e2]; exact hP) hS dX10_mayTouch_133
            · replace h := (if_pos c21).symm.trans h
              refine lv_iload hx hb dX10_mayTouch_123 (lv_at hl 0 rfl) ?_
              refine lv_if_eq (tgt := 132) hx hb dX10_mayTouch_125 (by decide) (fun c22 => ?_) (fun c22 => ?_)
              · replace h := (if_pos c22).symm.trans h
                refine lv_iconst (v := (0 : Int32)) hx hb dX10_mayTouch_132 (by decide) ?_
                obtain ⟨e1, e2⟩ := Prod.mk.inj (hret _ h)
                exact hR _ _ _ _ _ (congrArg some e1) rfl (by rw [e2]; exact hP) hS dX10_mayTouch_133
              · replace h := (if_neg c22).symm.trans h
                refine lv_iconst (v := (1 : Int32)) hx hb dX10_mayTouch_128 (by decide) ?_
                refine lv_goto (tgt := 133) hx hb dX10_mayTouch_129 (by decide) ?_
                obtain ⟨e1, e2⟩ := Prod.mk.inj (hret _ h)
                exact hR _ _ _ _ _ (congrArg some e1) rfl (by rw [e2]; exact hP) hS dX10_mayTouch_133
  have hj19 : ∀ (v3 : Int32) (v4 : Int32) (v5 : Int32) (x6 : bq_S) (H : Heap) (locs : List Loc) (ls : Array Slot), fX10_mayTouch_j19  v3 v4 v5 x6 = some (rz, xz) → va_P D bq_cl (bq_wM a k x6) H → va_S A s.heap H locs → lv_has ls 6 [(0, .ref (a 0)), (1, .int v3), (2, .int v4)] → W p l e { frames := 0, cells := 0, slots := 0, locals := 0 } s m [.ref (a 0), .int p1, .int p2].toArray below meth c H locs 0 0 Q (F0 m 19 ls [.int v5]) := by
    intro v3 v4 v5 x6 H locs ls h hP hS hl
    unfold fX10_mayTouch_j19 at h
    refine lv_istore_n (lv' := [(3, .int v5), (0, .ref (a 0)), (1, .int v3), (2, .int v4)]) hx hb dX10_mayTouch_19 rfl hl (by decide) rfl (fun ls hl => ?_)
    refine lv_aload_n hx hb dX10_mayTouch_20 rfl (lv_at hl 1 rfl) ?_
    refine bq_get (q0 := 0) S hK hP fl_X10_13_X10_2 rfl rfl rfl dX10_mayTouch_21 ?_
    refine lv_iload_n hx hb dX10_mayTouch_24 rfl (lv_at hl 2 rfl) ?_
    obtain ⟨g7, h⟩ := bq_gd h
    refine va_iald (D := D) hx hb hK hP 2 0 rfl rfl g7 dX10_mayTouch_25 ?_
    refine lv_iload_n hx hb dX10_mayTouch_26 rfl (lv_at hl 3 rfl) ?_
    refine lv_ishr hx hb dX10_mayTouch_27 ?_
    refine lv_iconst (v := (1 : Int32)) hx hb dX10_mayTouch_28 (by decide) ?_
    refine lv_iand hx hb dX10_mayTouch_29 ?_
    refine lv_iconst (v := (1 : Int32)) hx hb dX10_mayTouch_30 (by decide) ?_
    refine lv_icmp_eq (tgt := 48) hx hb dX10_mayTouch_31 (by decide) (fun c8 => ?_) (fun c8 => ?_)
    · replace h := (if_pos c8).symm.trans h
      refine lv_iconst (v := (1 : Int32)) hx hb dX10_mayTouch_48 (by decide) ?_
      refine lv_goto (tgt := 53) hx hb dX10_mayTouch_49 (by decide) ?_
      exact hj53 _ _ _ _ _ _ _ _ h hP hS (lv_sub hl [1, 2, 3, 0] rfl)
    · replace h := (if_neg c8).symm.trans h
      refine lv_aload_n hx hb dX10_mayTouch_34 rfl (lv_at hl 1 rfl) ?_
      refine bq_get (q0 := 0) S hK hP fl_X10_13_X10_2 rfl rfl rfl dX10_mayTouch_35 ?_
      refine lv_iload_n hx hb dX10_mayTouch_38 rfl (lv_at hl 3 rfl) ?_
      obtain ⟨g23, h⟩ := bq_gd h
      refine va_iald (D := D) hx hb hK hP 2 0 rfl rfl g23 dX10_mayTouch_39 ?_
      refine lv_iload_n hx hb dX10_mayTouch_40 rfl (lv_at hl 2 rfl) ?_
      refine lv_ishr hx hb dX10_mayTouch_41 ?_
      refine lv_iconst (v := (1 : Int32)) hx hb dX10_mayTouch_42 (by decide) ?_
      refine lv_iand hx hb dX10_mayTouch_43 ?_
      refine lv_iconst (v := (1 : Int32)) hx hb dX10_mayTouch_44 (by decide) ?_
      refine lv_icmp_ne (tgt := 52) hx hb dX10_mayTouch_45 (by decide) (fun c24 => ?_) (fun c24 => ?_)
      · replace h := (if_neg c24).symm.trans h
        refine lv_iconst (v := (0 : Int32)) hx hb dX10_mayTouch_52 (by decide) ?_
        exact hj53 _ _ _ _ _ _ _ _ h hP hS (lv_sub hl [1, 2, 3, 0] rfl)
      · replace h := (if_pos c24).symm.trans h
        refine lv_iconst (v := (1 : Int32)) hx hb dX10_mayTouch_48 (by decide) ?_
        refine lv_goto (tgt := 53) hx hb dX10_mayTouch_49 (by decide) ?_
        exact hj53 _ _ _ _ _ _ _ _ h hP hS (lv_sub hl [1, 2, 3, 0] rfl)
  refine lv_aload_n hx hb dX10_mayTouch_0 rfl (lv_at hl 0 rfl) ?_
  refine bq_get (q0 := 0) S hK hP fl_X10_16_X10_3 rfl rfl rfl dX10_mayTouch_1 ?_
  refine lv_iload_n hx hb dX10_mayTouch_4 rfl (lv_at hl 1 rfl) ?_
  obtain ⟨g1, h⟩ := bq_gd h
  refine va_iald (D := D) hx hb hK hP 3 0 rfl rfl g1 dX10_mayTouch_5 ?_
  refine lv_iload_n hx hb dX10_mayTouch_6 rfl (lv_at hl 2 rfl) ?_
  refine lv_ishr hx hb dX10_mayTouch_7 ?_
  refine lv_iconst (v := (1 : Int32)) hx hb dX10_mayTouch_8 (by decide) ?_
  refine lv_iand hx hb dX10_mayTouch_9 ?_
  refine lv_iconst (v := (1 : Int32)) hx hb dX10_mayTouch_10 (by decide) ?_
  refine lv_icmp_ne (tgt := 18) hx hb dX10_mayTouch_11 (by decide) (fun c2 => ?_) (fun c2 => ?_)
  · replace h := (if_neg c2).symm.trans h
    refine lv_iconst (v := (0 : Int32)) hx hb dX10_mayTouch_18 (by decide) ?_
    exact hj19 _ _ _ _ _ _ _ h hP hS (lv_sub hl [0, 1, 2] rfl)
  · replace h := (if_pos c2).symm.trans h
    refine lv_iconst (v := (1 : Int32)) hx hb dX10_mayTouch_14 (by decide) ?_
    refine lv_goto (tgt := 19) hx hb dX10_mayTouch_15 (by decide) ?_
    exact hj19 _ _ _ _ _ _ _ h hP hS (lv_sub hl [0, 1, 2] rfl)
def fX10_touch (p1 : Int32) (p2 : Int32) (x0 : bq_S) : Option (Int32 × bq_S) :=
  (fX10_areTwo p1 p2 x0).bind (fun o1 => un2 o1 (fun v3 x2 =>
  if v3 = 0 then
  some ((-1 : Int32), x2)
  else
  (fX10_mayTouch p1 p2 x2).bind (fun o5 => un2 o5 (fun v7 x6 =>
  if v7 = 0 then
  some ((0 : Int32), x6)
  else
  some ((1 : Int32), x6)))))
theorem dX10_touch_0 : decode cX10_touch 0 = .ok (.aload_n 0, 1) := by decide +kernel
theorem dX10_touch_1 : decode cX10_touch 1 = .ok (.iload_n 1, 1) := by decide +kernel
theorem dX10_touch_2 : decode cX10_touch 2 = .ok (.iload_n 2, 1) := by decide +kernel
theorem dX10_touch_3 : decode cX10_touch 3 = .ok (.invokevirtual 79, 3) := by decide +kernel
theorem dX10_touch_6 : decode cX10_touch 6 = .ok (.ifCond .eq 20, 3) := by decide +kernel
theorem dX10_touch_9 : decode cX10_touch 9 = .ok (.aload_n 0, 1) := by decide +kernel
theorem dX10_touch_10 : decode cX10_touch 10 = .ok (.iload_n 1, 1) := by decide +kernel
theorem dX10_touch_11 : decode cX10_touch 11 = .ok (.iload_n 2, 1) := by decide +kernel
theorem dX10_touch_12 : decode cX10_touch 12 = .ok (.invokevirtual 83, 3) := by decide +kernel
theorem dX10_touch_15 : decode cX10_touch 15 = .ok (.ifCond .eq 7, 3) := by decide +kernel
theorem dX10_touch_18 : decode cX10_touch 18 = .ok (.iconst 1, 1) := by decide +kernel
theorem dX10_touch_19 : decode cX10_touch 19 = .ok (.goto 8, 3) := by decide +kernel
theorem dX10_touch_22 : decode cX10_touch 22 = .ok (.iconst 0, 1) := by decide +kernel
theorem dX10_touch_23 : decode cX10_touch 23 = .ok (.goto 4, 3) := by decide +kernel
theorem dX10_touch_26 : decode cX10_touch 26 = .ok (.iconst (-1), 1) := by decide +kernel
theorem dX10_touch_27 : decode cX10_touch 27 = .ok (.ireturn, 1) := by decide +kernel
set_option maxHeartbeats 4000000 in
set_option maxRecDepth 100000 in
theorem cX10_touch_k_0 {l : Launch} {D : va_G} {a : Nat → Nat} {k : Nat → ClassId} {p1 : Int32} {p2 : Int32} {x0 xz : bq_S} {rz : Int32} (h : fX10_touch  p1 p2 x0 = some (rz, xz)) : bq_M l D bq_cl (bq_ty k) (bq_wM a k) yX10_touch cX10_touch 3 (some .int) { frames := 3, cells := 0, slots := 0, locals := 68 } [.ref (a 0), .int p1, .int p2] x0 (some rz) xz := by
  refine bq_ofW RX10 [(0, .ref (a 0)), (1, .int p1), (2, .int p2)] (by decide +kernel) rfl (Nat.le_of_ble_eq_true rfl) rfl (bq_adM a k) ?_
  intro p e s m below meth c A Q ls S hK hD hA hR hS hP hl
  have hx := S.1; have hb := S.2.1; have hml := S.2.2.1; have hown := S.2.2.2.1; have hts := S.2.2.2.2
  have hret : ∀ z, some z = some (rz, xz) → (rz, xz) = z := fun z h => (Option.some.inj h).symm
  unfold fX10_touch at h
  refine lv_aload_n hx hb dX10_touch_0 rfl (lv_at hl 0 rfl) ?_
  refine lv_iload_n hx hb dX10_touch_1 rfl (lv_at hl 1 rfl) ?_
  refine lv_iload_n hx hb dX10_touch_2 rfl (lv_at hl 2 rfl) ?_
  obtain ⟨o1, ho1, h⟩ := Option.bind_eq_some_iff.mp h
  obtain ⟨v3, x2⟩ := o1
  replace h := un2_e h
  refine bq_callVi (q0 := 0) (As := [.int _, .int _]) S hK hD hA hP hS (cX10_areTwo_k_0 ho1) hd_yX10_areTwo ml_X10_79 in_yX10_areTwo (hts _ sl_X10_X10_yX10_areTwo) ⟨rfl, rfl⟩ ⟨by decide, by decide⟩ rfl rfl rfl hl.1 rfl (Nat.le_of_ble_eq_true rfl) ⟨Nat.zero_le _, Nat.zero_le _⟩ dX10_touch_3 (fun H locs hP hS => ?_)
  refine lv_if_eq (tgt := 26) hx hb dX10_touch_6 (by decide) (fun c4 => ?_) (fun c4 => ?_)
  · replace h := (if_pos c4).symm.trans h
    refine lv_iconst (v := (-1 : Int32)) hx hb dX10_touch_26 (by decide) ?_
    obtain ⟨e1, e2⟩ := Prod.mk.inj (hret _ h)
    exact hR _ _ _ _ _ (congrArg some e1) rfl (by rw [e2]; exact hP) hS dX10_touch_27
  · replace h := (if_neg c4).symm.trans h
    refine lv_aload_n hx hb dX10_touch_9 rfl (lv_at hl 0 rfl) ?_
    refine lv_iload_n hx hb dX10_touch_10 rfl (lv_at hl 1 rfl) ?_
    refine lv_iload_n hx hb dX10_touch_11 rfl (lv_at hl 2 rfl) ?_
    obtain ⟨o5, ho5, h⟩ := Option.bind_eq_some_iff.mp h
    obtain ⟨v7, x6⟩ := o5
    replace h := un2_e h
    refine bq_callVi (q0 := 0) (As := [.int _, .int _]) S hK hD hA hP hS (cX10_mayTouch_k_0 ho5) hd_yX10_mayTouch ml_X10_83 in_yX10_mayTouch (hts _ sl_X10_X10_yX10_mayTouch) ⟨rfl, rfl⟩ ⟨by decide, by decide⟩ rfl rfl rfl hl.1 rfl (Nat.le_of_ble_eq_true rfl) ⟨Nat.zero_le _, Nat.zero_le _⟩ dX10_touch_12 (fun H locs hP hS => ?_)
    refine lv_if_eq (tgt := 22) hx hb dX10_touch_15 (by decide) (fun c8 => ?_) (fun c8 => ?_)
    · replace h := (if_pos c8).symm.trans h
      refine lv_iconst (v := (0 : Int32)) hx hb dX10_touch_22 (by decide) ?_
      refine lv_goto (tgt := 27) hx hb dX10_touch_23 (by decide) ?_
      obtain ⟨e1, e2⟩ := Prod.mk.inj (hret _ h)
      exact hR _ _ _ _ _ (congrArg some e1) rfl (by rw [e2]; exact hP) hS dX10_touch_27
    · replace h := (if_neg c8).symm.trans h
      refine lv_iconst (v := (1 : Int32)) hx hb dX10_touch_18 (by decide) ?_
      refine lv_goto (tgt := 27) hx hb dX10_touch_19 (by decide) ?_
      obtain ⟨e1, e2⟩ := Prod.mk.inj (hret _ h)
      exact hR _ _ _ _ _ (congrArg some e1) rfl (by rw [e2]; exact hP) hS dX10_touch_27
def fX10_type_b17 (n : Nat) (v5 : Int64) (v6 : Int32) (v : Int32 × bq_S) : Option ((Int32 × bq_S) ⊕ ((Int32 × bq_S) ⊕ (Int32 × bq_S))) :=
  un2 v (fun v7 x8 =>
  if v6 ≤ v7 then
  some (.inr (.inl (v7, x8)))
  else
  (fX10_in ((v5 >>> (((8 : Int32) * v7).toInt64 &&& 63)) &&& (255 : Int64)) (32 : Int64) (126 : Int64) x8).bind (fun o10 => un2 o10 (fun v12 x11 =>
  if v12 = 0 then
  some (.inr (.inr ((-1 : Int32), x11)))
  else
  bd (v7 + (1 : Int32)) (fun v14 =>
  some (.inl (v14, x11))))))
def fX10_type_b73 (n : Nat) (v20 : Int64) (v : Int32 × bq_S) : Option ((Int32 × bq_S) ⊕ (Int32 × bq_S)) :=
  un2 v (fun v21 x22 =>
  if v21 < 0 then
  some (.inr (v21, x22))
  else
  if ok_i (x22.1 0 9) 60 then
  bd (bq_sI x22 6 (x22.1 0 9).toNatClampNeg ((v20 >>> (((8 : Int32) * v21).toInt64 &&& 63)) &&& (255 : Int64)).toInt32) (fun x24 =>
  bd (bq_sI x24 0 9 ((x24.1 0 9) + (1 : Int32))) (fun x26 =>
  bd (v21 + (-1 : Int32)) (fun v27 =>
  some (.inl (v27, x26)))))
  else none)
def fX10_type (n : Nat) (p1 : Int64) (p3 : Int32) (x0 : bq_S) : Option (Int32 × bq_S) :=
  (fX10_in p3.toInt64 (1 : Int64) (8 : Int64) x0).bind (fun o1 => un2 o1 (fun v3 x2 =>
  if v3 = 0 then
  some ((-1 : Int32), x2)
  else
  (wh n (fX10_type_b17 n p1 p3) ((0 : Int32), x2)).bind (fun e15 =>
  Sum.elim (fun z => un2 z (fun v16 x17 =>
  if ((x17.1 0 9) + p3) ≤ (60 : Int32) then
  bd (p3 - (1 : Int32)) (fun v19 =>
  (wh n (fX10_type_b73 n p1) (v19, x17)).bind (fun e28 => un2 e28 (fun v29 x30 =>
  some ((x30.1 0 9), x30))))
  else
  some ((-3 : Int32), x17))) (fun z => some z) e15)))
theorem dX10_type_0 : decode cX10_type 0 = .ok (.iload_n 3, 1) := by decide +kernel
theorem dX10_type_1 : decode cX10_type 1 = .ok (.i2l, 1) := by decide +kernel
theorem dX10_type_2 : decode cX10_type 2 = .ok (.lconst 1, 1) := by decide +kernel
theorem dX10_type_3 : decode cX10_type 3 = .ok (.ldc2_w 86, 3) := by decide +kernel
theorem dX10_type_6 : decode cX10_type 6 = .ok (.invokestatic 66, 3) := by decide +kernel
theorem dX10_type_9 : decode cX10_type 9 = .ok (.ifCond .ne 5, 3) := by decide +kernel
theorem dX10_type_12 : decode cX10_type 12 = .ok (.iconst (-1), 1) := by decide +kernel
theorem dX10_type_13 : decode cX10_type 13 = .ok (.ireturn, 1) := by decide +kernel
theorem dX10_type_14 : decode cX10_type 14 = .ok (.iconst 0, 1) := by decide +kernel
theorem dX10_type_15 : decode cX10_type 15 = .ok (.istore 4, 2) := by decide +kernel
theorem dX10_type_17 : decode cX10_type 17 = .ok (.iload 4, 2) := by decide +kernel
theorem dX10_type_19 : decode cX10_type 19 = .ok (.iload_n 3, 1) := by decide +kernel
theorem dX10_type_20 : decode cX10_type 20 = .ok (.if_icmp .ge 34, 3) := by decide +kernel
theorem dX10_type_23 : decode cX10_type 23 = .ok (.lload_n 1, 1) := by decide +kernel
theorem dX10_type_24 : decode cX10_type 24 = .ok (.bipush 8, 2) := by decide +kernel
theorem dX10_type_26 : decode cX10_type 26 = .ok (.iload 4, 2) := by decide +kernel
theorem dX10_type_28 : decode cX10_type 28 = .ok (.imul, 1) := by decide +kernel
theorem dX10_type_29 : decode cX10_type 29 = .ok (.lshr, 1) := by decide +kernel
theorem dX10_type_30 : decode cX10_type 30 = .ok (.ldc2_w 88, 3) := by decide +kernel
theorem dX10_type_33 : decode cX10_type 33 = .ok (.land, 1) := by decide +kernel
theorem dX10_type_34 : decode cX10_type 34 = .ok (.ldc2_w 90, 3) := by decide +kernel
theorem dX10_type_37 : decode cX10_type 37 = .ok (.ldc2_w 92, 3) := by decide +kernel
theorem dX10_type_40 : decode cX10_type 40 = .ok (.invokestatic 66, 3) := by decide +kernel
theorem dX10_type_43 : decode cX10_type 43 = .ok (.ifCond .ne 5, 3) := by decide +kernel
theorem dX10_type_46 : decode cX10_type 46 = .ok (.iconst (-1), 1) := by decide +kernel
theorem dX10_type_47 : decode cX10_type 47 = .ok (.ireturn, 1) := by decide +kernel
theorem dX10_type_48 : decode cX10_type 48 = .ok (.iinc 4 1, 3) := by decide +kernel
theorem dX10_type_51 : decode cX10_type 51 = .ok (.goto (-34), 3) := by decide +kernel
theorem dX10_type_54 : decode cX10_type 54 = .ok (.aload_n 0, 1) := by decide +kernel
theorem dX10_type_55 : decode cX10_type 55 = .ok (.getfield 94, 3) := by decide +kernel
theorem dX10_type_58 : decode cX10_type 58 = .ok (.iload_n 3, 1) := by decide +kernel
theorem dX10_type_59 : decode cX10_type 59 = .ok (.iadd, 1) := by decide +kernel
theorem dX10_type_60 : decode cX10_type 60 = .ok (.bipush 60, 2) := by decide +kernel
theorem dX10_type_62 : decode cX10_type 62 = .ok (.if_icmp .le 6, 3) := by decide +kernel
theorem dX10_type_65 : decode cX10_type 65 = .ok (.bipush (-3), 2) := by decide +kernel
theorem dX10_type_67 : decode cX10_type 67 = .ok (.ireturn, 1) := by decide +kernel
theorem dX10_type_68 : decode cX10_type 68 = .ok (.iload_n 3, 1) := by decide +kernel
theorem dX10_type_69 : decode cX10_type 69 = .ok (.iconst 1, 1) := by decide +kernel
theorem dX10_type_70 : decode cX10_type 70 = .ok (.isub, 1) := by decide +kernel
theorem dX10_type_71 : decode cX10_type 71 = .ok (.istore 4, 2) := by decide +kernel
theorem dX10_type_73 : decode cX10_type 73 = .ok (.iload 4, 2) := by decide +kernel
theorem dX10_type_75 : decode cX10_type 75 = .ok (.ifCond .lt 40, 3) := by decide +kernel
theorem dX10_type_78 : decode cX10_type 78 = .ok (.aload_n 0, 1) := by decide +kernel
theorem dX10_type_79 : decode cX10_type 79 = .ok (.getfield 25, 3) := by decide +kernel
theorem dX10_type_82 : decode cX10_type 82 = .ok (.aload_n 0, 1) := by decide +kernel
theorem dX10_type_83 : decode cX10_type 83 = .ok (.getfield 94, 3) := by decide +kernel
theorem dX10_type_86 : decode cX10_type 86 = .ok (.lload_n 1, 1) := by decide +kernel
theorem dX10_type_87 : decode cX10_type 87 = .ok (.bipush 8, 2) := by decide +kernel
theorem dX10_type_89 : decode cX10_type 89 = .ok (.iload 4, 2) := by decide +kernel
theorem dX10_type_91 : decode cX10_type 91 = .ok (.imul, 1) := by decide +kernel
theorem dX10_type_92 : decode cX10_type 92 = .ok (.lshr, 1) := by decide +kernel
theorem dX10_type_93 : decode cX10_type 93 = .ok (.ldc2_w 88, 3) := by decide +kernel
theorem dX10_type_96 : decode cX10_type 96 = .ok (.land, 1) := by decide +kernel
theorem dX10_type_97 : decode cX10_type 97 = .ok (.l2i, 1) := by decide +kernel
theorem dX10_type_98 : decode cX10_type 98 = .ok (.iastore, 1) := by decide +kernel
theorem dX10_type_99 : decode cX10_type 99 = .ok (.aload_n 0, 1) := by decide +kernel
theorem dX10_type_100 : decode cX10_type 100 = .ok (.dup, 1) := by decide +kernel
theorem dX10_type_101 : decode cX10_type 101 = .ok (.getfield 94, 3) := by decide +kernel
theorem dX10_type_104 : decode cX10_type 104 = .ok (.iconst 1, 1) := by decide +kernel
theorem dX10_type_105 : decode cX10_type 105 = .ok (.iadd, 1) := by decide +kernel
theorem dX10_type_106 : decode cX10_type 106 = .ok (.putfield 94, 3) := by decide +kernel
theorem dX10_type_109 : decode cX10_type 109 = .ok (.iinc 4 (-1), 3) := by decide +kernel
theorem dX10_type_112 : decode cX10_type 112 = .ok (.goto (-39), 3) := by decide +kernel
theorem dX10_type_115 : decode cX10_type 115 = .ok (.aload_n 0, 1) := by decide +kernel
theorem dX10_type_116 : decode cX10_type 116 = .ok (.getfield 94, 3) := by decide +kernel
theorem dX10_type_119 : decode cX10_type 119 = .ok (.ireturn, 1) := by decide +kernel
set_option maxHeartbeats 4000000 in
set_option maxRecDepth 100000 in
theorem cX10_type_k_0 {l : Launch} {D : va_G} {a : Nat → Nat} {k : Nat → ClassId} {n : Nat} {p1 : Int64} {p3 : Int32} {x0 xz : bq_S} {rz : Int32} (h : fX10_type n p1 p3 x0 = some (rz, xz)) : bq_M l D bq_cl (bq_ty k) (bq_wM a k) yX10_type cX10_type 5 (some .int) { frames := 1, cells := 0, slots := 0, locals := 25 } [.ref (a 0), .long p1, .int p3] x0 (some rz) xz := by
  refine bq_ofW RX10 [(0, .ref (a 0)), (1, .long p1), (3, .int p3)] (by decide +kernel) rfl (Nat.le_of_ble_eq_true rfl) rfl (bq_adM a k) ?_
  intro p e s m below meth c A Q ls S hK hD hA hR hS hP hl
  have hx := S.1; have hb := S.2.1; have hml := S.2.2.1; have hown := S.2.2.2.1; have hts := S.2.2.2.2
  have hret : ∀ z, some z = some (rz, xz) → (rz, xz) = z := fun z h => (Option.some.inj h).symm
  unfold fX10_type at h
  refine lv_iload_n hx hb dX10_type_0 rfl (lv_at hl 2 rfl) ?_
  refine lv_i2l hx hb dX10_type_1 rfl ?_
  refine lv_lconst (v := (1 : Int64)) hx hb dX10_type_2 (by decide) ?_
  refine lv_ldc2 hx hb hown (hts _ kl_X10_86) dX10_type_3 ?_
  obtain ⟨o1, ho1, h⟩ := Option.bind_eq_some_iff.mp h
  obtain ⟨v3, x2⟩ := o1
  replace h := un2_e h
  refine bq_callSi (As := [.long _, .long _, .long _]) S hK hD hA hP hS (cX10_in_k ho1) hd_yX10_in ml_X10_66 st_yX10_in ⟨rfl, rfl⟩ ⟨by decide, by decide⟩ rfl hl.1 rfl (Nat.le_of_ble_eq_true rfl) ⟨Nat.zero_le _, Nat.zero_le _⟩ dX10_type_6 (fun H locs hP hS => ?_)
  refine lv_if_ne (tgt := 14) hx hb dX10_type_9 (by decide) (fun c4 => ?_) (fun c4 => ?_)
  · replace h := (if_neg c4).symm.trans h
    refine lv_iconst (v := (0 : Int32)) hx hb dX10_type_14 (by decide) ?_
    refine lv_istore (lv' := [(4, .int (0 : Int32)), (0, .ref (a 0)), (1, .long p1), (3, .int p3)]) hx hb dX10_type_15 hl (by decide) rfl (fun ls hl => ?_)
    have hl17 : ∀ (v5 : Int64) (v6 : Int32) (kf : Nat) (v7 : Int32) (x8 : bq_S) (eo : (Int32 × bq_S) ⊕ (Int32 × bq_S)) (H : Heap) (locs : List Loc) (ls : Array Slot), wh kf (fX10_type_b17 n v5 v6) (v7, x8) = some eo → va_P D bq_cl (bq_wM a k x8) H → va_S A s.heap H locs → lv_has ls 5 [(0, .ref (a 0)), (1, .long v5), (3, .int v6), (4, .int v7)] → (∀ (H : Heap) (locs : List Loc) (ls : Array Slot) (v16 : Int32) (x17 : bq_S), eo = .inl (v16, x17) → va_P D bq_cl (bq_wM a k x17) H → va_S A s.heap H locs → lv_has ls 5 [(0, .ref (a 0)), (1, .long v5), (3, .int v6)] → W p l e { frames := 1, cells := 0, slots := 0, locals := 25 } s m [.ref (a 0), .long p1, .int p3].toArray below meth c H locs 0 0 Q (F0 m 54 ls [])) → (∀ z, eo = .inr z → (rz, xz) = z) → W p l e { frames := 1, cells := 0, slots := 0, locals := 25 } s m [.ref (a 0), .long p1, .int p3].toArray below meth c H locs 0 0 Q (F0 m 17 ls []) := by
      intro v5 v6 kf
      induction kf with
      | zero => intro v7 x8 eo H locs ls h; cases h
      | succ kf ih =>
        intro v7 x8 eo H locs ls h hP hS hl kx kr
        obtain ⟨out, h, hw⟩ := wh_s h
        have hret : ∀ z, (some (.inr (.inr z)) : Option ((Int32 × bq_S) ⊕ ((Int32 × bq_S) ⊕ (Int32 × bq_S)))) = some out → (rz, xz) = z := fun z h => kr z (by cases h; exact (Option.some.inj hw).symm)
        unfold fX10_type_b17 at h
        replace h := un2_e h
        refine lv_iload hx hb dX10_type_17 (lv_at hl 3 rfl) ?_
        refine lv_iload_n hx hb dX10_type_19 rfl (lv_at hl 2 rfl) ?_
        refine lv_icmp_ge (tgt := 54) hx hb dX10_type_20 (by decide) (fun c9 => ?_) (fun c9 => ?_)
        · replace h := (if_pos c9).symm.trans h
          cases h
          exact kx _ _ _ _ _ (Option.some.inj hw).symm hP hS (lv_sub hl [0, 1, 2] rfl)
        · replace h := (if_neg c9).symm.trans h
          refine lv_lload_n hx hb dX10_type_23 rfl (lv_at hl 1 rfl) ?_
          refine lv_bipush (v := (8 : Int32)) hx hb dX10_type_24 (by decide) ?_
          refine lv_iload hx hb dX10_type_26 (lv_at hl 3 rfl) ?_
          refine lv_imul hx hb dX10_type_28 ?_
          refine lv_lshr hx hb dX10_type_29 rfl ?_
          refine lv_ldc2 hx hb hown (hts _ kl_X10_88) dX10_type_30 ?_
          refine lv_land hx hb dX10_type_33 ?_
          refine lv_ldc2 hx hb hown (hts _ kl_X10_90) dX10_type_34 ?_
          refine lv_ldc2 hx hb hown (hts _ kl_X10_92) dX10_type_37 ?_
          obtain ⟨o10, ho10, h⟩ := Option.bind_eq_some_iff.mp h
          obtain ⟨v12, x11⟩ := o10
          replace h := un2_e h
          refine bq_callSi (As := [.long _, .long _, .long _]) S hK hD hA hP hS (cX10_in_k ho10) hd_yX10_in ml_X10_66 st_yX10_in ⟨rfl, rfl⟩ ⟨by decide, by decide⟩ rfl hl.1 rfl (Nat.le_of_ble_eq_true rfl) ⟨Nat.zero_le _, Nat.zero_le _⟩ dX10_type_40 (fun H locs hP hS => ?_)
          refine lv_if_ne (tgt := 48) hx hb dX10_type_43 (by decide) (fun c13 => ?_) (fun c13 => ?_)
          · replace h := (if_neg c13).symm.trans h
            obtain ⟨v14, hv14, h⟩ := bq_b h
            refine lv_iinc (v := v14) (lv' := [(4, .int v14), (0, .ref (a 0)), (1, .long v5), (3, .int v6)]) hx hb dX10_type_48 hl (k := 3) rfl (by rw [hv14]; rfl) (by decide) rfl (fun ls hl => ?_)
            refine lv_goto (tgt := 17) hx hb dX10_type_51 (by decide) ?_
            cases h
            exact ih _ _ _ _ _ _ hw hP hS (lv_sub hl [1, 2, 3, 0] rfl) kx kr
          · replace h := (if_pos c13).symm.trans h
            refine lv_iconst (v := (-1 : Int32)) hx hb dX10_type_46 (by decide) ?_
            obtain ⟨e1, e2⟩ := Prod.mk.inj (hret _ h)
            exact hR _ _ _ _ _ (congrArg some e1) rfl (by rw [e2]; exact hP) hS dX10_type_47
    obtain ⟨e15, he15, h⟩ := Option.bind_eq_some_iff.mp h
    refine hl17 _ _ n _ _ e15 _ _ _ he15 hP hS (lv_sub hl [1, 2, 3, 0] rfl) (fun H locs ls v16 x17 hz hP hS hl => ?_) (fun z hz => hret z (bq_ir h hz :))
    replace h := bq_il h hz
    replace h := un2_e h
    refine lv_aload_n hx hb dX10_type_54 rfl (lv_at hl 0 rfl) ?_
    refine bq_get (q0 := 0) S hK hP fl_X10_94_X10_9 rfl rfl rfl dX10_type_55 ?_
    refine lv_iload_n hx hb dX10_type_58 rfl (lv_at hl 2 rfl) ?_
    refine lv_iadd hx hb dX10_type_59 ?_
    refine lv_bipush (v := (60 : Int32)) hx hb dX10_type_60 (by decide) ?_
    refine lv_icmp_le (tgt := 68) hx hb dX10_type_62 (by decide) (fun c18 => ?_) (fun c18 => ?_)
    · replace h := (if_pos c18).symm.trans h
      refine lv_iload_n hx hb dX10_type_68 rfl (lv_at hl 2 rfl) ?_
      refine lv_iconst (v := (1 : Int32)) hx hb dX10_type_69 (by decide) ?_
      refine lv_isub hx hb dX10_type_70 ?_
      refine lv_topi (fun v19 hv19 => ?_)
      replace h := bq_bv h hv19
      refine lv_istore (lv' := [(4, .int v19), (0, .ref (a 0)), (1, .long p1), (3, .int p3)]) hx hb dX10_type_71 hl (by decide) rfl (fun ls hl => ?_)
      have hl73 : ∀ (v20 : Int64) (kf : Nat) (v21 : Int32) (x22 : bq_S) (eo : Int32 × bq_S) (H : Heap) (locs : List Loc) (ls : Array Slot), wh kf (fX10_type_b73 n v20) (v21, x22) = some eo → va_P D bq_cl (bq_wM a k x22) H → va_S A s.heap H locs → lv_has ls 5 [(0, .ref (a 0)), (1, .long v20), (4, .int v21)] → (∀ (H : Heap) (locs : List Loc) (ls : Array Slot) (v29 : Int32) (x30 : bq_S), eo = (v29, x30) → va_P D bq_cl (bq_wM a k x30) H → va_S A s.heap H locs → lv_has ls 5 [(0, .ref (a 0))] → W p l e { frames := 1, cells := 0, slots := 0, locals := 25 } s m [.ref (a 0), .long p1, .int p3].toArray below meth c H locs 0 0 Q (F0 m 115 ls [])) → W p l e { frames := 1, cells := 0, slots := 0, locals := 25 } s m [.ref (a 0), .long p1, .int p3].toArray below meth c H locs 0 0 Q (F0 m 73 ls []) := by
        intro v20 kf
        induction kf with
        | zero => intro v21 x22 eo H locs ls h; cases h
        | succ kf ih =>
          intro v21 x22 eo H locs ls h hP hS hl kx
          obtain ⟨out, h, hw⟩ := wh_s h
          unfold fX10_type_b73 at h
          replace h := un2_e h
          refine lv_iload hx hb dX10_type_73 (lv_at hl 2 rfl) ?_
          refine lv_if_lt (tgt := 115) hx hb dX10_type_75 (by decide) (fun c23 => ?_) (fun c23 => ?_)
          · replace h := (if_pos c23).symm.trans h
            cases h
            exact kx _ _ _ _ _ (Option.some.inj hw).symm hP hS (lv_sub hl [0] rfl)
          · replace h := (if_neg c23).symm.trans h
            refine lv_aload_n hx hb dX10_type_78 rfl (lv_at hl 0 rfl) ?_
            refine bq_get (q0 := 0) S hK hP fl_X10_25_X10_8 rfl rfl rfl dX10_type_79 ?_
            refine lv_aload_n hx hb dX10_type_82 rfl (lv_at hl 0 rfl) ?_
            refine bq_get (q0 := 0) S hK hP fl_X10_94_X10_9 rfl rfl rfl dX10_type_83 ?_
            refine lv_lload_n hx hb dX10_type_86 rfl (lv_at hl 1 rfl) ?_
            refine lv_bipush (v := (8 : Int32)) hx hb dX10_type_87 (by decide) ?_
            refine lv_iload hx hb dX10_type_89 (lv_at hl 2 rfl) ?_
            refine lv_imul hx hb dX10_type_91 ?_
            refine lv_lshr hx hb dX10_type_92 rfl ?_
            refine lv_ldc2 hx hb hown (hts _ kl_X10_88) dX10_type_93 ?_
            refine lv_land hx hb dX10_type_96 ?_
            refine lv_l2i hx hb dX10_type_97 rfl ?_
            obtain ⟨g25, h⟩ := bq_gd h
            obtain ⟨x24, hx24, h⟩ := bq_b h
            refine bq_iast (x1 := x24) (q0 := 6) (t0 := 0) S hK hD hP hS rfl rfl g25 (by rw [hx24]; rfl) dX10_type_98 (fun H locs hP hS => ?_)
            refine lv_aload_n hx hb dX10_type_99 rfl (lv_at hl 0 rfl) ?_
            refine lv_dup hx hb dX10_type_100 rfl ?_
            refine bq_get (q0 := 0) S hK hP fl_X10_94_X10_9 rfl rfl rfl dX10_type_101 ?_
            refine lv_iconst (v := (1 : Int32)) hx hb dX10_type_104 (by decide) ?_
            refine lv_iadd hx hb dX10_type_105 ?_
            obtain ⟨x26, hx26, h⟩ := bq_b h
            refine bq_put (x1 := x26) (q0 := 0) (ty := .int) S hK hD hP hS fl_X10_94_X10_9 bt_X10 rfl (by decide +kernel) rfl rfl (Nat.le_of_ble_eq_true rfl) rfl rfl (by rw [hx26]; rfl) dX10_type_106 (fun H locs hP hS => ?_)
            obtain ⟨v27, hv27, h⟩ := bq_b h
            refine lv_iinc (v := v27) (lv' := [(4, .int v27), (0, .ref (a 0)), (1, .long v20)]) hx hb dX10_type_109 hl (k := 2) rfl (by rw [hv27]; rfl) (by decide) rfl (fun ls hl => ?_)
            refine lv_goto (tgt := 73) hx hb dX10_type_112 (by decide) ?_
            cases h
            exact ih _ _ _ _ _ _ hw hP hS (lv_sub hl [1, 2, 0] rfl) kx
      obtain ⟨e28, he28, h⟩ := Option.bind_eq_some_iff.mp h
      refine hl73 _ n _ _ e28 _ _ _ he28 hP hS (lv_sub hl [1, 2, 0] rfl) (fun H locs ls v29 x30 hz hP hS hl => ?_)
      subst hz
      replace h := un2_e h
      refine lv_aload_n hx hb dX10_type_115 rfl (lv_at hl 0 rfl) ?_
      refine bq_get (q0 := 0) S hK hP fl_X10_94_X10_9 rfl rfl rfl dX10_type_116 ?_
      obtain ⟨e1, e2⟩ := Prod.mk.inj (hret _ h)
      exact hR _ _ _ _ _ (congrArg some e1) rfl (by rw [e2]; exact hP) hS dX10_type_119
    · replace h := (if_neg c18).symm.trans h
      refine lv_bipush (v := (-3 : Int32)) hx hb dX10_type_65 (by decide) ?_
      obtain ⟨e1, e2⟩ := Prod.mk.inj (hret _ h)
      exact hR _ _ _ _ _ (congrArg some e1) rfl (by rw [e2]; exact hP) hS dX10_type_67
  · replace h := (if_pos c4).symm.trans h
    refine lv_iconst (v := (-1 : Int32)) hx hb dX10_type_12 (by decide) ?_
    obtain ⟨e1, e2⟩ := Prod.mk.inj (hret _ h)
    exact hR _ _ _ _ _ (congrArg some e1) rfl (by rw [e2]; exact hP) hS dX10_type_13
def fX10_here_b0 (n : Nat) (v : bq_S) : Option ((bq_S) ⊕ (bq_S)) :=
  un1 v (fun x1 =>
  if (x1.1 0 9) ≤ (x1.1 0 10) then
  some (.inr x1)
  else
  if ok_i (x1.1 0 10) 60 then
  if (x1.1 6 (x1.1 0 10).toNatClampNeg) = (32 : Int32) then
  bd (bq_sI x1 0 10 ((x1.1 0 10) + (1 : Int32))) (fun x5 =>
  some (.inl x5))
  else
  some (.inr x1)
  else none)
def fX10_here_j38 (n : Nat) (x8 : bq_S) : Option (Int32 × bq_S) :=
  if (x8.1 0 9) ≤ (x8.1 0 10) then
  some ((0 : Int32), x8)
  else
  if ok_i (x8.1 0 10) 60 then
  some ((x8.1 6 (x8.1 0 10).toNatClampNeg), x8)
  else none
def fX10_here (n : Nat) (x0 : bq_S) : Option (Int32 × bq_S) :=
  (wh n (fX10_here_b0 n) x0).bind (fun e6 => un1 e6 (fun x7 =>
  fX10_here_j38 n x7))
theorem dX10_here_0 : decode cX10_here 0 = .ok (.aload_n 0, 1) := by decide +kernel
theorem dX10_here_1 : decode cX10_here 1 = .ok (.getfield 97, 3) := by decide +kernel
theorem dX10_here_4 : decode cX10_here 4 = .ok (.aload_n 0, 1) := by decide +kernel
theorem dX10_here_5 : decode cX10_here 5 = .ok (.getfield 94, 3) := by decide +kernel
theorem dX10_here_8 : decode cX10_here 8 = .ok (.if_icmp .ge 30, 3) := by decide +kernel
theorem dX10_here_11 : decode cX10_here 11 = .ok (.aload_n 0, 1) := by decide +kernel
theorem dX10_here_12 : decode cX10_here 12 = .ok (.getfield 25, 3) := by decide +kernel
theorem dX10_here_15 : decode cX10_here 15 = .ok (.aload_n 0, 1) := by decide +kernel
theorem dX10_here_16 : decode cX10_here 16 = .ok (.getfield 97, 3) := by decide +kernel
theorem dX10_here_19 : decode cX10_here 19 = .ok (.iaload, 1) := by decide +kernel
theorem dX10_here_20 : decode cX10_here 20 = .ok (.bipush 32, 2) := by decide +kernel
theorem dX10_here_22 : decode cX10_here 22 = .ok (.if_icmp .ne 16, 3) := by decide +kernel
theorem dX10_here_25 : decode cX10_here 25 = .ok (.aload_n 0, 1) := by decide +kernel
theorem dX10_here_26 : decode cX10_here 26 = .ok (.dup, 1) := by decide +kernel
theorem dX10_here_27 : decode cX10_here 27 = .ok (.getfield 97, 3) := by decide +kernel
theorem dX10_here_30 : decode cX10_here 30 = .ok (.iconst 1, 1) := by decide +kernel
theorem dX10_here_31 : decode cX10_here 31 = .ok (.iadd, 1) := by decide +kernel
theorem dX10_here_32 : decode cX10_here 32 = .ok (.putfield 97, 3) := by decide +kernel
theorem dX10_here_35 : decode cX10_here 35 = .ok (.goto (-35), 3) := by decide +kernel
theorem dX10_here_38 : decode cX10_here 38 = .ok (.aload_n 0, 1) := by decide +kernel
theorem dX10_here_39 : decode cX10_here 39 = .ok (.getfield 97, 3) := by decide +kernel
theorem dX10_here_42 : decode cX10_here 42 = .ok (.aload_n 0, 1) := by decide +kernel
theorem dX10_here_43 : decode cX10_here 43 = .ok (.getfield 94, 3) := by decide +kernel
theorem dX10_here_46 : decode cX10_here 46 = .ok (.if_icmp .ge 15, 3) := by decide +kernel
theorem dX10_here_49 : decode cX10_here 49 = .ok (.aload_n 0, 1) := by decide +kernel
theorem dX10_here_50 : decode cX10_here 50 = .ok (.getfield 25, 3) := by decide +kernel
theorem dX10_here_53 : decode cX10_here 53 = .ok (.aload_n 0, 1) := by decide +kernel
theorem dX10_here_54 : decode cX10_here 54 = .ok (.getfield 97, 3) := by decide +kernel
theorem dX10_here_57 : decode cX10_here 57 = .ok (.iaload, 1) := by decide +kernel
theorem dX10_here_58 : decode cX10_here 58 = .ok (.goto 4, 3) := by decide +kernel
theorem dX10_here_61 : decode cX10_here 61 = .ok (.iconst 0, 1) := by decide +kernel
theorem dX10_here_62 : decode cX10_here 62 = .ok (.ireturn, 1) := by decide +kernel
set_option maxHeartbeats 4000000 in
set_option maxRecDepth 100000 in
theorem cX10_here_k_0 {l : Launch} {D : va_G} {a : Nat → Nat} {k : Nat → ClassId} {n : Nat} {x0 xz : bq_S} {rz : Int32} (h : fX10_here n  x0 = some (rz, xz)) : bq_M l D bq_cl (bq_ty k) (bq_wM a k) yX10_here cX10_here 1 (some .int) { frames := 0, cells := 0, slots := 0, locals := 0 } [.ref (a 0)] x0 (some rz) xz := by
  refine bq_ofW RX10 [(0, .ref (a 0))] (by decide +kernel) rfl (Nat.le_of_ble_eq_true rfl) rfl (bq_adM a k) ?_
  intro p e s m below meth c A Q ls S hK hD hA hR hS hP hl
  have hx := S.1; have hb := S.2.1; have hml := S.2.2.1; have hown := S.2.2.2.1; have hts := S.2.2.2.2
  have hret : ∀ z, some z = some (rz, xz) → (rz, xz) = z := fun z h => (Option.some.inj h).symm
  unfold fX10_here at h
  have hj38 : ∀ (x8 : bq_S) (H : Heap) (locs : List Loc) (ls : Array Slot), fX10_here_j38 n x8 = some (rz, xz) → va_P D bq_cl (bq_wM a k x8) H → va_S A s.heap H locs → lv_has ls 1 [(0, .ref (a 0))] → W p l e { frames := 0, cells := 0, slots := 0, locals := 0 } s m [.ref (a 0)].toArray below meth c H locs 0 0 Q (F0 m 38 ls []) := by
    intro  x8 H locs ls h hP hS hl
    unfold fX10_here_j38 at h
    refine lv_aload_n hx hb dX10_here_38 rfl (lv_at hl 0 rfl) ?_
    refine bq_get (q0 := 0) S hK hP fl_X10_97_X10_10 rfl rfl rfl dX10_here_39 ?_
    refine lv_aload_n hx hb dX10_here_42 rfl (lv_at hl 0 rfl) ?_
    refine bq_get (q0 := 0) S hK hP fl_X10_94_X10_9 rfl rfl rfl dX10_here_43 ?_
    refine lv_icmp_ge (tgt := 61) hx hb dX10_here_46 (by decide) (fun c9 => ?_) (fun c9 => ?_)
    · replace h := (if_pos c9).symm.trans h
      refine lv_iconst (v := (0 : Int32)) hx hb dX10_here_61 (by decide) ?_
      obtain ⟨e1, e2⟩ := Prod.mk.inj (hret _ h)
      exact hR _ _ _ _ _ (congrArg some e1) rfl (by rw [e2]; exact hP) hS dX10_here_62
    · replace h := (if_neg c9).symm.trans h
      refine lv_aload_n hx hb dX10_here_49 rfl (lv_at hl 0 rfl) ?_
      refine bq_get (q0 := 0) S hK hP fl_X10_25_X10_8 rfl rfl rfl dX10_here_50 ?_
      refine lv_aload_n hx hb dX10_here_53 rfl (lv_at hl 0 rfl) ?_
      refine bq_get (q0 := 0) S hK hP fl_X10_97_X10_10 rfl rfl rfl dX10_here_54 ?_
      obtain ⟨g10, h⟩ := bq_gd h
      refine va_iald (D := D) hx hb hK hP 6 0 rfl rfl g10 dX10_here_57 ?_
      refine lv_goto (tgt := 62) hx hb dX10_here_58 (by decide) ?_
      obtain ⟨e1, e2⟩ := Prod.mk.inj (hret _ h)
      exact hR _ _ _ _ _ (congrArg some e1) rfl (by rw [e2]; exact hP) hS dX10_here_62
  have hl0 : ∀ (kf : Nat) (x1 : bq_S) (eo : bq_S) (H : Heap) (locs : List Loc) (ls : Array Slot), wh kf (fX10_here_b0 n ) x1 = some eo → va_P D bq_cl (bq_wM a k x1) H → va_S A s.heap H locs → lv_has ls 1 [(0, .ref (a 0))] → (∀ (H : Heap) (locs : List Loc) (ls : Array Slot) (x7 : bq_S), eo = x7 → va_P D bq_cl (bq_wM a k x7) H → va_S A s.heap H locs → lv_has ls 1 [(0, .ref (a 0))] → W p l e { frames := 0, cells := 0, slots := 0, locals := 0 } s m [.ref (a 0)].toArray below meth c H locs 0 0 Q (F0 m 38 ls [])) → W p l e { frames := 0, cells := 0, slots := 0, locals := 0 } s m [.ref (a 0)].toArray below meth c H locs 0 0 Q (F0 m 0 ls []) := by
    intro  kf
    induction kf with
    | zero => intro x1 eo H locs ls h; cases h
    | succ kf ih =>
      intro x1 eo H locs ls h hP hS hl kx
      obtain ⟨out, h, hw⟩ := wh_s h
      unfold fX10_here_b0 at h
      replace h := un1_e h
      refine lv_aload_n hx hb dX10_here_0 rfl (lv_at hl 0 rfl) ?_
      refine bq_get (q0 := 0) S hK hP fl_X10_97_X10_10 rfl rfl rfl dX10_here_1 ?_
      refine lv_aload_n hx hb dX10_here_4 rfl (lv_at hl 0 rfl) ?_
      refine bq_get (q0 := 0) S hK hP fl_X10_94_X10_9 rfl rfl rfl dX10_here_5 ?_
      refine lv_icmp_ge (tgt := 38) hx hb dX10_here_8 (by decide) (fun c2 => ?_) (fun c2 => ?_)
      · replace h := (if_pos c2).symm.trans h
        cases h
        exact kx _ _ _ _ (Option.some.inj hw).symm hP hS (lv_sub hl [0] rfl)
      · replace h := (if_neg c2).symm.trans h
        refine lv_aload_n hx hb dX10_here_11 rfl (lv_at hl 0 rfl) ?_
        refine bq_get (q0 := 0) S hK hP fl_X10_25_X10_8 rfl rfl rfl dX10_here_12 ?_
        refine lv_aload_n hx hb dX10_here_15 rfl (lv_at hl 0 rfl) ?_
        refine bq_get (q0 := 0) S hK hP fl_X10_97_X10_10 rfl rfl rfl dX10_here_16 ?_
        obtain ⟨g3, h⟩ := bq_gd h
        refine va_iald (D := D) hx hb hK hP 6 0 rfl rfl g3 dX10_here_19 ?_
        refine lv_bipush (v := (32 : Int32)) hx hb dX10_here_20 (by decide) ?_
        refine lv_icmp_ne (tgt := 38) hx hb dX10_here_22 (by decide) (fun c4 => ?_) (fun c4 => ?_)
        · replace h := (if_neg c4).symm.trans h
          cases h
          exact kx _ _ _ _ (Option.some.inj hw).symm hP hS (lv_sub hl [0] rfl)
        · replace h := (if_pos c4).symm.trans h
          refine lv_aload_n hx hb dX10_here_25 rfl (lv_at hl 0 rfl) ?_
          refine lv_dup hx hb dX10_here_26 rfl ?_
          refine bq_get (q0 := 0) S hK hP fl_X10_97_X10_10 rfl rfl rfl dX10_here_27 ?_
          refine lv_iconst (v := (1 : Int32)) hx hb dX10_here_30 (by decide) ?_
          refine lv_iadd hx hb dX10_here_31 ?_
          obtain ⟨x5, hx5, h⟩ := bq_b h
          refine bq_put (x1 := x5) (q0 := 0) (ty := .int) S hK hD hP hS fl_X10_97_X10_10 bt_X10 rfl (by decide +kernel) rfl rfl (Nat.le_of_ble_eq_true rfl) rfl rfl (by rw [hx5]; rfl) dX10_here_32 (fun H locs hP hS => ?_)
          refine lv_goto (tgt := 0) hx hb dX10_here_35 (by decide) ?_
          cases h
          exact ih _ _ _ _ _ hw hP hS (lv_sub hl [0] rfl) kx
  obtain ⟨e6, he6, h⟩ := Option.bind_eq_some_iff.mp h
  refine hl0 n _ e6 _ _ _ he6 hP hS (lv_sub hl [0] rfl) (fun H locs ls x7 hz hP hS hl => ?_)
  subst hz
  replace h := un1_e h
  exact hj38  _ _ _ _ h hP hS (lv_sub hl [0] rfl)
def fX10_digit_j112 (n : Nat) (v24 : Int32) (v25 : Int32) (v26 : Int32) (x27 : bq_S) : Option (Int32 × bq_S) :=
  bd (bq_sI x27 0 10 (v25 + v26)) (fun x28 =>
  some ((v24 - (48 : Int32)), x28))
def fX10_digit_j92 (n : Nat) (v18 : Int32) (v19 : Int32) (x20 : bq_S) : Option (Int32 × bq_S) :=
  if v19 = 0 ∨ v19 = 1 then
  bd (bq_sI x20 0 11 v19) (fun x21 =>
  if (x21.1 0 11) = 0 then
  fX10_digit_j112 n v18 (x21.1 0 10) (1 : Int32) x21
  else
  fX10_digit_j112 n v18 (x21.1 0 10) (0 : Int32) x21)
  else none
def fX10_digit_j72 (n : Nat) (v14 : Int32) (v15 : Int32) (x16 : bq_S) : Option (Int32 × bq_S) :=
  if (x16.1 0 11) = 0 then
  if v15 = 0 then
  fX10_digit_j92 n v14 (1 : Int32) x16
  else
  fX10_digit_j92 n v14 (0 : Int32) x16
  else
  fX10_digit_j92 n v14 (1 : Int32) x16
def fX10_digit_j61 (n : Nat) (v34 : Int32) (v35 : Int32) (v36 : Int32) (x37 : bq_S) : Option (Int32 × bq_S) :=
  if ((v35 >>> (v36 &&& 31)) &&& (1 : Int32)) = 0 then
  fX10_digit_j72 n v34 (1 : Int32) x37
  else
  fX10_digit_j72 n v34 (0 : Int32) x37
def fX10_digit_j15 (n : Nat) (v5 : Int32) (v6 : Int32) (v7 : Int32) (v8 : Int32) (x9 : bq_S) : Option (Int32 × bq_S) :=
  (fX10_in v8.toInt64 ((48 : Int32) + v5).toInt64 ((48 : Int32) + v6).toInt64 x9).bind (fun o10 => un2 o10 (fun v12 x11 =>
  if v12 = 0 then
  fX10_digit_j72 n v8 (0 : Int32) x11
  else
  (fX10_in v8.toInt64 (48 : Int64) (57 : Int64) x11).bind (fun o30 => un2 o30 (fun v32 x31 =>
  if v32 = 0 then
  fX10_digit_j61 n v8 v7 (0 : Int32) x31
  else
  fX10_digit_j61 n v8 v7 (v8 - (48 : Int32)) x31))))
def fX10_digit (n : Nat) (p1 : Int32) (p2 : Int32) (p3 : Int32) (x0 : bq_S) : Option (Int32 × bq_S) :=
  if (x0.1 0 11) = 0 then
  (fX10_here n  x0).bind (fun o2 => un2 o2 (fun v4 x3 =>
  fX10_digit_j15 n p1 p2 p3 v4 x3))
  else
  fX10_digit_j15 n p1 p2 p3 (0 : Int32) x0
theorem dX10_digit_0 : decode cX10_digit 0 = .ok (.aload_n 0, 1) := by decide +kernel
theorem dX10_digit_1 : decode cX10_digit 1 = .ok (.getfield 100, 3) := by decide +kernel
theorem dX10_digit_4 : decode cX10_digit 4 = .ok (.ifCond .eq 7, 3) := by decide +kernel
theorem dX10_digit_7 : decode cX10_digit 7 = .ok (.iconst 0, 1) := by decide +kernel
theorem dX10_digit_8 : decode cX10_digit 8 = .ok (.goto 7, 3) := by decide +kernel
theorem dX10_digit_11 : decode cX10_digit 11 = .ok (.aload_n 0, 1) := by decide +kernel
theorem dX10_digit_12 : decode cX10_digit 12 = .ok (.invokevirtual 104, 3) := by decide +kernel
theorem dX10_digit_15 : decode cX10_digit 15 = .ok (.istore 4, 2) := by decide +kernel
theorem dX10_digit_17 : decode cX10_digit 17 = .ok (.iload 4, 2) := by decide +kernel
theorem dX10_digit_19 : decode cX10_digit 19 = .ok (.i2l, 1) := by decide +kernel
theorem dX10_digit_20 : decode cX10_digit 20 = .ok (.bipush 48, 2) := by decide +kernel
theorem dX10_digit_22 : decode cX10_digit 22 = .ok (.iload_n 1, 1) := by decide +kernel
theorem dX10_digit_23 : decode cX10_digit 23 = .ok (.iadd, 1) := by decide +kernel
theorem dX10_digit_24 : decode cX10_digit 24 = .ok (.i2l, 1) := by decide +kernel
theorem dX10_digit_25 : decode cX10_digit 25 = .ok (.bipush 48, 2) := by decide +kernel
theorem dX10_digit_27 : decode cX10_digit 27 = .ok (.iload_n 2, 1) := by decide +kernel
theorem dX10_digit_28 : decode cX10_digit 28 = .ok (.iadd, 1) := by decide +kernel
theorem dX10_digit_29 : decode cX10_digit 29 = .ok (.i2l, 1) := by decide +kernel
theorem dX10_digit_30 : decode cX10_digit 30 = .ok (.invokestatic 66, 3) := by decide +kernel
theorem dX10_digit_33 : decode cX10_digit 33 = .ok (.ifCond .eq 38, 3) := by decide +kernel
theorem dX10_digit_36 : decode cX10_digit 36 = .ok (.iload_n 3, 1) := by decide +kernel
theorem dX10_digit_37 : decode cX10_digit 37 = .ok (.iload 4, 2) := by decide +kernel
theorem dX10_digit_39 : decode cX10_digit 39 = .ok (.i2l, 1) := by decide +kernel
theorem dX10_digit_40 : decode cX10_digit 40 = .ok (.ldc2_w 108, 3) := by decide +kernel
theorem dX10_digit_43 : decode cX10_digit 43 = .ok (.ldc2_w 110, 3) := by decide +kernel
theorem dX10_digit_46 : decode cX10_digit 46 = .ok (.invokestatic 66, 3) := by decide +kernel
theorem dX10_digit_49 : decode cX10_digit 49 = .ok (.ifCond .eq 11, 3) := by decide +kernel
theorem dX10_digit_52 : decode cX10_digit 52 = .ok (.iload 4, 2) := by decide +kernel
theorem dX10_digit_54 : decode cX10_digit 54 = .ok (.bipush 48, 2) := by decide +kernel
theorem dX10_digit_56 : decode cX10_digit 56 = .ok (.isub, 1) := by decide +kernel
theorem dX10_digit_57 : decode cX10_digit 57 = .ok (.goto 4, 3) := by decide +kernel
theorem dX10_digit_60 : decode cX10_digit 60 = .ok (.iconst 0, 1) := by decide +kernel
theorem dX10_digit_61 : decode cX10_digit 61 = .ok (.ishr, 1) := by decide +kernel
theorem dX10_digit_62 : decode cX10_digit 62 = .ok (.iconst 1, 1) := by decide +kernel
theorem dX10_digit_63 : decode cX10_digit 63 = .ok (.iand, 1) := by decide +kernel
theorem dX10_digit_64 : decode cX10_digit 64 = .ok (.ifCond .ne 7, 3) := by decide +kernel
theorem dX10_digit_67 : decode cX10_digit 67 = .ok (.iconst 1, 1) := by decide +kernel
theorem dX10_digit_68 : decode cX10_digit 68 = .ok (.goto 4, 3) := by decide +kernel
theorem dX10_digit_71 : decode cX10_digit 71 = .ok (.iconst 0, 1) := by decide +kernel
theorem dX10_digit_72 : decode cX10_digit 72 = .ok (.istore 5, 2) := by decide +kernel
theorem dX10_digit_74 : decode cX10_digit 74 = .ok (.aload_n 0, 1) := by decide +kernel
theorem dX10_digit_75 : decode cX10_digit 75 = .ok (.aload_n 0, 1) := by decide +kernel
theorem dX10_digit_76 : decode cX10_digit 76 = .ok (.getfield 100, 3) := by decide +kernel
theorem dX10_digit_79 : decode cX10_digit 79 = .ok (.ifCond .ne 8, 3) := by decide +kernel
theorem dX10_digit_82 : decode cX10_digit 82 = .ok (.iload 5, 2) := by decide +kernel
theorem dX10_digit_84 : decode cX10_digit 84 = .ok (.ifCond .ne 7, 3) := by decide +kernel
theorem dX10_digit_87 : decode cX10_digit 87 = .ok (.iconst 1, 1) := by decide +kernel
theorem dX10_digit_88 : decode cX10_digit 88 = .ok (.goto 4, 3) := by decide +kernel
theorem dX10_digit_91 : decode cX10_digit 91 = .ok (.iconst 0, 1) := by decide +kernel
theorem dX10_digit_92 : decode cX10_digit 92 = .ok (.putfield 100, 3) := by decide +kernel
theorem dX10_digit_95 : decode cX10_digit 95 = .ok (.aload_n 0, 1) := by decide +kernel
theorem dX10_digit_96 : decode cX10_digit 96 = .ok (.dup, 1) := by decide +kernel
theorem dX10_digit_97 : decode cX10_digit 97 = .ok (.getfield 97, 3) := by decide +kernel
theorem dX10_digit_100 : decode cX10_digit 100 = .ok (.aload_n 0, 1) := by decide +kernel
theorem dX10_digit_101 : decode cX10_digit 101 = .ok (.getfield 100, 3) := by decide +kernel
theorem dX10_digit_104 : decode cX10_digit 104 = .ok (.ifCond .eq 7, 3) := by decide +kernel
theorem dX10_digit_107 : decode cX10_digit 107 = .ok (.iconst 0, 1) := by decide +kernel
theorem dX10_digit_108 : decode cX10_digit 108 = .ok (.goto 4, 3) := by decide +kernel
theorem dX10_digit_111 : decode cX10_digit 111 = .ok (.iconst 1, 1) := by decide +kernel
theorem dX10_digit_112 : decode cX10_digit 112 = .ok (.iadd, 1) := by decide +kernel
theorem dX10_digit_113 : decode cX10_digit 113 = .ok (.putfield 97, 3) := by decide +kernel
theorem dX10_digit_116 : decode cX10_digit 116 = .ok (.iload 4, 2) := by decide +kernel
theorem dX10_digit_118 : decode cX10_digit 118 = .ok (.bipush 48, 2) := by decide +kernel
theorem dX10_digit_120 : decode cX10_digit 120 = .ok (.isub, 1) := by decide +kernel
theorem dX10_digit_121 : decode cX10_digit 121 = .ok (.ireturn, 1) := by decide +kernel
set_option maxHeartbeats 4000000 in
set_option maxRecDepth 100000 in
theorem cX10_digit_k_0 {l : Launch} {D : va_G} {a : Nat → Nat} {k : Nat → ClassId} {n : Nat} {p1 : Int32} {p2 : Int32} {p3 : Int32} {x0 xz : bq_S} {rz : Int32} (h : fX10_digit n p1 p2 p3 x0 = some (rz, xz)) : bq_M l D bq_cl (bq_ty k) (bq_wM a k) yX10_digit cX10_digit 6 (some .int) { frames := 1, cells := 0, slots := 0, locals := 25 } [.ref (a 0), .int p1, .int p2, .int p3] x0 (some rz) xz := by
  refine bq_ofW RX10 [(0, .ref (a 0)), (1, .int p1), (2, .int p2), (3, .int p3)] (by decide +kernel) rfl (Nat.le_of_ble_eq_true rfl) rfl (bq_adM a k) ?_
  intro p e s m below meth c A Q ls S hK hD hA hR hS hP hl
  have hx := S.1; have hb := S.2.1; have hml := S.2.2.1; have hown := S.2.2.2.1; have hts := S.2.2.2.2
  have hret : ∀ z, some z = some (rz, xz) → (rz, xz) = z := fun z h => (Option.some.inj h).symm
  unfold fX10_digit at h
  have hj112 : ∀ (v24 : Int32) (v25 : Int32) (v26 : Int32) (x27 : bq_S) (H : Heap) (locs : List Loc) (ls : Array Slot), fX10_digit_j112 n v24 v25 v26 x27 = some (rz, xz) → va_P D bq_cl (bq_wM a k x27) H → va_S A s.heap H locs → lv_has ls 6 [(4, .int v24)] → W p l e { frames := 1, cells := 0, slots := 0, locals := 25 } s m [.ref (a 0), .int p1, .int p2, .int p3].toArray below meth c H locs 0 0 Q (F0 m 112 ls [.int v26, .int v25, .ref (a 0)]) := by
    intro v24 v25 v26 x27 H locs ls h hP hS hl
    unfold fX10_digit_j112 at h
    refine lv_iadd hx hb dX10_digit_112 ?_
    obtain ⟨x28, hx28, h⟩ := bq_b h
    refine bq_put (x1 := x28) (q0 := 0) (ty := .int) S hK hD hP hS fl_X10_97_X10_10 bt_X10 rfl (by decide +kernel) rfl rfl (Nat.le_of_ble_eq_true rfl) rfl rfl (by rw [hx28]; rfl) dX10_digit_113 (fun H locs hP hS => ?_)
    refine lv_iload hx hb dX10_digit_116 (lv_at hl 0 rfl) ?_
    refine lv_bipush (v := (48 : Int32)) hx hb dX10_digit_118 (by decide) ?_
    refine lv_isub hx hb dX10_digit_120 ?_
    obtain ⟨e1, e2⟩ := Prod.mk.inj (hret _ h)
    exact hR _ _ _ _ _ (congrArg some e1) rfl (by rw [e2]; exact hP) hS dX10_digit_121
  have hj92 : ∀ (v18 : Int32) (v19 : Int32) (x20 : bq_S) (H : Heap) (locs : List Loc) (ls : Array Slot), fX10_digit_j92 n v18 v19 x20 = some (rz, xz) → va_P D bq_cl (bq_wM a k x20) H → va_S A s.heap H locs → lv_has ls 6 [(0, .ref (a 0)), (4, .int v18)] → W p l e { frames := 1, cells := 0, slots := 0, locals := 25 } s m [.ref (a 0), .int p1, .int p2, .int p3].toArray below meth c H locs 0 0 Q (F0 m 92 ls [.int v19, .ref (a 0)]) := by
    intro v18 v19 x20 H locs ls h hP hS hl
    unfold fX10_digit_j92 at h
    obtain ⟨g22, h⟩ := bq_gp h
    obtain ⟨x21, hx21, h⟩ := bq_b h
    refine bq_put (x1 := x21) (q0 := 0) (ty := .boolean) S hK hD hP hS fl_X10_100_X10_11 bt_X10 rfl (by decide +kernel) rfl rfl (Nat.le_of_ble_eq_true rfl) (bq_z g22) (bq_zf g22) (by rw [hx21]; rfl) dX10_digit_92 (fun H locs hP hS => ?_)
    refine lv_aload_n hx hb dX10_digit_95 rfl (lv_at hl 0 rfl) ?_
    refine lv_dup hx hb dX10_digit_96 rfl ?_
    refine bq_get (q0 := 0) S hK hP fl_X10_97_X10_10 rfl rfl rfl dX10_digit_97 ?_
    refine lv_aload_n hx hb dX10_digit_100 rfl (lv_at hl 0 rfl) ?_
    refine bq_get (q0 := 0) S hK hP fl_X10_100_X10_11 rfl rfl rfl dX10_digit_101 ?_
    refine lv_if_eq (tgt := 111) hx hb dX10_digit_104 (by decide) (fun c23 => ?_) (fun c23 => ?_)
    · replace h := (if_pos c23).symm.trans h
      refine lv_iconst (v := (1 : Int32)) hx hb dX10_digit_111 (by decide) ?_
      exact hj112 _ _ _ _ _ _ _ h hP hS (lv_sub hl [1] rfl)
    · replace h := (if_neg c23).symm.trans h
      refine lv_iconst (v := (0 : Int32)) hx hb dX10_digit_107 (by decide) ?_
      refine lv_goto (tgt := 112) hx hb dX10_digit_108 (by decide) ?_
      exact hj112 _ _ _ _ _ _ _ h hP hS (lv_sub hl [1] rfl)
  have hj72 : ∀ (v14 : Int32) (v15 : Int32) (x16 : bq_S) (H : Heap) (locs : List Loc) (ls : Array Slot), fX10_digit_j72 n v14 v15 x16 = some (rz, xz) → va_P D bq_cl (bq_wM a k x16) H → va_S A s.heap H locs → lv_has ls 6 [(0, .ref (a 0)), (4, .int v14)] → W p l e { frames := 1, cells := 0, slots := 0, locals := 25 } s m [.ref (a 0), .int p1, .int p2, .int p3].toArray below meth c H locs 0 0 Q (F0 m 72 ls [.int v15]) := by
    intro v14 v15 x16 H locs ls h hP hS hl
    unfold fX10_digit_j72 at h
    refine lv_istore (lv' := [(5, .int v15), (0, .ref (a 0)), (4, .int v14)]) hx hb dX10_digit_72 hl (by decide) rfl (fun ls hl => ?_)
    refine lv_aload_n hx hb dX10_digit_74 rfl (lv_at hl 1 rfl) ?_
    refine lv_aload_n hx hb dX10_digit_75 rfl (lv_at hl 1 rfl) ?_
    refine bq_get (q0 := 0) S hK hP fl_X10_100_X10_11 rfl rfl rfl dX10_digit_76 ?_
    refine lv_if_ne (tgt := 87) hx hb dX10_digit_79 (by decide) (fun c17 => ?_) (fun c17 => ?_)
    · replace h := (if_neg c17).symm.trans h
      refine lv_iconst (v := (1 : Int32)) hx hb dX10_digit_87 (by decide) ?_
      refine lv_goto (tgt := 92) hx hb dX10_digit_88 (by decide) ?_
      exact hj92 _ _ _ _ _ _ h hP hS (lv_sub hl [1, 2] rfl)
    · replace h := (if_pos c17).symm.trans h
      refine lv_iload hx hb dX10_digit_82 (lv_at hl 0 rfl) ?_
      refine lv_if_ne (tgt := 91) hx hb dX10_digit_84 (by decide) (fun c29 => ?_) (fun c29 => ?_)
      · replace h := (if_neg c29).symm.trans h
        refine lv_iconst (v := (0 : Int32)) hx hb dX10_digit_91 (by decide) ?_
        exact hj92 _ _ _ _ _ _ h hP hS (lv_sub hl [1, 2] rfl)
      · replace h := (if_pos c29).symm.trans h
        refine lv_iconst (v := (1 : Int32)) hx hb dX10_digit_87 (by decide) ?_
        refine lv_goto (tgt := 92) hx hb dX10_digit_88 (by decide) ?_
        exact hj92 _ _ _ _ _ _ h hP hS (lv_sub hl [1, 2] rfl)
  have hj61 : ∀ (v34 : Int32) (v35 : Int32) (v36 : Int32) (x37 : bq_S) (H : Heap) (locs : List Loc) (ls : Array Slot), fX10_digit_j61 n v34 v35 v36 x37 = some (rz, xz) → va_P D bq_cl (bq_wM a k x37) H → va_S A s.heap H locs → lv_has ls 6 [(0, .ref (a 0)), (4, .int v34)] → W p l e { frames := 1, cells := 0, slots := 0, locals := 25 } s m [.ref (a 0), .int p1, .int p2, .int p3].toArray below meth c H locs 0 0 Q (F0 m 61 ls [.int v36, .int v35]) := by
    intro v34 v35 v36 x37 H locs ls h hP hS hl
    unfold fX10_digit_j61 at h
    refine lv_ishr hx hb dX10_digit_61 ?_
    refine lv_iconst (v := (1 : Int32)) hx hb dX10_digit_62 (by decide) ?_
    refine lv_iand hx hb dX10_digit_63 ?_
    refine lv_if_ne (tgt := 71) hx hb dX10_digit_64 (by decide) (fun c38 => ?_) (fun c38 => ?_)
    · replace h := (if_neg c38).symm.trans h
      refine lv_iconst (v := (0 : Int32)) hx hb dX10_digit_71 (by decide) ?_
      exact hj72 _ _ _ _ _ _ h hP hS (lv_sub hl [0, 1] rfl)
    · replace h := (if_pos c38).symm.trans h
      refine lv_iconst (v := (1 : Int32)) hx hb dX10_digit_67 (by decide) ?_
      refine lv_goto (tgt := 72) hx hb dX10_digit_68 (by decide) ?_
      exact hj72 _ _ _ _ _ _ h hP hS (lv_sub hl [0, 1] rfl)
  have hj15 : ∀ (v5 : Int32) (v6 : Int32) (v7 : Int32) (v8 : Int32) (x9 : bq_S) (H : Heap) (locs : List Loc) (ls : Array Slot), fX10_digit_j15 n v5 v6 v7 v8 x9 = some (rz, xz) → va_P D bq_cl (bq_wM a k x9) H → va_S A s.heap H locs → lv_has ls 6 [(0, .ref (a 0)), (1, .int v5), (2, .int v6), (3, .int v7)] → W p l e { frames := 1, cells := 0, slots := 0, locals := 25 } s m [.ref (a 0), .int p1, .int p2, .int p3].toArray below meth c H locs 0 0 Q (F0 m 15 ls [.int v8]) := by
    intro v5 v6 v7 v8 x9 H locs ls h hP hS hl
    unfold fX10_digit_j15 at h
    refine lv_istore (lv' := [(4, .int v8), (0, .ref (a 0)), (1, .int v5), (2, .int v6), (3, .int v7)]) hx hb dX10_digit_15 hl (by decide) rfl (fun ls hl => ?_)
    refine lv_iload hx hb dX10_digit_17 (lv_at hl 0 rfl) ?_
    refine lv_i2l hx hb dX10_digit_19 rfl ?_
    refine lv_bipush (v := (48 : Int32)) hx hb dX10_digit_20 (by decide) ?_
    refine lv_iload_n hx hb dX10_digit_22 rfl (lv_at hl 2 rfl) ?_
    refine lv_iadd hx hb dX10_digit_23 ?_
    refine lv_i2l hx hb dX10_digit_24 rfl ?_
    refine lv_bipush (v := (48 : Int32)) hx hb dX10_digit_25 (by decide) ?_
    refine lv_iload_n hx hb dX10_digit_27 rfl (lv_at hl 3 rfl) ?_
    refine lv_iadd hx hb dX10_digit_28 ?_
    refine lv_i2l hx hb dX10_digit_29 rfl ?_
    obtain ⟨o10, ho10, h⟩ := Option.bind_eq_some_iff.mp h
    obtain ⟨v12, x11⟩ := o10
    replace h := un2_e h
    refine bq_callSi (As := [.long _, .long _, .long _]) S hK hD hA hP hS (cX10_in_k ho10) hd_yX10_in ml_X10_66 st_yX10_in ⟨rfl, rfl⟩ ⟨by decide, by decide⟩ rfl hl.1 rfl (Nat.le_of_ble_eq_true rfl) ⟨Nat.zero_le _, Nat.zero_le _⟩ dX10_digit_30 (fun H locs hP hS => ?_)
    refine lv_if_eq (tgt := 71) hx hb dX10_digit_33 (by decide) (fun c13 => ?_) (fun c13 => ?_)
    · replace h := (if_pos c13).symm.trans h
      refine lv_iconst (v := (0 : Int32)) hx hb dX10_digit_71 (by decide) ?_
      exact hj72 _ _ _ _ _ _ h hP hS (lv_sub hl [1, 0] rfl)
    · replace h := (if_neg c13).symm.trans h
      refine lv_iload_n hx hb dX10_digit_36 rfl (lv_at hl 4 rfl) ?_
      refine lv_iload hx hb dX10_digit_37 (lv_at hl 0 rfl) ?_
      refine lv_i2l hx hb dX10_digit_39 rfl ?_
      refine lv_ldc2 hx hb hown (hts _ kl_X10_108) dX10_digit_40 ?_
      refine lv_ldc2 hx hb hown (hts _ kl_X10_110) dX10_digit_43 ?_
      obtain ⟨o30, ho30, h⟩ := Option.bind_eq_some_iff.mp h
      obtain ⟨v32, x31⟩ := o30
      replace h := un2_e h
      refine bq_callSi (As := [.long _, .long _, .long _]) S hK hD hA hP hS (cX10_in_k ho30) hd_yX10_in ml_X10_66 st_yX10_in ⟨rfl, rfl⟩ ⟨by decide, by decide⟩ rfl hl.1 rfl (Nat.le_of_ble_eq_true rfl) ⟨Nat.zero_le _, Nat.zero_le _⟩ dX10_digit_46 (fun H locs hP hS => ?_)
      refine lv_if_eq (tgt := 60) hx hb dX10_digit_49 (by decide) (fun c33 => ?_) (fun c33 => ?_)
      · replace h := (if_pos c33).symm.trans h
        refine lv_iconst (v := (0 : Int32)) hx hb dX10_digit_60 (by decide) ?_
        exact hj61 _ _ _ _ _ _ _ h hP hS (lv_sub hl [1, 0] rfl)
      · replace h := (if_neg c33).symm.trans h
        refine lv_iload hx hb dX10_digit_52 (lv_at hl 0 rfl) ?_
        refine lv_bipush (v := (48 : Int32)) hx hb dX10_digit_54 (by decide) ?_
        refine lv_isub hx hb dX10_digit_56 ?_
        refine lv_goto (tgt := 61) hx hb dX10_digit_57 (by decide) ?_
        exact hj61 _ _ _ _ _ _ _ h hP hS (lv_sub hl [1, 0] rfl)
  refine lv_aload_n hx hb dX10_digit_0 rfl (lv_at hl 0 rfl) ?_
  refine bq_get (q0 := 0) S hK hP fl_X10_100_X10_11 rfl rfl rfl dX10_digit_1 ?_
  refine lv_if_eq (tgt := 11) hx hb dX10_digit_4 (by decide) (fun c1 => ?_) (fun c1 => ?_)
  · replace h := (if_pos c1).symm.trans h
    refine lv_aload_n hx hb dX10_digit_11 rfl (lv_at hl 0 rfl) ?_
    obtain ⟨o2, ho2, h⟩ := Option.bind_eq_some_iff.mp h
    obtain ⟨v4, x3⟩ := o2
    replace h := un2_e h
    refine bq_callVi (q0 := 0) (As := []) S hK hD hA hP hS (cX10_here_k_0 ho2) hd_yX10_here ml_X10_104 in_yX10_here (hts _ sl_X10_X10_yX10_here) ⟨rfl, rfl⟩ ⟨by decide, by decide⟩ rfl rfl rfl hl.1 rfl (Nat.le_of_ble_eq_true rfl) ⟨Nat.zero_le _, Nat.zero_le _⟩ dX10_digit_12 (fun H locs hP hS => ?_)
    exact hj15 _ _ _ _ _ _ _ _ h hP hS (lv_sub hl [0, 1, 2, 3] rfl)
  · replace h := (if_neg c1).symm.trans h
    refine lv_iconst (v := (0 : Int32)) hx hb dX10_digit_7 (by decide) ?_
    refine lv_goto (tgt := 15) hx hb dX10_digit_8 (by decide) ?_
    exact hj15 _ _ _ _ _ _ _ _ h hP hS (lv_sub hl [0, 1, 2, 3] rfl)
def fX10_has_j20 (n : Nat) (v2 : Int32) (x3 : bq_S) : Option (Int32 × bq_S) :=
  if v2 = 0 then
  bd (bq_sI x3 0 10 ((x3.1 0 10) + (0 : Int32))) (fun x5 =>
  if v2 = 0 ∨ v2 = 1 then
  some (v2, x5)
  else none)
  else
  bd (bq_sI x3 0 10 ((x3.1 0 10) + (1 : Int32))) (fun x7 =>
  if v2 = 0 ∨ v2 = 1 then
  some (v2, x7)
  else none)
def fX10_has (n : Nat) (p1 : Int32) (x0 : bq_S) : Option (Int32 × bq_S) :=
  if (x0.1 0 11) = 0 then
  (fX10_here n  x0).bind (fun o9 => un2 o9 (fun v11 x10 =>
  if v11 = p1 then
  fX10_has_j20 n (1 : Int32) x10
  else
  fX10_has_j20 n (0 : Int32) x10))
  else
  fX10_has_j20 n (0 : Int32) x0
theorem dX10_has_0 : decode cX10_has 0 = .ok (.aload_n 0, 1) := by decide +kernel
theorem dX10_has_1 : decode cX10_has 1 = .ok (.getfield 100, 3) := by decide +kernel
theorem dX10_has_4 : decode cX10_has 4 = .ok (.ifCond .ne 15, 3) := by decide +kernel
theorem dX10_has_7 : decode cX10_has 7 = .ok (.aload_n 0, 1) := by decide +kernel
theorem dX10_has_8 : decode cX10_has 8 = .ok (.invokevirtual 104, 3) := by decide +kernel
theorem dX10_has_11 : decode cX10_has 11 = .ok (.iload_n 1, 1) := by decide +kernel
theorem dX10_has_12 : decode cX10_has 12 = .ok (.if_icmp .ne 7, 3) := by decide +kernel
theorem dX10_has_15 : decode cX10_has 15 = .ok (.iconst 1, 1) := by decide +kernel
theorem dX10_has_16 : decode cX10_has 16 = .ok (.goto 4, 3) := by decide +kernel
theorem dX10_has_19 : decode cX10_has 19 = .ok (.iconst 0, 1) := by decide +kernel
theorem dX10_has_20 : decode cX10_has 20 = .ok (.istore_n 2, 1) := by decide +kernel
theorem dX10_has_21 : decode cX10_has 21 = .ok (.aload_n 0, 1) := by decide +kernel
theorem dX10_has_22 : decode cX10_has 22 = .ok (.dup, 1) := by decide +kernel
theorem dX10_has_23 : decode cX10_has 23 = .ok (.getfield 97, 3) := by decide +kernel
theorem dX10_has_26 : decode cX10_has 26 = .ok (.iload_n 2, 1) := by decide +kernel
theorem dX10_has_27 : decode cX10_has 27 = .ok (.ifCond .eq 7, 3) := by decide +kernel
theorem dX10_has_30 : decode cX10_has 30 = .ok (.iconst 1, 1) := by decide +kernel
theorem dX10_has_31 : decode cX10_has 31 = .ok (.goto 4, 3) := by decide +kernel
theorem dX10_has_34 : decode cX10_has 34 = .ok (.iconst 0, 1) := by decide +kernel
theorem dX10_has_35 : decode cX10_has 35 = .ok (.iadd, 1) := by decide +kernel
theorem dX10_has_36 : decode cX10_has 36 = .ok (.putfield 97, 3) := by decide +kernel
theorem dX10_has_39 : decode cX10_has 39 = .ok (.iload_n 2, 1) := by decide +kernel
theorem dX10_has_40 : decode cX10_has 40 = .ok (.ireturn, 1) := by decide +kernel
set_option maxHeartbeats 4000000 in
set_option maxRecDepth 100000 in
theorem cX10_has_k_0 {l : Launch} {D : va_G} {a : Nat → Nat} {k : Nat → ClassId} {n : Nat} {p1 : Int32} {x0 xz : bq_S} {rz : Int32} (h : fX10_has n p1 x0 = some (rz, xz)) : bq_M l D bq_cl (bq_ty k) (bq_wM a k) yX10_has cX10_has 3 (some .boolean) { frames := 1, cells := 0, slots := 0, locals := 20 } [.ref (a 0), .int p1] x0 (some rz) xz := by
  refine bq_ofW RX10 [(0, .ref (a 0)), (1, .int p1)] (by decide +kernel) rfl (Nat.le_of_ble_eq_true rfl) rfl (bq_adM a k) ?_
  intro p e s m below meth c A Q ls S hK hD hA hR hS hP hl
  have hx := S.1; have hb := S.2.1; have hml := S.2.2.1; have hown := S.2.2.2.1; have hts := S.2.2.2.2
  have hret : ∀ z, some z = some (rz, xz) → (rz, xz) = z := fun z h => (Option.some.inj h).symm
  unfold fX10_has at h
  have hj20 : ∀ (v2 : Int32) (x3 : bq_S) (H : Heap) (locs : List Loc) (ls : Array Slot), fX10_has_j20 n v2 x3 = some (rz, xz) → va_P D bq_cl (bq_wM a k x3) H → va_S A s.heap H locs → lv_has ls 3 [(0, .ref (a 0))] → W p l e { frames := 1, cells := 0, slots := 0, locals := 20 } s m [.ref (a 0), .int p1].toArray below meth c H locs 0 0 Q (F0 m 20 ls [.int v2]) := by
    intro v2 x3 H locs ls h hP hS hl
    unfold fX10_has_j20 at h
    refine lv_istore_n (lv' := [(2, .int v2), (0, .ref (a 0))]) hx hb dX10_has_20 rfl hl (by decide) rfl (fun ls hl => ?_)
    refine lv_aload_n hx hb dX10_has_21 rfl (lv_at hl 1 rfl) ?_
    refine lv_dup hx hb dX10_has_22 rfl ?_
    refine bq_get (q0 := 0) S hK hP fl_X10_97_X10_10 rfl rfl rfl dX10_has_23 ?_
    refine lv_iload_n hx hb dX10_has_26 rfl (lv_at hl 0 rfl) ?_
    refine lv_if_eq (tgt := 34) hx hb dX10_has_27 (by decide) (fun c4 => ?_) (fun c4 => ?_)
    · replace h := (if_pos c4).symm.trans h
      refine lv_iconst (v := (0 : Int32)) hx hb dX10_has_34 (by decide) ?_
      refine lv_iadd hx hb dX10_has_35 ?_
      obtain ⟨x5, hx5, h⟩ := bq_b h
      refine bq_put (x1 := x5) (q0 := 0) (ty := .int) S hK hD hP hS fl_X10_97_X10_10 bt_X10 rfl (by decide +kernel) rfl rfl (Nat.le_of_ble_eq_true rfl) rfl rfl (by rw [hx5]; rfl) dX10_has_36 (fun H locs hP hS => ?_)
      refine lv_iload_n hx hb dX10_has_39 rfl (lv_at hl 0 rfl) ?_
      obtain ⟨g6, h⟩ := bq_gp h
      obtain ⟨e1, e2⟩ := Prod.mk.inj (hret _ h)
      exact hR _ _ _ _ _ (congrArg some e1) (bq_z g6) (by rw [e2]; exact hP) hS dX10_has_40
    · replace h := (if_neg c4).symm.trans h
      refine lv_iconst (v := (1 : Int32)) hx hb dX10_has_30 (by decide) ?_
      refine lv_goto (tgt := 35) hx hb dX10_has_31 (by decide) ?_
      refine lv_iadd hx hb dX10_has_35 ?_
      obtain ⟨x7, hx7, h⟩ := bq_b h
      refine bq_put (x1 := x7) (q0 := 0) (ty := .int) S hK hD hP hS fl_X10_97_X10_10 bt_X10 rfl (by decide +kernel) rfl rfl (Nat.le_of_ble_eq_true rfl) rfl rfl (by rw [hx7]; rfl) dX10_has_36 (fun H locs hP hS => ?_)
      refine lv_iload_n hx hb dX10_has_39 rfl (lv_at hl 0 rfl) ?_
      obtain ⟨g8, h⟩ := bq_gp h
      obtain ⟨e1, e2⟩ := Prod.mk.inj (hret _ h)
      exact hR _ _ _ _ _ (congrArg some e1) (bq_z g8) (by rw [e2]; exact hP) hS dX10_has_40
  refine lv_aload_n hx hb dX10_has_0 rfl (lv_at hl 0 rfl) ?_
  refine bq_get (q0 := 0) S hK hP fl_X10_100_X10_11 rfl rfl rfl dX10_has_1 ?_
  refine lv_if_ne (tgt := 19) hx hb dX10_has_4 (by decide) (fun c1 => ?_) (fun c1 => ?_)
  · replace h := (if_neg c1).symm.trans h
    refine lv_iconst (v := (0 : Int32)) hx hb dX10_has_19 (by decide) ?_
    exact hj20 _ _ _ _ _ h hP hS (lv_sub hl [0] rfl)
  · replace h := (if_pos c1).symm.trans h
    refine lv_aload_n hx hb dX10_has_7 rfl (lv_at hl 0 rfl) ?_
    obtain ⟨o9, ho9, h⟩ := Option.bind_eq_some_iff.mp h
    obtain ⟨v11, x10⟩ := o9
    replace h := un2_e h
    refine bq_callVi (q0 := 0) (As := []) S hK hD hA hP hS (cX10_here_k_0 ho9) hd_yX10_here ml_X10_104 in_yX10_here (hts _ sl_X10_X10_yX10_here) ⟨rfl, rfl⟩ ⟨by decide, by decide⟩ rfl rfl rfl hl.1 rfl (Nat.le_of_ble_eq_true rfl) ⟨Nat.zero_le _, Nat.zero_le _⟩ dX10_has_8 (fun H locs hP hS => ?_)
    refine lv_iload_n hx hb dX10_has_11 rfl (lv_at hl 1 rfl) ?_
    refine lv_icmp_ne (tgt := 19) hx hb dX10_has_12 (by decide) (fun c12 => ?_) (fun c12 => ?_)
    · replace h := (if_neg c12).symm.trans h
      refine lv_iconst (v := (0 : Int32)) hx hb dX10_has_19 (by decide) ?_
      exact hj20 _ _ _ _ _ h hP hS (lv_sub hl [0] rfl)
    · replace h := (if_pos c12).symm.trans h
      refine lv_iconst (v := (1 : Int32)) hx hb dX10_has_15 (by decide) ?_
      refine lv_goto (tgt := 20) hx hb dX10_has_16 (by decide) ?_
      exact hj20 _ _ _ _ _ h hP hS (lv_sub hl [0] rfl)
