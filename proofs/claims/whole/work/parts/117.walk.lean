def fX10_restore (n : Nat) (x0 : bq_S) : Option (Int32 × bq_S) :=
  if (x0.1 0 21) = 0 then
  some ((-4 : Int32), x0)
  else
  (fX10_gives n (0 : Int32) 1 8 x0).bind (fun o2 => un2 o2 (fun v4 x3 =>
  (fX10_gives n v4 2 8 x3).bind (fun o5 => un2 o5 (fun v7 x6 =>
  (fX10_gives n v7 3 8 x6).bind (fun o8 => un2 o8 (fun v10 x9 =>
  (fX10_gives n v10 4 2 x9).bind (fun o11 => un2 o11 (fun v13 x12 =>
  (fX10_gives n v13 5 8 x12).bind (fun o14 => un2 o14 (fun v16 x15 =>
  if ok_i v16 40 then
  bd (bq_sI x15 0 0 (x15.1 13 v16.toNatClampNeg)) (fun x18 =>
  if ok_i (v16 + (1 : Int32)) 40 then
  bd (bq_sI x18 0 4 (x18.1 13 (v16 + (1 : Int32)).toNatClampNeg)) (fun x20 =>
  if ok_i (v16 + (2 : Int32)) 40 then
  bd (bq_sI x20 0 6 (x20.1 13 (v16 + (2 : Int32)).toNatClampNeg)) (fun x22 =>
  some ((1 : Int32), x22))
  else none)
  else none)
  else none))))))))))
theorem dX10_restore_0 : decode cX10_restore 0 = .ok (.aload_n 0, 1) := by decide +kernel
theorem dX10_restore_1 : decode cX10_restore 1 = .ok (.getfield 184, 3) := by decide +kernel
theorem dX10_restore_4 : decode cX10_restore 4 = .ok (.ifCond .ne 6, 3) := by decide +kernel
theorem dX10_restore_7 : decode cX10_restore 7 = .ok (.bipush (-4), 2) := by decide +kernel
theorem dX10_restore_9 : decode cX10_restore 9 = .ok (.ireturn, 1) := by decide +kernel
theorem dX10_restore_10 : decode cX10_restore 10 = .ok (.aload_n 0, 1) := by decide +kernel
theorem dX10_restore_11 : decode cX10_restore 11 = .ok (.iconst 0, 1) := by decide +kernel
theorem dX10_restore_12 : decode cX10_restore 12 = .ok (.aload_n 0, 1) := by decide +kernel
theorem dX10_restore_13 : decode cX10_restore 13 = .ok (.getfield 7, 3) := by decide +kernel
theorem dX10_restore_16 : decode cX10_restore 16 = .ok (.invokevirtual 187, 3) := by decide +kernel
theorem dX10_restore_19 : decode cX10_restore 19 = .ok (.istore_n 1, 1) := by decide +kernel
theorem dX10_restore_20 : decode cX10_restore 20 = .ok (.aload_n 0, 1) := by decide +kernel
theorem dX10_restore_21 : decode cX10_restore 21 = .ok (.iload_n 1, 1) := by decide +kernel
theorem dX10_restore_22 : decode cX10_restore 22 = .ok (.aload_n 0, 1) := by decide +kernel
theorem dX10_restore_23 : decode cX10_restore 23 = .ok (.getfield 13, 3) := by decide +kernel
theorem dX10_restore_26 : decode cX10_restore 26 = .ok (.invokevirtual 187, 3) := by decide +kernel
theorem dX10_restore_29 : decode cX10_restore 29 = .ok (.istore_n 1, 1) := by decide +kernel
theorem dX10_restore_30 : decode cX10_restore 30 = .ok (.aload_n 0, 1) := by decide +kernel
theorem dX10_restore_31 : decode cX10_restore 31 = .ok (.iload_n 1, 1) := by decide +kernel
theorem dX10_restore_32 : decode cX10_restore 32 = .ok (.aload_n 0, 1) := by decide +kernel
theorem dX10_restore_33 : decode cX10_restore 33 = .ok (.getfield 16, 3) := by decide +kernel
theorem dX10_restore_36 : decode cX10_restore 36 = .ok (.invokevirtual 187, 3) := by decide +kernel
theorem dX10_restore_39 : decode cX10_restore 39 = .ok (.istore_n 1, 1) := by decide +kernel
theorem dX10_restore_40 : decode cX10_restore 40 = .ok (.aload_n 0, 1) := by decide +kernel
theorem dX10_restore_41 : decode cX10_restore 41 = .ok (.iload_n 1, 1) := by decide +kernel
theorem dX10_restore_42 : decode cX10_restore 42 = .ok (.aload_n 0, 1) := by decide +kernel
theorem dX10_restore_43 : decode cX10_restore 43 = .ok (.getfield 19, 3) := by decide +kernel
theorem dX10_restore_46 : decode cX10_restore 46 = .ok (.invokevirtual 187, 3) := by decide +kernel
theorem dX10_restore_49 : decode cX10_restore 49 = .ok (.istore_n 1, 1) := by decide +kernel
theorem dX10_restore_50 : decode cX10_restore 50 = .ok (.aload_n 0, 1) := by decide +kernel
theorem dX10_restore_51 : decode cX10_restore 51 = .ok (.iload_n 1, 1) := by decide +kernel
theorem dX10_restore_52 : decode cX10_restore 52 = .ok (.aload_n 0, 1) := by decide +kernel
theorem dX10_restore_53 : decode cX10_restore 53 = .ok (.getfield 22, 3) := by decide +kernel
theorem dX10_restore_56 : decode cX10_restore 56 = .ok (.invokevirtual 187, 3) := by decide +kernel
theorem dX10_restore_59 : decode cX10_restore 59 = .ok (.istore_n 1, 1) := by decide +kernel
theorem dX10_restore_60 : decode cX10_restore 60 = .ok (.aload_n 0, 1) := by decide +kernel
theorem dX10_restore_61 : decode cX10_restore 61 = .ok (.aload_n 0, 1) := by decide +kernel
theorem dX10_restore_62 : decode cX10_restore 62 = .ok (.getfield 46, 3) := by decide +kernel
theorem dX10_restore_65 : decode cX10_restore 65 = .ok (.iload_n 1, 1) := by decide +kernel
theorem dX10_restore_66 : decode cX10_restore 66 = .ok (.iaload, 1) := by decide +kernel
theorem dX10_restore_67 : decode cX10_restore 67 = .ok (.putfield 62, 3) := by decide +kernel
theorem dX10_restore_70 : decode cX10_restore 70 = .ok (.aload_n 0, 1) := by decide +kernel
theorem dX10_restore_71 : decode cX10_restore 71 = .ok (.aload_n 0, 1) := by decide +kernel
theorem dX10_restore_72 : decode cX10_restore 72 = .ok (.getfield 46, 3) := by decide +kernel
theorem dX10_restore_75 : decode cX10_restore 75 = .ok (.iload_n 1, 1) := by decide +kernel
theorem dX10_restore_76 : decode cX10_restore 76 = .ok (.iconst 1, 1) := by decide +kernel
theorem dX10_restore_77 : decode cX10_restore 77 = .ok (.iadd, 1) := by decide +kernel
theorem dX10_restore_78 : decode cX10_restore 78 = .ok (.iaload, 1) := by decide +kernel
theorem dX10_restore_79 : decode cX10_restore 79 = .ok (.putfield 76, 3) := by decide +kernel
theorem dX10_restore_82 : decode cX10_restore 82 = .ok (.aload_n 0, 1) := by decide +kernel
theorem dX10_restore_83 : decode cX10_restore 83 = .ok (.aload_n 0, 1) := by decide +kernel
theorem dX10_restore_84 : decode cX10_restore 84 = .ok (.getfield 46, 3) := by decide +kernel
theorem dX10_restore_87 : decode cX10_restore 87 = .ok (.iload_n 1, 1) := by decide +kernel
theorem dX10_restore_88 : decode cX10_restore 88 = .ok (.iconst 2, 1) := by decide +kernel
theorem dX10_restore_89 : decode cX10_restore 89 = .ok (.iadd, 1) := by decide +kernel
theorem dX10_restore_90 : decode cX10_restore 90 = .ok (.iaload, 1) := by decide +kernel
theorem dX10_restore_91 : decode cX10_restore 91 = .ok (.putfield 126, 3) := by decide +kernel
theorem dX10_restore_94 : decode cX10_restore 94 = .ok (.iconst 1, 1) := by decide +kernel
theorem dX10_restore_95 : decode cX10_restore 95 = .ok (.ireturn, 1) := by decide +kernel
set_option maxHeartbeats 4000000 in
set_option maxRecDepth 100000 in
theorem cX10_restore_k_0 {l : Launch} {D : va_G} {a : Nat → Nat} {k : Nat → ClassId} {n : Nat} {x0 xz : bq_S} {rz : Int32} (h : fX10_restore n  x0 = some (rz, xz)) : bq_M l D bq_cl (bq_ty k) (bq_wM a k) yX10_restore cX10_restore 2 (some .int) { frames := 1, cells := 0, slots := 0, locals := 23 } [.ref (a 0)] x0 (some rz) xz := by
  refine bq_ofW RX10 [(0, .ref (a 0))] (by decide +kernel) rfl (Nat.le_of_ble_eq_true rfl) rfl (bq_adM a k) ?_
  intro p e s m below meth c A Q ls S hK hD hA hR hS hP hl
  have hx := S.1; have hb := S.2.1; have hml := S.2.2.1; have hown := S.2.2.2.1; have hts := S.2.2.2.2
  have hret : ∀ z, some z = some (rz, xz) → (rz, xz) = z := fun z h => (Option.some.inj h).symm
  unfold fX10_restore at h
  refine lv_aload_n hx hb dX10_restore_0 rfl (lv_at hl 0 rfl) ?_
  refine bq_get (q0 := 0) S hK hP fl_X10_184_X10_21 rfl rfl rfl dX10_restore_1 ?_
  refine lv_if_ne (tgt := 10) hx hb dX10_restore_4 (by decide) (fun c1 => ?_) (fun c1 => ?_)
  · replace h := (if_neg c1).symm.trans h
    refine lv_aload_n hx hb dX10_restore_10 rfl (lv_at hl 0 rfl) ?_
    refine lv_iconst (v := (0 : Int32)) hx hb dX10_restore_11 (by decide) ?_
    refine lv_aload_n hx hb dX10_restore_12 rfl (lv_at hl 0 rfl) ?_
    refine bq_get (q0 := 0) S hK hP fl_X10_7_X10_1 rfl rfl rfl dX10_restore_13 ?_
    obtain ⟨o2, ho2, h⟩ := Option.bind_eq_some_iff.mp h
    obtain ⟨v4, x3⟩ := o2
    replace h := un2_e h
    refine bq_callVi (q0 := 0) (As := [.int _, .ref (a 1)]) S hK hD hA hP hS (cX10_gives_k_0_1 ho2) hd_yX10_gives ml_X10_187 in_yX10_gives (hts _ sl_X10_X10_yX10_gives) ⟨rfl, rfl⟩ ⟨by decide, by decide⟩ rfl rfl rfl hl.1 rfl (Nat.le_of_ble_eq_true rfl) ⟨Nat.zero_le _, Nat.zero_le _⟩ dX10_restore_16 (fun H locs hP hS => ?_)
    refine lv_istore_n (lv' := [(1, .int v4), (0, .ref (a 0))]) hx hb dX10_restore_19 rfl hl (by decide) rfl (fun ls hl => ?_)
    refine lv_aload_n hx hb dX10_restore_20 rfl (lv_at hl 1 rfl) ?_
    refine lv_iload_n hx hb dX10_restore_21 rfl (lv_at hl 0 rfl) ?_
    refine lv_aload_n hx hb dX10_restore_22 rfl (lv_at hl 1 rfl) ?_
    refine bq_get (q0 := 0) S hK hP fl_X10_13_X10_2 rfl rfl rfl dX10_restore_23 ?_
    obtain ⟨o5, ho5, h⟩ := Option.bind_eq_some_iff.mp h
    obtain ⟨v7, x6⟩ := o5
    replace h := un2_e h
    refine bq_callVi (q0 := 0) (As := [.int _, .ref (a 2)]) S hK hD hA hP hS (cX10_gives_k_0_2 ho5) hd_yX10_gives ml_X10_187 in_yX10_gives (hts _ sl_X10_X10_yX10_gives) ⟨rfl, rfl⟩ ⟨by decide, by decide⟩ rfl rfl rfl hl.1 rfl (Nat.le_of_ble_eq_true rfl) ⟨Nat.zero_le _, Nat.zero_le _⟩ dX10_restore_26 (fun H locs hP hS => ?_)
    refine lv_istore_n (lv' := [(1, .int v7), (0, .ref (a 0))]) hx hb dX10_restore_29 rfl hl (by decide) rfl (fun ls hl => ?_)
    refine lv_aload_n hx hb dX10_restore_30 rfl (lv_at hl 1 rfl) ?_
    refine lv_iload_n hx hb dX10_restore_31 rfl (lv_at hl 0 rfl) ?_
    refine lv_aload_n hx hb dX10_restore_32 rfl (lv_at hl 1 rfl) ?_
    refine bq_get (q0 := 0) S hK hP fl_X10_16_X10_3 rfl rfl rfl dX10_restore_33 ?_
    obtain ⟨o8, ho8, h⟩ := Option.bind_eq_some_iff.mp h
    obtain ⟨v10, x9⟩ := o8
    replace h := un2_e h
    refine bq_callVi (q0 := 0) (As := [.int _, .ref (a 3)]) S hK hD hA hP hS (cX10_gives_k_0_3 ho8) hd_yX10_gives ml_X10_187 in_yX10_gives (hts _ sl_X10_X10_yX10_gives) ⟨rfl, rfl⟩ ⟨by decide, by decide⟩ rfl rfl rfl hl.1 rfl (Nat.le_of_ble_eq_true rfl) ⟨Nat.zero_le _, Nat.zero_le _⟩ dX10_restore_36 (fun H locs hP hS => ?_)
    refine lv_istore_n (lv' := [(1, .int v10), (0, .ref (a 0))]) hx hb dX10_restore_39 rfl hl (by decide) rfl (fun ls hl => ?_)
    refine lv_aload_n hx hb dX10_restore_40 rfl (lv_at hl 1 rfl) ?_
    refine lv_iload_n hx hb dX10_restore_41 rfl (lv_at hl 0 rfl) ?_
    refine lv_aload_n hx hb dX10_restore_42 rfl (lv_at hl 1 rfl) ?_
    refine bq_get (q0 := 0) S hK hP fl_X10_19_X10_5 rfl rfl rfl dX10_restore_43 ?_
    obtain ⟨o11, ho11, h⟩ := Option.bind_eq_some_iff.mp h
    obtain ⟨v13, x12⟩ := o11
    replace h := un2_e h
    refine bq_callVi (q0 := 0) (As := [.int _, .ref (a 4)]) S hK hD hA hP hS (cX10_gives_k_0_4 ho11) hd_yX10_gives ml_X10_187 in_yX10_gives (hts _ sl_X10_X10_yX10_gives) ⟨rfl, rfl⟩ ⟨by decide, by decide⟩ rfl rfl rfl hl.1 rfl (Nat.le_of_ble_eq_true rfl) ⟨Nat.zero_le _, Nat.zero_le _⟩ dX10_restore_46 (fun H locs hP hS => ?_)
    refine lv_istore_n (lv' := [(1, .int v13), (0, .ref (a 0))]) hx hb dX10_restore_49 rfl hl (by decide) rfl (fun ls hl => ?_)
    refine lv_aload_n hx hb dX10_restore_50 rfl (lv_at hl 1 rfl) ?_
    refine lv_iload_n hx hb dX10_restore_51 rfl (lv_at hl 0 rfl) ?_
    refine lv_aload_n hx hb dX10_restore_52 rfl (lv_at hl 1 rfl) ?_
    refine bq_get (q0 := 0) S hK hP fl_X10_22_X10_7 rfl rfl rfl dX10_restore_53 ?_
    obtain ⟨o14, ho14, h⟩ := Option.bind_eq_some_iff.mp h
    obtain ⟨v16, x15⟩ := o14
    replace h := un2_e h
    refine bq_callVi (q0 := 0) (As := [.int _, .ref (a 5)]) S hK hD hA hP hS (cX10_gives_k_0_5 ho14) hd_yX10_gives ml_X10_187 in_yX10_gives (hts _ sl_X10_X10_yX10_gives) ⟨rfl, rfl⟩ ⟨by decide, by decide⟩ rfl rfl rfl hl.1 rfl (Nat.le_of_ble_eq_true rfl) ⟨Nat.zero_le _, Nat.zero_le _⟩ dX10_restore_56 (fun H locs hP hS => ?_)
    refine lv_istore_n (lv' := [(1, .int v16), (0, .ref (a 0))]) hx hb dX10_restore_59 rfl hl (by decide) rfl (fun ls hl => ?_)
    refine lv_aload_n hx hb dX10_restore_60 rfl (lv_at hl 1 rfl) ?_
    refine lv_aload_n hx hb dX10_restore_61 rfl (lv_at hl 1 rfl) ?_
    refine bq_get (q0 := 0) S hK hP fl_X10_46_X10_20 rfl rfl rfl dX10_restore_62 ?_
    refine lv_iload_n hx hb dX10_restore_65 rfl (lv_at hl 0 rfl) ?_
    obtain ⟨g17, h⟩ := bq_gd h
    refine va_iald (D := D) hx hb hK hP 13 0 rfl rfl g17 dX10_restore_66 ?_
    obtain ⟨x18, hx18, h⟩ := bq_b h
    refine bq_put (x1 := x18) (q0 := 0) (ty := .int) S hK hD hP hS fl_X10_62_X10_0 bt_X10 rfl (by decide +kernel) rfl rfl (Nat.le_of_ble_eq_true rfl) rfl rfl (by rw [hx18]; rfl) dX10_restore_67 (fun H locs hP hS => ?_)
    refine lv_aload_n hx hb dX10_restore_70 rfl (lv_at hl 1 rfl) ?_
    refine lv_aload_n hx hb dX10_restore_71 rfl (lv_at hl 1 rfl) ?_
    refine bq_get (q0 := 0) S hK hP fl_X10_46_X10_20 rfl rfl rfl dX10_restore_72 ?_
    refine lv_iload_n hx hb dX10_restore_75 rfl (lv_at hl 0 rfl) ?_
    refine lv_iconst (v := (1 : Int32)) hx hb dX10_restore_76 (by decide) ?_
    refine lv_iadd hx hb dX10_restore_77 ?_
    obtain ⟨g19, h⟩ := bq_gd h
    refine va_iald (D := D) hx hb hK hP 13 0 rfl rfl g19 dX10_restore_78 ?_
    obtain ⟨x20, hx20, h⟩ := bq_b h
    refine bq_put (x1 := x20) (q0 := 0) (ty := .int) S hK hD hP hS fl_X10_76_X10_4 bt_X10 rfl (by decide +kernel) rfl rfl (Nat.le_of_ble_eq_true rfl) rfl rfl (by rw [hx20]; rfl) dX10_restore_79 (fun H locs hP hS => ?_)
    refine lv_aload_n hx hb dX10_restore_82 rfl (lv_at hl 1 rfl) ?_
    refine lv_aload_n hx hb dX10_restore_83 rfl (lv_at hl 1 rfl) ?_
    refine bq_get (q0 := 0) S hK hP fl_X10_46_X10_20 rfl rfl rfl dX10_restore_84 ?_
    refine lv_iload_n hx hb dX10_restore_87 rfl (lv_at hl 0 rfl) ?_
    refine lv_iconst (v := (2 : Int32)) hx hb dX10_restore_88 (by decide) ?_
    refine lv_iadd hx hb dX10_restore_89 ?_
    obtain ⟨g21, h⟩ := bq_gd h
    refine va_iald (D := D) hx hb hK hP 13 0 rfl rfl g21 dX10_restore_90 ?_
    obtain ⟨x22, hx22, h⟩ := bq_b h
    refine bq_put (x1 := x22) (q0 := 0) (ty := .int) S hK hD hP hS fl_X10_126_X10_6 bt_X10 rfl (by decide +kernel) rfl rfl (Nat.le_of_ble_eq_true rfl) rfl rfl (by rw [hx22]; rfl) dX10_restore_91 (fun H locs hP hS => ?_)
    refine lv_iconst (v := (1 : Int32)) hx hb dX10_restore_94 (by decide) ?_
    obtain ⟨e1, e2⟩ := Prod.mk.inj (hret _ h)
    exact hR _ _ _ _ _ (congrArg some e1) rfl (by rw [e2]; exact hP) hS dX10_restore_95
  · replace h := (if_pos c1).symm.trans h
    refine lv_bipush (v := (-4 : Int32)) hx hb dX10_restore_7 (by decide) ?_
    obtain ⟨e1, e2⟩ := Prod.mk.inj (hret _ h)
    exact hR _ _ _ _ _ (congrArg some e1) rfl (by rw [e2]; exact hP) hS dX10_restore_9
def fX10_isSheet (p0 : Int32) (x0 : bq_S) : Option (Int32 × bq_S) :=
  (fX10_in p0.toInt64 (0 : Int64) (3 : Int64) x0).bind (fun o1 => un2 o1 (fun v3 x2 =>
  if v3 = 0 ∨ v3 = 1 then
  some (v3, x2)
  else none))
theorem dX10_isSheet_0 : decode cX10_isSheet 0 = .ok (.iload_n 0, 1) := by decide +kernel
theorem dX10_isSheet_1 : decode cX10_isSheet 1 = .ok (.i2l, 1) := by decide +kernel
theorem dX10_isSheet_2 : decode cX10_isSheet 2 = .ok (.lconst 0, 1) := by decide +kernel
theorem dX10_isSheet_3 : decode cX10_isSheet 3 = .ok (.ldc2_w 191, 3) := by decide +kernel
theorem dX10_isSheet_6 : decode cX10_isSheet 6 = .ok (.invokestatic 66, 3) := by decide +kernel
theorem dX10_isSheet_9 : decode cX10_isSheet 9 = .ok (.ireturn, 1) := by decide +kernel
set_option maxHeartbeats 4000000 in
set_option maxRecDepth 100000 in
theorem cX10_isSheet_k {l : Launch} {D : va_G} {a : Nat → Nat} {k : Nat → ClassId} {p0 : Int32} {x0 xz : bq_S} {rz : Int32} (h : fX10_isSheet  p0 x0 = some (rz, xz)) : bq_M l D bq_cl (bq_ty k) (bq_wM a k) yX10_isSheet cX10_isSheet 1 (some .boolean) { frames := 1, cells := 0, slots := 0, locals := 25 } [.int p0] x0 (some rz) xz := by
  refine bq_ofW RX10 [(0, .int p0)] (by decide +kernel) rfl (Nat.le_of_ble_eq_true rfl) rfl (bq_adM a k) ?_
  intro p e s m below meth c A Q ls S hK hD hA hR hS hP hl
  have hx := S.1; have hb := S.2.1; have hml := S.2.2.1; have hown := S.2.2.2.1; have hts := S.2.2.2.2
  have hret : ∀ z, some z = some (rz, xz) → (rz, xz) = z := fun z h => (Option.some.inj h).symm
  unfold fX10_isSheet at h
  refine lv_iload_n hx hb dX10_isSheet_0 rfl (lv_at hl 0 rfl) ?_
  refine lv_i2l hx hb dX10_isSheet_1 rfl ?_
  refine lv_lconst (v := (0 : Int64)) hx hb dX10_isSheet_2 (by decide) ?_
  refine lv_ldc2 hx hb hown (hts _ kl_X10_191) dX10_isSheet_3 ?_
  obtain ⟨o1, ho1, h⟩ := Option.bind_eq_some_iff.mp h
  obtain ⟨v3, x2⟩ := o1
  replace h := un2_e h
  refine bq_callSi (As := [.long _, .long _, .long _]) S hK hD hA hP hS (cX10_in_k ho1) hd_yX10_in ml_X10_66 st_yX10_in ⟨rfl, rfl⟩ ⟨by decide, by decide⟩ rfl hl.1 rfl (Nat.le_of_ble_eq_true rfl) ⟨Nat.zero_le _, Nat.zero_le _⟩ dX10_isSheet_6 (fun H locs hP hS => ?_)
  obtain ⟨g4, h⟩ := bq_gp h
  obtain ⟨e1, e2⟩ := Prod.mk.inj (hret _ h)
  exact hR _ _ _ _ _ (congrArg some e1) (bq_z g4) (by rw [e2]; exact hP) hS dX10_isSheet_9
def fX10_isLane (p0 : Int32) (x0 : bq_S) : Option (Int32 × bq_S) :=
  (fX10_in p0.toInt64 (0 : Int64) (2 : Int64) x0).bind (fun o1 => un2 o1 (fun v3 x2 =>
  if v3 = 0 ∨ v3 = 1 then
  some (v3, x2)
  else none))
theorem dX10_isLane_0 : decode cX10_isLane 0 = .ok (.iload_n 0, 1) := by decide +kernel
theorem dX10_isLane_1 : decode cX10_isLane 1 = .ok (.i2l, 1) := by decide +kernel
theorem dX10_isLane_2 : decode cX10_isLane 2 = .ok (.lconst 0, 1) := by decide +kernel
theorem dX10_isLane_3 : decode cX10_isLane 3 = .ok (.ldc2_w 193, 3) := by decide +kernel
theorem dX10_isLane_6 : decode cX10_isLane 6 = .ok (.invokestatic 66, 3) := by decide +kernel
theorem dX10_isLane_9 : decode cX10_isLane 9 = .ok (.ireturn, 1) := by decide +kernel
set_option maxHeartbeats 4000000 in
set_option maxRecDepth 100000 in
theorem cX10_isLane_k {l : Launch} {D : va_G} {a : Nat → Nat} {k : Nat → ClassId} {p0 : Int32} {x0 xz : bq_S} {rz : Int32} (h : fX10_isLane  p0 x0 = some (rz, xz)) : bq_M l D bq_cl (bq_ty k) (bq_wM a k) yX10_isLane cX10_isLane 1 (some .boolean) { frames := 1, cells := 0, slots := 0, locals := 25 } [.int p0] x0 (some rz) xz := by
  refine bq_ofW RX10 [(0, .int p0)] (by decide +kernel) rfl (Nat.le_of_ble_eq_true rfl) rfl (bq_adM a k) ?_
  intro p e s m below meth c A Q ls S hK hD hA hR hS hP hl
  have hx := S.1; have hb := S.2.1; have hml := S.2.2.1; have hown := S.2.2.2.1; have hts := S.2.2.2.2
  have hret : ∀ z, some z = some (rz, xz) → (rz, xz) = z := fun z h => (Option.some.inj h).symm
  unfold fX10_isLane at h
  refine lv_iload_n hx hb dX10_isLane_0 rfl (lv_at hl 0 rfl) ?_
  refine lv_i2l hx hb dX10_isLane_1 rfl ?_
  refine lv_lconst (v := (0 : Int64)) hx hb dX10_isLane_2 (by decide) ?_
  refine lv_ldc2 hx hb hown (hts _ kl_X10_193) dX10_isLane_3 ?_
  obtain ⟨o1, ho1, h⟩ := Option.bind_eq_some_iff.mp h
  obtain ⟨v3, x2⟩ := o1
  replace h := un2_e h
  refine bq_callSi (As := [.long _, .long _, .long _]) S hK hD hA hP hS (cX10_in_k ho1) hd_yX10_in ml_X10_66 st_yX10_in ⟨rfl, rfl⟩ ⟨by decide, by decide⟩ rfl hl.1 rfl (Nat.le_of_ble_eq_true rfl) ⟨Nat.zero_le _, Nat.zero_le _⟩ dX10_isLane_6 (fun H locs hP hS => ?_)
  obtain ⟨g4, h⟩ := bq_gp h
  obtain ⟨e1, e2⟩ := Prod.mk.inj (hret _ h)
  exact hR _ _ _ _ _ (congrArg some e1) (bq_z g4) (by rw [e2]; exact hP) hS dX10_isLane_9
def fX10_finds (p1 : Int32) (p2 : Int32) (p3 : Int32) (p4 : Int32) (x0 : bq_S) : Option (Int32 × bq_S) :=
  if ok_i p1 4 then
  if 0 ≤ (x0.1 14 p1.toNatClampNeg) then
  if ok_i p1 4 then
  if (x0.1 14 p1.toNatClampNeg) = p2 then
  if p3 < 0 then
  some ((-13 : Int32), x0)
  else
  if ok_i p1 4 then
  if (lg_cmp (p3.toInt64 + p4.toInt64) (x0.1 15 p1.toNatClampNeg).toInt64) ≤ 0 then
  some ((0 : Int32), x0)
  else
  some ((-13 : Int32), x0)
  else none
  else
  some ((-12 : Int32), x0)
  else none
  else
  some ((-11 : Int32), x0)
  else none
theorem dX10_finds_0 : decode cX10_finds 0 = .ok (.aload_n 0, 1) := by decide +kernel
theorem dX10_finds_1 : decode cX10_finds 1 = .ok (.getfield 49, 3) := by decide +kernel
theorem dX10_finds_4 : decode cX10_finds 4 = .ok (.iload_n 1, 1) := by decide +kernel
theorem dX10_finds_5 : decode cX10_finds 5 = .ok (.iaload, 1) := by decide +kernel
theorem dX10_finds_6 : decode cX10_finds 6 = .ok (.ifCond .ge 6, 3) := by decide +kernel
theorem dX10_finds_9 : decode cX10_finds 9 = .ok (.bipush (-11), 2) := by decide +kernel
theorem dX10_finds_11 : decode cX10_finds 11 = .ok (.ireturn, 1) := by decide +kernel
theorem dX10_finds_12 : decode cX10_finds 12 = .ok (.aload_n 0, 1) := by decide +kernel
theorem dX10_finds_13 : decode cX10_finds 13 = .ok (.getfield 49, 3) := by decide +kernel
theorem dX10_finds_16 : decode cX10_finds 16 = .ok (.iload_n 1, 1) := by decide +kernel
theorem dX10_finds_17 : decode cX10_finds 17 = .ok (.iaload, 1) := by decide +kernel
theorem dX10_finds_18 : decode cX10_finds 18 = .ok (.iload_n 2, 1) := by decide +kernel
theorem dX10_finds_19 : decode cX10_finds 19 = .ok (.if_icmp .eq 6, 3) := by decide +kernel
theorem dX10_finds_22 : decode cX10_finds 22 = .ok (.bipush (-12), 2) := by decide +kernel
theorem dX10_finds_24 : decode cX10_finds 24 = .ok (.ireturn, 1) := by decide +kernel
theorem dX10_finds_25 : decode cX10_finds 25 = .ok (.iload_n 3, 1) := by decide +kernel
theorem dX10_finds_26 : decode cX10_finds 26 = .ok (.ifCond .lt 20, 3) := by decide +kernel
theorem dX10_finds_29 : decode cX10_finds 29 = .ok (.iload_n 3, 1) := by decide +kernel
theorem dX10_finds_30 : decode cX10_finds 30 = .ok (.i2l, 1) := by decide +kernel
theorem dX10_finds_31 : decode cX10_finds 31 = .ok (.iload 4, 2) := by decide +kernel
theorem dX10_finds_33 : decode cX10_finds 33 = .ok (.i2l, 1) := by decide +kernel
theorem dX10_finds_34 : decode cX10_finds 34 = .ok (.ladd, 1) := by decide +kernel
theorem dX10_finds_35 : decode cX10_finds 35 = .ok (.aload_n 0, 1) := by decide +kernel
theorem dX10_finds_36 : decode cX10_finds 36 = .ok (.getfield 52, 3) := by decide +kernel
theorem dX10_finds_39 : decode cX10_finds 39 = .ok (.iload_n 1, 1) := by decide +kernel
theorem dX10_finds_40 : decode cX10_finds 40 = .ok (.iaload, 1) := by decide +kernel
theorem dX10_finds_41 : decode cX10_finds 41 = .ok (.i2l, 1) := by decide +kernel
theorem dX10_finds_42 : decode cX10_finds 42 = .ok (.lcmp, 1) := by decide +kernel
theorem dX10_finds_43 : decode cX10_finds 43 = .ok (.ifCond .le 8, 3) := by decide +kernel
theorem dX10_finds_46 : decode cX10_finds 46 = .ok (.bipush (-13), 2) := by decide +kernel
theorem dX10_finds_48 : decode cX10_finds 48 = .ok (.goto 4, 3) := by decide +kernel
theorem dX10_finds_51 : decode cX10_finds 51 = .ok (.iconst 0, 1) := by decide +kernel
theorem dX10_finds_52 : decode cX10_finds 52 = .ok (.ireturn, 1) := by decide +kernel
set_option maxHeartbeats 4000000 in
set_option maxRecDepth 100000 in
theorem cX10_finds_k_0 {l : Launch} {D : va_G} {a : Nat → Nat} {k : Nat → ClassId} {p1 : Int32} {p2 : Int32} {p3 : Int32} {p4 : Int32} {x0 xz : bq_S} {rz : Int32} (h : fX10_finds  p1 p2 p3 p4 x0 = some (rz, xz)) : bq_M l D bq_cl (bq_ty k) (bq_wM a k) yX10_finds cX10_finds 5 (some .int) { frames := 0, cells := 0, slots := 0, locals := 0 } [.ref (a 0), .int p1, .int p2, .int p3, .int p4] x0 (some rz) xz := by
  refine bq_ofW RX10 [(0, .ref (a 0)), (1, .int p1), (2, .int p2), (3, .int p3), (4, .int p4)] (by decide +kernel) rfl (Nat.le_of_ble_eq_true rfl) rfl (bq_adM a k) ?_
  intro p e s m below meth c A Q ls S hK hD hA hR hS hP hl
  have hx := S.1; have hb := S.2.1; have hml := S.2.2.1; have hown := S.2.2.2.1; have hts := S.2.2.2.2
  have hret : ∀ z, some z = some (rz, xz) → (rz, xz) = z := fun z h => (Option.some.inj h).symm
  unfold fX10_finds at h
  refine lv_aload_n hx hb dX10_finds_0 rfl (lv_at hl 0 rfl) ?_
  refine bq_get (q0 := 0) S hK hP fl_X10_49_X10_22 rfl rfl rfl dX10_finds_1 ?_
  refine lv_iload_n hx hb dX10_finds_4 rfl (lv_at hl 1 rfl) ?_
  obtain ⟨g1, h⟩ := bq_gd h
  refine va_iald (D := D) hx hb hK hP 14 0 rfl rfl g1 dX10_finds_5 ?_
  refine lv_if_ge (tgt := 12) hx hb dX10_finds_6 (by decide) (fun c2 => ?_) (fun c2 => ?_)
  · replace h := (if_pos c2).symm.trans h
    refine lv_aload_n hx hb dX10_finds_12 rfl (lv_at hl 0 rfl) ?_
    refine bq_get (q0 := 0) S hK hP fl_X10_49_X10_22 rfl rfl rfl dX10_finds_13 ?_
    refine lv_iload_n hx hb dX10_finds_16 rfl (lv_at hl 1 rfl) ?_
    obtain ⟨g3, h⟩ := bq_gd h
    refine va_iald (D := D) hx hb hK hP 14 0 rfl rfl g3 dX10_finds_17 ?_
    refine lv_iload_n hx hb dX10_finds_18 rfl (lv_at hl 2 rfl) ?_
    refine lv_icmp_eq (tgt := 25) hx hb dX10_finds_19 (by decide) (fun c4 => ?_) (fun c4 => ?_)
    · replace h := (if_pos c4).symm.trans h
      refine lv_iload_n hx hb dX10_finds_25 rfl (lv_at hl 3 rfl) ?_
      refine lv_if_lt (tgt := 46) hx hb dX10_finds_26 (by decide) (fun c5 => ?_) (fun c5 => ?_)
      · replace h := (if_pos c5).symm.trans h
        refine lv_bipush (v := (-13 : Int32)) hx hb dX10_finds_46 (by decide) ?_
        refine lv_goto (tgt := 52) hx hb dX10_finds_48 (by decide) ?_
        obtain ⟨e1, e2⟩ := Prod.mk.inj (hret _ h)
        exact hR _ _ _ _ _ (congrArg some e1) rfl (by rw [e2]; exact hP) hS dX10_finds_52
      · replace h := (if_neg c5).symm.trans h
        refine lv_iload_n hx hb dX10_finds_29 rfl (lv_at hl 3 rfl) ?_
        refine lv_i2l hx hb dX10_finds_30 rfl ?_
        refine lv_iload hx hb dX10_finds_31 (lv_at hl 4 rfl) ?_
        refine lv_i2l hx hb dX10_finds_33 rfl ?_
        refine lv_ladd hx hb dX10_finds_34 ?_
        refine lv_aload_n hx hb dX10_finds_35 rfl (lv_at hl 0 rfl) ?_
        refine bq_get (q0 := 0) S hK hP fl_X10_52_X10_23 rfl rfl rfl dX10_finds_36 ?_
        refine lv_iload_n hx hb dX10_finds_39 rfl (lv_at hl 1 rfl) ?_
        obtain ⟨g6, h⟩ := bq_gd h
        refine va_iald (D := D) hx hb hK hP 15 0 rfl rfl g6 dX10_finds_40 ?_
        refine lv_i2l hx hb dX10_finds_41 rfl ?_
        refine W.lcmp hx hb dX10_finds_42 ?_
        refine lv_if_le (tgt := 51) hx hb dX10_finds_43 (by decide) (fun c7 => ?_) (fun c7 => ?_)
        · replace h := (if_pos c7).symm.trans h
          refine lv_iconst (v := (0 : Int32)) hx hb dX10_finds_51 (by decide) ?_
          obtain ⟨e1, e2⟩ := Prod.mk.inj (hret _ h)
          exact hR _ _ _ _ _ (congrArg some e1) rfl (by rw [e2]; exact hP) hS dX10_finds_52
        · replace h := (if_neg c7).symm.trans h
          refine lv_bipush (v := (-13 : Int32)) hx hb dX10_finds_46 (by decide) ?_
          refine lv_goto (tgt := 52) hx hb dX10_finds_48 (by decide) ?_
          obtain ⟨e1, e2⟩ := Prod.mk.inj (hret _ h)
          exact hR _ _ _ _ _ (congrArg some e1) rfl (by rw [e2]; exact hP) hS dX10_finds_52
    · replace h := (if_neg c4).symm.trans h
      refine lv_bipush (v := (-12 : Int32)) hx hb dX10_finds_22 (by decide) ?_
      obtain ⟨e1, e2⟩ := Prod.mk.inj (hret _ h)
      exact hR _ _ _ _ _ (congrArg some e1) rfl (by rw [e2]; exact hP) hS dX10_finds_24
  · replace h := (if_neg c2).symm.trans h
    refine lv_bipush (v := (-11 : Int32)) hx hb dX10_finds_9 (by decide) ?_
    obtain ⟨e1, e2⟩ := Prod.mk.inj (hret _ h)
    exact hR _ _ _ _ _ (congrArg some e1) rfl (by rw [e2]; exact hP) hS dX10_finds_11
def fX10_thickOf_b5 (n : Nat) (v1 : Int32) (v : Int32 × Int32 × bq_S) : Option ((Int32 × Int32 × bq_S) ⊕ (Int32 × Int32 × bq_S)) :=
  un3 v (fun v2 v3 x4 =>
  if v1 < v3 then
  some (.inr (v2, v3, x4))
  else
  if ok_i v3 8 then
  if ok_i (x4.1 5 v3.toNatClampNeg) 8 then
  bd (v2 + (x4.1 1 (x4.1 5 v3.toNatClampNeg).toNatClampNeg)) (fun v8 =>
  bd (v3 + (1 : Int32)) (fun v9 =>
  some (.inl (v8, v9, x4))))
  else none
  else none)
def fX10_thickOf (n : Nat) (p1 : Int32) (p2 : Int32) (x0 : bq_S) : Option (Int32 × bq_S) :=
  (wh n (fX10_thickOf_b5 n p2) ((0 : Int32), p1, x0)).bind (fun e10 => un3 e10 (fun v11 v12 x13 =>
  some (v11, x13)))
theorem dX10_thickOf_0 : decode cX10_thickOf 0 = .ok (.iconst 0, 1) := by decide +kernel
theorem dX10_thickOf_1 : decode cX10_thickOf 1 = .ok (.istore_n 3, 1) := by decide +kernel
theorem dX10_thickOf_2 : decode cX10_thickOf 2 = .ok (.iload_n 1, 1) := by decide +kernel
theorem dX10_thickOf_3 : decode cX10_thickOf 3 = .ok (.istore 4, 2) := by decide +kernel
theorem dX10_thickOf_5 : decode cX10_thickOf 5 = .ok (.iload 4, 2) := by decide +kernel
theorem dX10_thickOf_7 : decode cX10_thickOf 7 = .ok (.iload_n 2, 1) := by decide +kernel
theorem dX10_thickOf_8 : decode cX10_thickOf 8 = .ok (.if_icmp .gt 24, 3) := by decide +kernel
theorem dX10_thickOf_11 : decode cX10_thickOf 11 = .ok (.iload_n 3, 1) := by decide +kernel
theorem dX10_thickOf_12 : decode cX10_thickOf 12 = .ok (.aload_n 0, 1) := by decide +kernel
theorem dX10_thickOf_13 : decode cX10_thickOf 13 = .ok (.getfield 7, 3) := by decide +kernel
theorem dX10_thickOf_16 : decode cX10_thickOf 16 = .ok (.aload_n 0, 1) := by decide +kernel
theorem dX10_thickOf_17 : decode cX10_thickOf 17 = .ok (.getfield 22, 3) := by decide +kernel
theorem dX10_thickOf_20 : decode cX10_thickOf 20 = .ok (.iload 4, 2) := by decide +kernel
theorem dX10_thickOf_22 : decode cX10_thickOf 22 = .ok (.iaload, 1) := by decide +kernel
theorem dX10_thickOf_23 : decode cX10_thickOf 23 = .ok (.iaload, 1) := by decide +kernel
theorem dX10_thickOf_24 : decode cX10_thickOf 24 = .ok (.iadd, 1) := by decide +kernel
theorem dX10_thickOf_25 : decode cX10_thickOf 25 = .ok (.istore_n 3, 1) := by decide +kernel
theorem dX10_thickOf_26 : decode cX10_thickOf 26 = .ok (.iinc 4 1, 3) := by decide +kernel
theorem dX10_thickOf_29 : decode cX10_thickOf 29 = .ok (.goto (-24), 3) := by decide +kernel
theorem dX10_thickOf_32 : decode cX10_thickOf 32 = .ok (.iload_n 3, 1) := by decide +kernel
theorem dX10_thickOf_33 : decode cX10_thickOf 33 = .ok (.ireturn, 1) := by decide +kernel
set_option maxHeartbeats 4000000 in
set_option maxRecDepth 100000 in
theorem cX10_thickOf_k_0 {l : Launch} {D : va_G} {a : Nat → Nat} {k : Nat → ClassId} {n : Nat} {p1 : Int32} {p2 : Int32} {x0 xz : bq_S} {rz : Int32} (h : fX10_thickOf n p1 p2 x0 = some (rz, xz)) : bq_M l D bq_cl (bq_ty k) (bq_wM a k) yX10_thickOf cX10_thickOf 5 (some .int) { frames := 0, cells := 0, slots := 0, locals := 0 } [.ref (a 0), .int p1, .int p2] x0 (some rz) xz := by
  refine bq_ofW RX10 [(0, .ref (a 0)), (1, .int p1), (2, .int p2)] (by decide +kernel) rfl (Nat.le_of_ble_eq_true rfl) rfl (bq_adM a k) ?_
  intro p e s m below meth c A Q ls S hK hD hA hR hS hP hl
  have hx := S.1; have hb := S.2.1; have hml := S.2.2.1; have hown := S.2.2.2.1; have hts := S.2.2.2.2
  have hret : ∀ z, some z = some (rz, xz) → (rz, xz) = z := fun z h => (Option.some.inj h).symm
  unfold fX10_thickOf at h
  refine lv_iconst (v := (0 : Int32)) hx hb dX10_thickOf_0 (by decide) ?_
  refine lv_istore_n (lv' := [(3, .int (0 : Int32)), (0, .ref (a 0)), (1, .int p1), (2, .int p2)]) hx hb dX10_thickOf_1 rfl hl (by decide) rfl (fun ls hl => ?_)
  refine lv_iload_n hx hb dX10_thickOf_2 rfl (lv_at hl 2 rfl) ?_
  refine lv_istore (lv' := [(4, .int p1), (3, .int (0 : Int32)), (0, .ref (a 0)), (1, .int p1), (2, .int p2)]) hx hb dX10_thickOf_3 hl (by decide) rfl (fun ls hl => ?_)
  have hl5 : ∀ (v1 : Int32) (kf : Nat) (v2 : Int32) (v3 : Int32) (x4 : bq_S) (eo : Int32 × Int32 × bq_S) (H : Heap) (locs : List Loc) (ls : Array Slot), wh kf (fX10_thickOf_b5 n v1) (v2, v3, x4) = some eo → va_P D bq_cl (bq_wM a k x4) H → va_S A s.heap H locs → lv_has ls 5 [(0, .ref (a 0)), (2, .int v1), (3, .int v2), (4, .int v3)] → (∀ (H : Heap) (locs : List Loc) (ls : Array Slot) (v11 : Int32) (v12 : Int32) (x13 : bq_S), eo = (v11, v12, x13) → va_P D bq_cl (bq_wM a k x13) H → va_S A s.heap H locs → lv_has ls 5 [(3, .int v11)] → W p l e { frames := 0, cells := 0, slots := 0, locals := 0 } s m [.ref (a 0), .int p1, .int p2].toArray below meth c H locs 0 0 Q (F0 m 32 ls [])) → W p l e { frames := 0, cells := 0, slots := 0, locals := 0 } s m [.ref (a 0), .int p1, .int p2].toArray below meth c H locs 0 0 Q (F0 m 5 ls []) := by
    intro v1 kf
    induction kf with
    | zero => intro v2 v3 x4 eo H locs ls h; cases h
    | succ kf ih =>
      intro v2 v3 x4 eo H locs ls h hP hS hl kx
      obtain ⟨out, h, hw⟩ := wh_s h
      unfold fX10_thickOf_b5 at h
      replace h := un3_e h
      refine lv_iload hx hb dX10_thickOf_5 (lv_at hl 3 rfl) ?_
      refine lv_iload_n hx hb dX10_thickOf_7 rfl (lv_at hl 1 rfl) ?_
      refine lv_icmp_gt (tgt := 32) hx hb dX10_thickOf_8 (by decide) (fun c5 => ?_) (fun c5 => ?_)
      · replace h := (if_pos c5).symm.trans h
        cases h
        exact kx _ _ _ _ _ _ (Option.some.inj hw).symm hP hS (lv_sub hl [2] rfl)
      · replace h := (if_neg c5).symm.trans h
        refine lv_iload_n hx hb dX10_thickOf_11 rfl (lv_at hl 2 rfl) ?_
        refine lv_aload_n hx hb dX10_thickOf_12 rfl (lv_at hl 0 rfl) ?_
        refine bq_get (q0 := 0) S hK hP fl_X10_7_X10_1 rfl rfl rfl dX10_thickOf_13 ?_
        refine lv_aload_n hx hb dX10_thickOf_16 rfl (lv_at hl 0 rfl) ?_
        refine bq_get (q0 := 0) S hK hP fl_X10_22_X10_7 rfl rfl rfl dX10_thickOf_17 ?_
        refine lv_iload hx hb dX10_thickOf_20 (lv_at hl 3 rfl) ?_
        obtain ⟨g6, h⟩ := bq_gd h
        refine va_iald (D := D) hx hb hK hP 5 0 rfl rfl g6 dX10_thickOf_22 ?_
        obtain ⟨g7, h⟩ := bq_gd h
        refine va_iald (D := D) hx hb hK hP 1 0 rfl rfl g7 dX10_thickOf_23 ?_
        refine lv_iadd hx hb dX10_thickOf_24 ?_
        refine lv_topi (fun v8 hv8 => ?_)
        replace h := bq_bv h hv8
        refine lv_istore_n (lv' := [(3, .int v8), (0, .ref (a 0)), (2, .int v1), (4, .int v3)]) hx hb dX10_thickOf_25 rfl hl (by decide) rfl (fun ls hl => ?_)
        obtain ⟨v9, hv9, h⟩ := bq_b h
        refine lv_iinc (v := v9) (lv' := [(4, .int v9), (3, .int v8), (0, .ref (a 0)), (2, .int v1)]) hx hb dX10_thickOf_26 hl (k := 3) rfl (by rw [hv9]; rfl) (by decide) rfl (fun ls hl => ?_)
        refine lv_goto (tgt := 5) hx hb dX10_thickOf_29 (by decide) ?_
        cases h
        exact ih _ _ _ _ _ _ _ hw hP hS (lv_sub hl [2, 3, 1, 0] rfl) kx
  obtain ⟨e10, he10, h⟩ := Option.bind_eq_some_iff.mp h
  refine hl5 _ n _ _ _ e10 _ _ _ he10 hP hS (lv_sub hl [2, 4, 1, 0] rfl) (fun H locs ls v11 v12 x13 hz hP hS hl => ?_)
  subst hz
  replace h := un3_e h
  refine lv_iload_n hx hb dX10_thickOf_32 rfl (lv_at hl 0 rfl) ?_
  obtain ⟨e1, e2⟩ := Prod.mk.inj (hret _ h)
  exact hR _ _ _ _ _ (congrArg some e1) rfl (by rw [e2]; exact hP) hS dX10_thickOf_33
def fX10_walk_b51 (n : Nat) (v17 : Int32) (v18 : Int32) (v19 : Int32) (v : Int32 × bq_S) : Option ((Int32 × bq_S) ⊕ ((Int32 × bq_S) ⊕ (Int32 × bq_S))) :=
  un2 v (fun v20 x21 =>
  if v19 ≤ v20 then
  some (.inr (.inl (v20, x21)))
  else
  if ok_i ((((16 : Int32) * v17) + v18) + v20) 64 then
  (fX10_in (x21.2 16 ((((16 : Int32) * v17) + v18) + v20).toNatClampNeg) (0 : Int64) ((x21.1 0 6) - (1 : Int32)).toInt64 x21).bind (fun o24 => un2 o24 (fun v26 x25 =>
  if v26 = 0 then
  some (.inr (.inr ((-2 : Int32), x25)))
  else
  bd (v20 + (1 : Int32)) (fun v28 =>
  some (.inl (v28, x25)))))
  else none)
def fX10_walk_j277 (n : Nat) (v35 : Int32) (v36 : Int32) (v37 : Int32) (v38 : Int32) (v87 : Int32) (v88 : Int32) (v89 : Int32) (v90 : Int32) (x91 : bq_S) : Option ((Int32 × Int32 × Int32 × bq_S) ⊕ (Int32 × Int32 × Int32 × bq_S)) :=
  bd (v89 + v90) (fun v92 =>
  bd (v87 + (1 : Int32)) (fun v93 =>
  some (.inl (v92, v88, v93, x91))))
def fX10_walk_j245 (n : Nat) (v35 : Int32) (v36 : Int32) (v37 : Int32) (v38 : Int32) (v78 : Int32) (v79 : Int32) (v80 : Int32) (v81 : Int32) (v82 : Int32) (v83 : Int32) (x84 : bq_S) : Option ((Int32 × Int32 × Int32 × bq_S) ⊕ (Int32 × Int32 × Int32 × bq_S)) :=
  if (x84.1 4 (0 : Int32).toNatClampNeg) = 0 then
  fX10_walk_j277 n v35 v36 v37 v38 v79 v80 v78 v83 x84
  else
  if v82 ≤ v81 then
  fX10_walk_j277 n v35 v36 v37 v38 v79 v80 v78 v82 x84
  else
  fX10_walk_j277 n v35 v36 v37 v38 v79 v80 v78 v81 x84
def fX10_walk_j229 (n : Nat) (v35 : Int32) (v36 : Int32) (v37 : Int32) (v38 : Int32) (v70 : Int32) (v71 : Int32) (v72 : Int32) (v73 : Int32) (v74 : Int32) (v75 : Int32) (x76 : bq_S) : Option ((Int32 × Int32 × Int32 × bq_S) ⊕ (Int32 × Int32 × Int32 × bq_S)) :=
  if v73 < v71 then
  fX10_walk_j245 n v35 v36 v37 v38 v70 v72 v73 v74 v75 v75 x76
  else
  fX10_walk_j245 n v35 v36 v37 v38 v70 v72 v73 v74 v75 v74 x76
def fX10_walk_j221 (n : Nat) (v35 : Int32) (v36 : Int32) (v37 : Int32) (v38 : Int32) (v59 : Int32) (v60 : Int32) (v61 : Int32) (v62 : Int32) (v63 : Int32) (v64 : Int32) (v65 : Int32) (x66 : bq_S) : Option ((Int32 × Int32 × Int32 × bq_S) ⊕ (Int32 × Int32 × Int32 × bq_S)) :=
  (fX10_thickOf n v65 (v62 - (1 : Int32)) x66).bind (fun o67 => un2 o67 (fun v69 x68 =>
  fX10_walk_j229 n v35 v36 v37 v38 v59 v60 v61 v62 v63 (v64 - v69) x68))
def fX10_walk_j174 (n : Nat) (v35 : Int32) (v36 : Int32) (v37 : Int32) (v38 : Int32) (v50 : Int32) (v51 : Int32) (v52 : Int32) (v53 : Int32) (v54 : Int32) (x55 : bq_S) : Option ((Int32 × Int32 × Int32 × bq_S) ⊕ (Int32 × Int32 × Int32 × bq_S)) :=
  if v53 = v51 then
  fX10_walk_j229 n v35 v36 v37 v38 v50 v51 v52 v53 v54 (0 : Int32) x55
  else
  if v51 ≤ v53 then
  if 0 ≤ v51 then
  fX10_walk_j221 n v35 v36 v37 v38 v50 v51 v52 v53 v54 v38 v51 x55
  else
  fX10_walk_j221 n v35 v36 v37 v38 v50 v51 v52 v53 v54 v38 (0 : Int32) x55
  else
  (fX10_thickOf n v53 (v51 - (1 : Int32)) x55).bind (fun o94 => un2 o94 (fun v96 x95 =>
  fX10_walk_j229 n v35 v36 v37 v38 v50 v51 v52 v53 v54 v96 x95))
def fX10_walk_b117 (n : Nat) (v35 : Int32) (v36 : Int32) (v37 : Int32) (v38 : Int32) (v : Int32 × Int32 × Int32 × bq_S) : Option ((Int32 × Int32 × Int32 × bq_S) ⊕ (Int32 × Int32 × Int32 × bq_S)) :=
  un4 v (fun v39 v40 v41 x42 =>
  if v37 ≤ v41 then
  some (.inr (v39, v40, v41, x42))
  else
  if ok_i ((((16 : Int32) * v35) + v36) + v41) 64 then
  bd (x42.2 16 ((((16 : Int32) * v35) + v36) + v41).toNatClampNeg).toInt32 (fun v45 =>
  if v45 < v40 then
  (fX10_thickOf n (v45 + (1 : Int32)) v40 x42).bind (fun o47 => un2 o47 (fun v49 x48 =>
  fX10_walk_j174 n v35 v36 v37 v38 v39 v40 v41 v45 (v38 - v49) x48))
  else
  (fX10_thickOf n (v40 + (1 : Int32)) v45 x42).bind (fun o97 => un2 o97 (fun v99 x98 =>
  fX10_walk_j174 n v35 v36 v37 v38 v39 v40 v41 v45 v99 x98)))
  else none)
def fX10_walk (n : Nat) (p1 : Int32) (p2 : Int32) (p3 : Int32) (p4 : Int32) (x0 : bq_S) : Option (Int32 × bq_S) :=
  (fX10_isSheet p1 x0).bind (fun o1 => un2 o1 (fun v3 x2 =>
  if v3 = 0 then
  some ((-1 : Int32), x2)
  else
  (fX10_isLane p2 x2).bind (fun o5 => un2 o5 (fun v7 x6 =>
  if v7 = 0 then
  some ((-1 : Int32), x6)
  else
  (fX10_in p4.toInt64 (1 : Int64) (6 : Int64) x6).bind (fun o9 => un2 o9 (fun v11 x10 =>
  if v11 = 0 then
  some ((-1 : Int32), x10)
  else
  (fX10_finds p1 p2 p3 p4 x10).bind (fun o13 => un2 o13 (fun v15 x14 =>
  if 0 ≤ v15 then
  (wh n (fX10_walk_b51 n p1 p3 p4) ((0 : Int32), x14)).bind (fun e29 =>
  Sum.elim (fun z => un2 z (fun v30 x31 =>
  (fX10_thickOf n (0 : Int32) ((x31.1 0 6) - (1 : Int32)) x31).bind (fun o32 => un2 o32 (fun v34 x33 =>
  (wh n (fX10_walk_b117 n p1 p3 p4 v34) ((0 : Int32), (-1 : Int32), (0 : Int32), x33)).bind (fun e100 => un4 e100 (fun v101 v102 v103 x104 =>
  some (v101, x104))))))) (fun z => some z) e29)
  else
  some (v15, x14)))))))))
theorem dX10_walk_0 : decode cX10_walk 0 = .ok (.iload_n 1, 1) := by decide +kernel
theorem dX10_walk_1 : decode cX10_walk 1 = .ok (.invokestatic 195, 3) := by decide +kernel
theorem dX10_walk_4 : decode cX10_walk 4 = .ok (.ifCond .eq 23, 3) := by decide +kernel
theorem dX10_walk_7 : decode cX10_walk 7 = .ok (.iload_n 2, 1) := by decide +kernel
theorem dX10_walk_8 : decode cX10_walk 8 = .ok (.invokestatic 198, 3) := by decide +kernel
theorem dX10_walk_11 : decode cX10_walk 11 = .ok (.ifCond .eq 16, 3) := by decide +kernel
theorem dX10_walk_14 : decode cX10_walk 14 = .ok (.iload 4, 2) := by decide +kernel
theorem dX10_walk_16 : decode cX10_walk 16 = .ok (.i2l, 1) := by decide +kernel
theorem dX10_walk_17 : decode cX10_walk 17 = .ok (.lconst 1, 1) := by decide +kernel
theorem dX10_walk_18 : decode cX10_walk 18 = .ok (.ldc2_w 201, 3) := by decide +kernel
theorem dX10_walk_21 : decode cX10_walk 21 = .ok (.invokestatic 66, 3) := by decide +kernel
theorem dX10_walk_24 : decode cX10_walk 24 = .ok (.ifCond .ne 5, 3) := by decide +kernel
theorem dX10_walk_27 : decode cX10_walk 27 = .ok (.iconst (-1), 1) := by decide +kernel
theorem dX10_walk_28 : decode cX10_walk 28 = .ok (.ireturn, 1) := by decide +kernel
theorem dX10_walk_29 : decode cX10_walk 29 = .ok (.aload_n 0, 1) := by decide +kernel
theorem dX10_walk_30 : decode cX10_walk 30 = .ok (.iload_n 1, 1) := by decide +kernel
theorem dX10_walk_31 : decode cX10_walk 31 = .ok (.iload_n 2, 1) := by decide +kernel
theorem dX10_walk_32 : decode cX10_walk 32 = .ok (.iload_n 3, 1) := by decide +kernel
theorem dX10_walk_33 : decode cX10_walk 33 = .ok (.iload 4, 2) := by decide +kernel
theorem dX10_walk_35 : decode cX10_walk 35 = .ok (.invokevirtual 203, 3) := by decide +kernel
theorem dX10_walk_38 : decode cX10_walk 38 = .ok (.istore 5, 2) := by decide +kernel
theorem dX10_walk_40 : decode cX10_walk 40 = .ok (.iload 5, 2) := by decide +kernel
theorem dX10_walk_42 : decode cX10_walk 42 = .ok (.ifCond .ge 6, 3) := by decide +kernel
theorem dX10_walk_45 : decode cX10_walk 45 = .ok (.iload 5, 2) := by decide +kernel
theorem dX10_walk_47 : decode cX10_walk 47 = .ok (.ireturn, 1) := by decide +kernel
theorem dX10_walk_48 : decode cX10_walk 48 = .ok (.iconst 0, 1) := by decide +kernel
theorem dX10_walk_49 : decode cX10_walk 49 = .ok (.istore 6, 2) := by decide +kernel
theorem dX10_walk_51 : decode cX10_walk 51 = .ok (.iload 6, 2) := by decide +kernel
theorem dX10_walk_53 : decode cX10_walk 53 = .ok (.iload 4, 2) := by decide +kernel
theorem dX10_walk_55 : decode cX10_walk 55 = .ok (.if_icmp .ge 40, 3) := by decide +kernel
theorem dX10_walk_58 : decode cX10_walk 58 = .ok (.aload_n 0, 1) := by decide +kernel
theorem dX10_walk_59 : decode cX10_walk 59 = .ok (.getfield 55, 3) := by decide +kernel
theorem dX10_walk_62 : decode cX10_walk 62 = .ok (.bipush 16, 2) := by decide +kernel
theorem dX10_walk_64 : decode cX10_walk 64 = .ok (.iload_n 1, 1) := by decide +kernel
theorem dX10_walk_65 : decode cX10_walk 65 = .ok (.imul, 1) := by decide +kernel
theorem dX10_walk_66 : decode cX10_walk 66 = .ok (.iload_n 3, 1) := by decide +kernel
theorem dX10_walk_67 : decode cX10_walk 67 = .ok (.iadd, 1) := by decide +kernel
theorem dX10_walk_68 : decode cX10_walk 68 = .ok (.iload 6, 2) := by decide +kernel
theorem dX10_walk_70 : decode cX10_walk 70 = .ok (.iadd, 1) := by decide +kernel
theorem dX10_walk_71 : decode cX10_walk 71 = .ok (.laload, 1) := by decide +kernel
theorem dX10_walk_72 : decode cX10_walk 72 = .ok (.lconst 0, 1) := by decide +kernel
theorem dX10_walk_73 : decode cX10_walk 73 = .ok (.aload_n 0, 1) := by decide +kernel
theorem dX10_walk_74 : decode cX10_walk 74 = .ok (.getfield 126, 3) := by decide +kernel
theorem dX10_walk_77 : decode cX10_walk 77 = .ok (.iconst 1, 1) := by decide +kernel
theorem dX10_walk_78 : decode cX10_walk 78 = .ok (.isub, 1) := by decide +kernel
theorem dX10_walk_79 : decode cX10_walk 79 = .ok (.i2l, 1) := by decide +kernel
theorem dX10_walk_80 : decode cX10_walk 80 = .ok (.invokestatic 66, 3) := by decide +kernel
theorem dX10_walk_83 : decode cX10_walk 83 = .ok (.ifCond .ne 6, 3) := by decide +kernel
theorem dX10_walk_86 : decode cX10_walk 86 = .ok (.bipush (-2), 2) := by decide +kernel
theorem dX10_walk_88 : decode cX10_walk 88 = .ok (.ireturn, 1) := by decide +kernel
theorem dX10_walk_89 : decode cX10_walk 89 = .ok (.iinc 6 1, 3) := by decide +kernel
theorem dX10_walk_92 : decode cX10_walk 92 = .ok (.goto (-41), 3) := by decide +kernel
theorem dX10_walk_95 : decode cX10_walk 95 = .ok (.aload_n 0, 1) := by decide +kernel
theorem dX10_walk_96 : decode cX10_walk 96 = .ok (.iconst 0, 1) := by decide +kernel
theorem dX10_walk_97 : decode cX10_walk 97 = .ok (.aload_n 0, 1) := by decide +kernel
theorem dX10_walk_98 : decode cX10_walk 98 = .ok (.getfield 126, 3) := by decide +kernel
theorem dX10_walk_101 : decode cX10_walk 101 = .ok (.iconst 1, 1) := by decide +kernel
theorem dX10_walk_102 : decode cX10_walk 102 = .ok (.isub, 1) := by decide +kernel
theorem dX10_walk_103 : decode cX10_walk 103 = .ok (.invokevirtual 207, 3) := by decide +kernel
theorem dX10_walk_106 : decode cX10_walk 106 = .ok (.istore 6, 2) := by decide +kernel
theorem dX10_walk_108 : decode cX10_walk 108 = .ok (.iconst 0, 1) := by decide +kernel
theorem dX10_walk_109 : decode cX10_walk 109 = .ok (.istore 7, 2) := by decide +kernel
theorem dX10_walk_111 : decode cX10_walk 111 = .ok (.iconst (-1), 1) := by decide +kernel
theorem dX10_walk_112 : decode cX10_walk 112 = .ok (.istore 8, 2) := by decide +kernel
theorem dX10_walk_114 : decode cX10_walk 114 = .ok (.iconst 0, 1) := by decide +kernel
theorem dX10_walk_115 : decode cX10_walk 115 = .ok (.istore 9, 2) := by decide +kernel
theorem dX10_walk_117 : decode cX10_walk 117 = .ok (.iload 9, 2) := by decide +kernel
theorem dX10_walk_119 : decode cX10_walk 119 = .ok (.iload 4, 2) := by decide +kernel
theorem dX10_walk_121 : decode cX10_walk 121 = .ok (.if_icmp .ge 169, 3) := by decide +kernel
theorem dX10_walk_124 : decode cX10_walk 124 = .ok (.aload_n 0, 1) := by decide +kernel
theorem dX10_walk_125 : decode cX10_walk 125 = .ok (.getfield 55, 3) := by decide +kernel
theorem dX10_walk_128 : decode cX10_walk 128 = .ok (.bipush 16, 2) := by decide +kernel
theorem dX10_walk_130 : decode cX10_walk 130 = .ok (.iload_n 1, 1) := by decide +kernel
theorem dX10_walk_131 : decode cX10_walk 131 = .ok (.imul, 1) := by decide +kernel
theorem dX10_walk_132 : decode cX10_walk 132 = .ok (.iload_n 3, 1) := by decide +kernel
theorem dX10_walk_133 : decode cX10_walk 133 = .ok (.iadd, 1) := by decide +kernel
theorem dX10_walk_134 : decode cX10_walk 134 = .ok (.iload 9, 2) := by decide +kernel
theorem dX10_walk_136 : decode cX10_walk 136 = .ok (.iadd, 1) := by decide +kernel
theorem dX10_walk_137 : decode cX10_walk 137 = .ok (.laload, 1) := by decide +kernel
theorem dX10_walk_138 : decode cX10_walk 138 = .ok (.l2i, 1) := by decide +kernel
theorem dX10_walk_139 : decode cX10_walk 139 = .ok (.istore 10, 2) := by decide +kernel
theorem dX10_walk_141 : decode cX10_walk 141 = .ok (.iload 10, 2) := by decide +kernel
theorem dX10_walk_143 : decode cX10_walk 143 = .ok (.iload 8, 2) := by decide +kernel
theorem dX10_walk_145 : decode cX10_walk 145 = .ok (.if_icmp .lt 16, 3) := by decide +kernel
theorem dX10_walk_148 : decode cX10_walk 148 = .ok (.aload_n 0, 1) := by decide +kernel
theorem dX10_walk_149 : decode cX10_walk 149 = .ok (.iload 8, 2) := by decide +kernel
theorem dX10_walk_151 : decode cX10_walk 151 = .ok (.iconst 1, 1) := by decide +kernel
theorem dX10_walk_152 : decode cX10_walk 152 = .ok (.iadd, 1) := by decide +kernel
theorem dX10_walk_153 : decode cX10_walk 153 = .ok (.iload 10, 2) := by decide +kernel
theorem dX10_walk_155 : decode cX10_walk 155 = .ok (.invokevirtual 207, 3) := by decide +kernel
theorem dX10_walk_158 : decode cX10_walk 158 = .ok (.goto 16, 3) := by decide +kernel
theorem dX10_walk_161 : decode cX10_walk 161 = .ok (.iload 6, 2) := by decide +kernel
theorem dX10_walk_163 : decode cX10_walk 163 = .ok (.aload_n 0, 1) := by decide +kernel
theorem dX10_walk_164 : decode cX10_walk 164 = .ok (.iload 10, 2) := by decide +kernel
theorem dX10_walk_166 : decode cX10_walk 166 = .ok (.iconst 1, 1) := by decide +kernel
theorem dX10_walk_167 : decode cX10_walk 167 = .ok (.iadd, 1) := by decide +kernel
theorem dX10_walk_168 : decode cX10_walk 168 = .ok (.iload 8, 2) := by decide +kernel
theorem dX10_walk_170 : decode cX10_walk 170 = .ok (.invokevirtual 207, 3) := by decide +kernel
theorem dX10_walk_173 : decode cX10_walk 173 = .ok (.isub, 1) := by decide +kernel
theorem dX10_walk_174 : decode cX10_walk 174 = .ok (.istore 11, 2) := by decide +kernel
theorem dX10_walk_176 : decode cX10_walk 176 = .ok (.iload 10, 2) := by decide +kernel
theorem dX10_walk_178 : decode cX10_walk 178 = .ok (.iload 8, 2) := by decide +kernel
theorem dX10_walk_180 : decode cX10_walk 180 = .ok (.if_icmp .ne 7, 3) := by decide +kernel
theorem dX10_walk_183 : decode cX10_walk 183 = .ok (.iconst 0, 1) := by decide +kernel
theorem dX10_walk_184 : decode cX10_walk 184 = .ok (.goto 45, 3) := by decide +kernel
theorem dX10_walk_187 : decode cX10_walk 187 = .ok (.iload 10, 2) := by decide +kernel
theorem dX10_walk_189 : decode cX10_walk 189 = .ok (.iload 8, 2) := by decide +kernel
theorem dX10_walk_191 : decode cX10_walk 191 = .ok (.if_icmp .ge 16, 3) := by decide +kernel
theorem dX10_walk_194 : decode cX10_walk 194 = .ok (.aload_n 0, 1) := by decide +kernel
theorem dX10_walk_195 : decode cX10_walk 195 = .ok (.iload 10, 2) := by decide +kernel
theorem dX10_walk_197 : decode cX10_walk 197 = .ok (.iload 8, 2) := by decide +kernel
theorem dX10_walk_199 : decode cX10_walk 199 = .ok (.iconst 1, 1) := by decide +kernel
theorem dX10_walk_200 : decode cX10_walk 200 = .ok (.isub, 1) := by decide +kernel
theorem dX10_walk_201 : decode cX10_walk 201 = .ok (.invokevirtual 207, 3) := by decide +kernel
theorem dX10_walk_204 : decode cX10_walk 204 = .ok (.goto 25, 3) := by decide +kernel
theorem dX10_walk_207 : decode cX10_walk 207 = .ok (.iload 6, 2) := by decide +kernel
theorem dX10_walk_209 : decode cX10_walk 209 = .ok (.aload_n 0, 1) := by decide +kernel
theorem dX10_walk_210 : decode cX10_walk 210 = .ok (.iload 8, 2) := by decide +kernel
theorem dX10_walk_212 : decode cX10_walk 212 = .ok (.ifCond .ge 7, 3) := by decide +kernel
theorem dX10_walk_215 : decode cX10_walk 215 = .ok (.iconst 0, 1) := by decide +kernel
theorem dX10_walk_216 : decode cX10_walk 216 = .ok (.goto 5, 3) := by decide +kernel
theorem dX10_walk_219 : decode cX10_walk 219 = .ok (.iload 8, 2) := by decide +kernel
theorem dX10_walk_221 : decode cX10_walk 221 = .ok (.iload 10, 2) := by decide +kernel
theorem dX10_walk_223 : decode cX10_walk 223 = .ok (.iconst 1, 1) := by decide +kernel
theorem dX10_walk_224 : decode cX10_walk 224 = .ok (.isub, 1) := by decide +kernel
theorem dX10_walk_225 : decode cX10_walk 225 = .ok (.invokevirtual 207, 3) := by decide +kernel
theorem dX10_walk_228 : decode cX10_walk 228 = .ok (.isub, 1) := by decide +kernel
theorem dX10_walk_229 : decode cX10_walk 229 = .ok (.istore 12, 2) := by decide +kernel
theorem dX10_walk_231 : decode cX10_walk 231 = .ok (.iload 10, 2) := by decide +kernel
theorem dX10_walk_233 : decode cX10_walk 233 = .ok (.iload 8, 2) := by decide +kernel
theorem dX10_walk_235 : decode cX10_walk 235 = .ok (.if_icmp .lt 8, 3) := by decide +kernel
theorem dX10_walk_238 : decode cX10_walk 238 = .ok (.iload 11, 2) := by decide +kernel
theorem dX10_walk_240 : decode cX10_walk 240 = .ok (.goto 5, 3) := by decide +kernel
theorem dX10_walk_243 : decode cX10_walk 243 = .ok (.iload 12, 2) := by decide +kernel
theorem dX10_walk_245 : decode cX10_walk 245 = .ok (.istore 13, 2) := by decide +kernel
theorem dX10_walk_247 : decode cX10_walk 247 = .ok (.iload 7, 2) := by decide +kernel
theorem dX10_walk_249 : decode cX10_walk 249 = .ok (.aload_n 0, 1) := by decide +kernel
theorem dX10_walk_250 : decode cX10_walk 250 = .ok (.getfield 19, 3) := by decide +kernel
theorem dX10_walk_253 : decode cX10_walk 253 = .ok (.iconst 0, 1) := by decide +kernel
theorem dX10_walk_254 : decode cX10_walk 254 = .ok (.iaload, 1) := by decide +kernel
theorem dX10_walk_255 : decode cX10_walk 255 = .ok (.ifCond .ne 8, 3) := by decide +kernel
theorem dX10_walk_258 : decode cX10_walk 258 = .ok (.iload 13, 2) := by decide +kernel
theorem dX10_walk_260 : decode cX10_walk 260 = .ok (.goto 17, 3) := by decide +kernel
theorem dX10_walk_263 : decode cX10_walk 263 = .ok (.iload 11, 2) := by decide +kernel
theorem dX10_walk_265 : decode cX10_walk 265 = .ok (.iload 12, 2) := by decide +kernel
theorem dX10_walk_267 : decode cX10_walk 267 = .ok (.if_icmp .ge 8, 3) := by decide +kernel
theorem dX10_walk_270 : decode cX10_walk 270 = .ok (.iload 11, 2) := by decide +kernel
theorem dX10_walk_272 : decode cX10_walk 272 = .ok (.goto 5, 3) := by decide +kernel
theorem dX10_walk_275 : decode cX10_walk 275 = .ok (.iload 12, 2) := by decide +kernel
theorem dX10_walk_277 : decode cX10_walk 277 = .ok (.iadd, 1) := by decide +kernel
theorem dX10_walk_278 : decode cX10_walk 278 = .ok (.istore 7, 2) := by decide +kernel
theorem dX10_walk_280 : decode cX10_walk 280 = .ok (.iload 10, 2) := by decide +kernel
theorem dX10_walk_282 : decode cX10_walk 282 = .ok (.istore 8, 2) := by decide +kernel
theorem dX10_walk_284 : decode cX10_walk 284 = .ok (.iinc 9 1, 3) := by decide +kernel
theorem dX10_walk_287 : decode cX10_walk 287 = .ok (.goto (-170), 3) := by decide +kernel
theorem dX10_walk_290 : decode cX10_walk 290 = .ok (.iload 7, 2) := by decide +kernel
theorem dX10_walk_292 : decode cX10_walk 292 = .ok (.ireturn, 1) := by decide +kernel
set_option maxHeartbeats 4000000 in
set_option maxRecDepth 100000 in
theorem cX10_walk_k_0 {l : Launch} {D : va_G} {a : Nat → Nat} {k : Nat → ClassId} {n : Nat} {p1 : Int32} {p2 : Int32} {p3 : Int32} {p4 : Int32} {x0 xz : bq_S} {rz : Int32} (h : fX10_walk n p1 p2 p3 p4 x0 = some (rz, xz)) : bq_M l D bq_cl (bq_ty k) (bq_wM a k) yX10_walk cX10_walk 14 (some .int) { frames := 2, cells := 0, slots := 0, locals := 45 } [.ref (a 0), .int p1, .int p2, .int p3, .int p4] x0 (some rz) xz := by
  refine bq_ofW RX10 [(0, .ref (a 0)), (1, .int p1), (2, .int p2), (3, .int p3), (4, .int p4)] (by decide +kernel) rfl (Nat.le_of_ble_eq_true rfl) rfl (bq_adM a k) ?_
  intro p e s m below meth c A Q ls S hK hD hA hR hS hP hl
  have hx := S.1; have hb := S.2.1; have hml := S.2.2.1; have hown := S.2.2.2.1; have hts := S.2.2.2.2
  have hret : ∀ z, some z = some (rz, xz) → (rz, xz) = z := fun z h => (Option.some.inj h).symm
  unfold fX10_walk at h
  refine lv_iload_n hx hb dX10_walk_0 rfl (lv_at hl 1 rfl) ?_
  obtain ⟨o1, ho1, h⟩ := Option.bind_eq_some_iff.mp h
  obtain ⟨v3, x2⟩ := o1
  replace h := un2_e h
  refine bq_callSi (As := [.int _]) S hK hD hA hP hS (cX10_isSheet_k ho1) hd_yX10_isSheet ml_X10_195 st_yX10_isSheet ⟨rfl, rfl⟩ ⟨by decide, by decide⟩ rfl hl.1 rfl (Nat.le_of_ble_eq_true rfl) ⟨Nat.zero_le _, Nat.zero_le _⟩ dX10_walk_1 (fun H locs hP hS => ?_)
  refine lv_if_eq (tgt := 27) hx hb dX10_walk_4 (by decide) (fun c4 => ?_) (fun c4 => ?_)
  · replace h := (if_pos c4).symm.trans h
    refine lv_iconst (v := (-1 : Int32)) hx hb dX10_walk_27 (by decide) ?_
    obtain ⟨e1, e2⟩ := Prod.mk.inj (hret _ h)
    exact hR _ _ _ _ _ (congrArg some e1) rfl (by rw [e2]; exact hP) hS dX10_walk_28
  · replace h := (if_neg c4).symm.trans h
    refine lv_iload_n hx hb dX10_walk_7 rfl (lv_at hl 2 rfl) ?_
    obtain ⟨o5, ho5, h⟩ := Option.bind_eq_some_iff.mp h
    obtain ⟨v7, x6⟩ := o5
    replace h := un2_e h
    refine bq_callSi (As := [.int _]) S hK hD hA hP hS (cX10_isLane_k ho5) hd_yX10_isLane ml_X10_198 st_yX10_isLane ⟨rfl, rfl⟩ ⟨by decide, by decide⟩ rfl hl.1 rfl (Nat.le_of_ble_eq_true rfl) ⟨Nat.zero_le _, Nat.zero_le _⟩ dX10_walk_8 (fun H locs hP hS => ?_)
    refine lv_if_eq (tgt := 27) hx hb dX10_walk_11 (by decide) (fun c8 => ?_) (fun c8 => ?_)
    · replace h := (if_pos c8).symm.trans h
      refine lv_iconst (v := (-1 : Int32)) hx hb dX10_walk_27 (by decide) ?_
      obtain ⟨e1, e2⟩ := Prod.mk.inj (hret _ h)
      exact hR _ _ _ _ _ (congrArg some e1) rfl (by rw [e2]; exact hP) hS dX10_walk_28
    · replace h := (if_neg c8).symm.trans h
      refine lv_iload hx hb dX10_walk_14 (lv_at hl 4 rfl) ?_
      refine lv_i2l hx hb dX10_walk_16 rfl ?_
      refine lv_lconst (v := (1 : Int64)) hx hb dX10_walk_17 (by decide) ?_
      refine lv_ldc2 hx hb hown (hts _ kl_X10_201) dX10_walk_18 ?_
      obtain ⟨o9, ho9, h⟩ := Option.bind_eq_some_iff.mp h
      obtain ⟨v11, x10⟩ := o9
      replace h := un2_e h
      refine bq_callSi (As := [.long _, .long _, .long _]) S hK hD hA hP hS (cX10_in_k ho9) hd_yX10_in ml_X10_66 st_yX10_in ⟨rfl, rfl⟩ ⟨by decide, by decide⟩ rfl hl.1 rfl (Nat.le_of_ble_eq_true rfl) ⟨Nat.zero_le _, Nat.zero_le _⟩ dX10_walk_21 (fun H locs hP hS => ?_)
      refine lv_if_ne (tgt := 29) hx hb dX10_walk_24 (by decide) (fun c12 => ?_) (fun c12 => ?_)
      · replace h := (if_neg c12).symm.trans h
        refine lv_aload_n hx hb dX10_walk_29 rfl (lv_at hl 0 rfl) ?_
        refine lv_iload_n hx hb dX10_walk_30 rfl (lv_at hl 1 rfl) ?_
        refine lv_iload_n hx hb dX10_walk_31 rfl (lv_at hl 2 rfl) ?_
        refine lv_iload_n hx hb dX10_walk_32 rfl (lv_at hl 3 rfl) ?_
        refine lv_iload hx hb dX10_walk_33 (lv_at hl 4 rfl) ?_
        obtain ⟨o13, ho13, h⟩ := Option.bind_eq_some_iff.mp h
        obtain ⟨v15, x14⟩ := o13
        replace h := un2_e h
        refine bq_callVi (q0 := 0) (As := [.int _, .int _, .int _, .int _]) S hK hD hA hP hS (cX10_finds_k_0 ho13) hd_yX10_finds ml_X10_203 in_yX10_finds (hts _ sl_X10_X10_yX10_finds) ⟨rfl, rfl⟩ ⟨by decide, by decide⟩ rfl rfl rfl hl.1 rfl (Nat.le_of_ble_eq_true rfl) ⟨Nat.zero_le _, Nat.zero_le _⟩ dX10_walk_35 (fun H locs hP hS => ?_)
        refine lv_istore (lv' := [(5, .int v15), (0, .ref (a 0)), (1, .int p1), (2, .int p2), (3, .int p3), (4, .int p4)]) hx hb dX10_walk_38 hl (by decide) rfl (fun ls hl => ?_)
        refine lv_iload hx hb dX10_walk_40 (lv_at hl 0 rfl) ?_
        refine lv_if_ge (tgt := 48) hx hb dX10_walk_42 (by decide) (fun c16 => ?_) (fun c16 => ?_)
        · replace h := (if_pos c16).symm.trans h
          refine lv_iconst (v := (0 : Int32)) hx hb dX10_walk_48 (by decide) ?_
          refine lv_istore (lv' := [(6, .int (0 : Int32)), (5, .int v15), (0, .ref (a 0)), (1, .int p1), (2, .int p2), (3, .int p3), (4, .int p4)]) hx hb dX10_walk_49 hl (by decide) rfl (fun ls hl => ?_)
          have hl51 : ∀ (v17 : Int32) (v18 : Int32) (v19 : Int32) (kf : Nat) (v20 : Int32) (x21 : bq_S) (eo : (Int32 × bq_S) ⊕ (Int32 × bq_S)) (H : Heap) (locs : List Loc) (ls : Array Slot), wh kf (fX10_walk_b51 n v17 v18 v19) (v20, x21) = some eo → va_P D bq_cl (bq_wM a k x21) H → va_S A s.heap H locs → lv_has ls 14 [(0, .ref (a 0)), (1, .int v17), (3, .int v18), (4, .int v19), (6, .int v20)] → (∀ (H : Heap) (locs : List Loc) (ls : Array Slot) (v30 : Int32) (x31 : bq_S), eo = .inl (v30, x31) → va_P D bq_cl (bq_wM a k x31) H → va_S A s.heap H locs → lv_has ls 14 [(0, .ref (a 0)), (1, .int v17), (3, .int v18), (4, .int v19)] → W p l e { frames := 2, cells := 0, slots := 0, locals := 45 } s m [.ref (a 0), .int p1, .int p2, .int p3, .int p4].toArray below meth c H locs 0 0 Q (F0 m 95 ls [])) → (∀ z, eo = .inr z → (rz, xz) = z) → W p l e { frames := 2, cells := 0, slots := 0, locals := 45 } s m [.ref (a 0), .int p1, .int p2, .int p3, .int p4].toArray below meth c H locs 0 0 Q (F0 m 51 ls []) := by
            intro v17 v18 v19 kf
            induction kf with
            | zero => intro v20 x21 eo H locs ls h; cases h
            | succ kf ih =>
              intro v20 x21 eo H locs ls h hP hS hl kx kr
              obtain ⟨out, h, hw⟩ := wh_s h
              have hret : ∀ z, (some (.inr (.inr z)) : Option ((Int32 × bq_S) ⊕ ((Int32 × bq_S) ⊕ (Int32 × bq_S)))) = some out → (rz, xz) = z := fun z h => kr z (by cases h; exact (Option.some.inj hw).symm)
              unfold fX10_walk_b51 at h
              replace h := un2_e h
              refine lv_iload hx hb dX10_walk_51 (lv_at hl 4 rfl) ?_
              refine lv_iload hx hb dX10_walk_53 (lv_at hl 3 rfl) ?_
              refine lv_icmp_ge (tgt := 95) hx hb dX10_walk_55 (by decide) (fun c22 => ?_) (fun c22 => ?_)
              · replace h := (if_pos c22).symm.trans h
                cases h
                exact kx _ _ _ _ _ (Option.some.inj hw).symm hP hS (lv_sub hl [0, 1, 2, 3] rfl)
              · replace h := (if_neg c22).symm.trans h
                refine lv_aload_n hx hb dX10_walk_58 rfl (lv_at hl 0 rfl) ?_
                refine bq_get (q0 := 0) S hK hP fl_X10_55_X10_24 rfl rfl rfl dX10_walk_59 ?_
                refine lv_bipush (v := (16 : Int32)) hx hb dX10_walk_62 (by decide) ?_
                refine lv_iload_n hx hb dX10_walk_64 rfl (lv_at hl 1 rfl) ?_
                refine lv_imul hx hb dX10_walk_65 ?_
                refine lv_iload_n hx hb dX10_walk_66 rfl (lv_at hl 2 rfl) ?_
                refine lv_iadd hx hb dX10_walk_67 ?_
                refine lv_iload hx hb dX10_walk_68 (lv_at hl 4 rfl) ?_
                refine lv_iadd hx hb dX10_walk_70 ?_
                obtain ⟨g23, h⟩ := bq_gd h
                refine va_lald (D := D) hx hb hK hP 16 1 rfl rfl g23 dX10_walk_71 ?_
                refine lv_lconst (v := (0 : Int64)) hx hb dX10_walk_72 (by decide) ?_
                refine lv_aload_n hx hb dX10_walk_73 rfl (lv_at hl 0 rfl) ?_
                refine bq_get (q0 := 0) S hK hP fl_X10_126_X10_6 rfl rfl rfl dX10_walk_74 ?_
                refine lv_iconst (v := (1 : Int32)) hx hb dX10_walk_77 (by decide) ?_
                refine lv_isub hx hb dX10_walk_78 ?_
                refine lv_i2l hx hb dX10_walk_79 rfl ?_
                obtain ⟨o24, ho24, h⟩ := Option.bind_eq_some_iff.mp h
                obtain ⟨v26, x25⟩ := o24
                replace h := un2_e h
                refine bq_callSi (As := [.long _, .long _, .long _]) S hK hD hA hP hS (cX10_in_k ho24) hd_yX10_in ml_X10_66 st_yX10_in ⟨rfl, rfl⟩ ⟨by decide, by decide⟩ rfl hl.1 rfl (Nat.le_of_ble_eq_true rfl) ⟨Nat.zero_le _, Nat.zero_le _⟩ dX10_walk_80 (fun H locs hP hS => ?_)
                refine lv_if_ne (tgt := 89) hx hb dX10_walk_83 (by decide) (fun c27 => ?_) (fun c27 => ?_)
                · replace h := (if_neg c27).symm.trans h
                  obtain ⟨v28, hv28, h⟩ := bq_b h
                  refine lv_iinc (v := v28) (lv' := [(6, .int v28), (0, .ref (a 0)), (1, .int v17), (3, .int v18), (4, .int v19)]) hx hb dX10_walk_89 hl (k := 4) rfl (by rw [hv28]; rfl) (by decide) rfl (fun ls hl => ?_)
                  refine lv_goto (tgt := 51) hx hb dX10_walk_92 (by decide) ?_
                  cases h
                  exact ih _ _ _ _ _ _ hw hP hS (lv_sub hl [1, 2, 3, 4, 0] rfl) kx kr
                · replace h := (if_pos c27).symm.trans h
                  refine lv_bipush (v := (-2 : Int32)) hx hb dX10_walk_86 (by decide) ?_
                  obtain ⟨e1, e2⟩ := Prod.mk.inj (hret _ h)
                  exact hR _ _ _ _ _ (congrArg some e1) rfl (by rw [e2]; exact hP) hS dX10_walk_88
          obtain ⟨e29, he29, h⟩ := Option.bind_eq_some_iff.mp h
          refine hl51 _ _ _ n _ _ e29 _ _ _ he29 hP hS (lv_sub hl [2, 3, 5, 6, 0] rfl) (fun H locs ls v30 x31 hz hP hS hl => ?_) (fun z hz => hret z (bq_ir h hz :))
          replace h := bq_il h hz
          replace h := un2_e h
          refine lv_aload_n hx hb dX10_walk_95 rfl (lv_at hl 0 rfl) ?_
          refine lv_iconst (v := (0 : Int32)) hx hb dX10_walk_96 (by decide) ?_
          refine lv_aload_n hx hb dX10_walk_97 rfl (lv_at hl 0 rfl) ?_
          refine bq_get (q0 := 0) S hK hP fl_X10_126_X10_6 rfl rfl rfl dX10_walk_98 ?_
          refine lv_iconst (v := (1 : Int32)) hx hb dX10_walk_101 (by decide) ?_
          refine lv_isub hx hb dX10_walk_102 ?_
          obtain ⟨o32, ho32, h⟩ := Option.bind_eq_some_iff.mp h
          obtain ⟨v34, x33⟩ := o32
          replace h := un2_e h
          refine bq_callVi (q0 := 0) (As := [.int _, .int _]) S hK hD hA hP hS (cX10_thickOf_k_0 ho32) hd_yX10_thickOf ml_X10_207 in_yX10_thickOf (hts _ sl_X10_X10_yX10_thickOf) ⟨rfl, rfl⟩ ⟨by decide, by decide⟩ rfl rfl rfl hl.1 rfl (Nat.le_of_ble_eq_true rfl) ⟨Nat.zero_le _, Nat.zero_le _⟩ dX10_walk_103 (fun H locs hP hS => ?_)
          refine lv_istore (lv' := [(6, .int v34), (0, .ref (a 0)), (1, .int p1), (3, .int p3), (4, .int p4)]) hx hb dX10_walk_106 hl (by decide) rfl (fun ls hl => ?_)
          refine lv_iconst (v := (0 : Int32)) hx hb dX10_walk_108 (by decide) ?_
          refine lv_istore (lv' := [(7, .int (0 : Int32)), (6, .int v34), (0, .ref (a 0)), (1, .int p1), (3, .int p3), (4, .int p4)]) hx hb dX10_walk_109 hl (by decide) rfl (fun ls hl => ?_)
          refine lv_iconst (v := (-1 : Int32)) hx hb dX10_walk_111 (by decide) ?_
          refine lv_istore (lv' := [(8, .int (-1 : Int32)), (7, .int (0 : Int32)), (6, .int v34), (0, .ref (a 0)), (1, .int p1), (3, .int p3), (4, .int p4)]) hx hb dX10_walk_112 hl (by decide) rfl (fun ls hl => ?_)
          refine lv_iconst (v := (0 : Int32)) hx hb dX10_walk_114 (by decide) ?_
          refine lv_istore (lv' := [(9, .int (0 : Int32)), (8, .int (-1 : Int32)), (7, .int (0 : Int32)), (6, .int v34), (0, .ref (a 0)), (1, .int p1), (3, .int p3), (4, .int p4)]) hx hb dX10_walk_115 hl (by decide) rfl (fun ls hl => ?_)
          have hl117 : ∀ (v35 : Int32) (v36 : Int32) (v37 : Int32) (v38 : Int32) (kf : Nat) (v39 : Int32) (v40 : Int32) (v41 : Int32) (x42 : bq_S) (eo : Int32 × Int32 × Int32 × bq_S) (H : Heap) (locs : List Loc) (ls : Array Slot), wh kf (fX10_walk_b117 n v35 v36 v37 v38) (v39, v40, v41, x42) = some eo → va_P D bq_cl (bq_wM a k x42) H → va_S A s.heap H locs → lv_has ls 14 [(0, .ref (a 0)), (1, .int v35), (3, .int v36), (4, .int v37), (6, .int v38), (7, .int v39), (8, .int v40), (9, .int v41)] → (∀ (H : Heap) (locs : List Loc) (ls : Array Slot) (v101 : Int32) (v102 : Int32) (v103 : Int32) (x104 : bq_S), eo = (v101, v102, v103, x104) → va_P D bq_cl (bq_wM a k x104) H → va_S A s.heap H locs → lv_has ls 14 [(7, .int v101)] → W p l e { frames := 2, cells := 0, slots := 0, locals := 45 } s m [.ref (a 0), .int p1, .int p2, .int p3, .int p4].toArray below meth c H locs 0 0 Q (F0 m 290 ls [])) → W p l e { frames := 2, cells := 0, slots := 0, locals := 45 } s m [.ref (a 0), .int p1, .int p2, .int p3, .int p4].toArray below meth c H locs 0 0 Q (F0 m 117 ls []) := by
            intro v35 v36 v37 v38 kf
            induction kf with
            | zero => intro v39 v40 v41 x42 eo H locs ls h; cases h
            | succ kf ih =>
              intro v39 v40 v41 x42 eo H locs ls h hP hS hl kx
              obtain ⟨out, h, hw⟩ := wh_s h
              unfold fX10_walk_b117 at h
              replace h := un4_e h
              have hj277 : ∀ (v87 : Int32) (v88 : Int32) (v89 : Int32) (v90 : Int32) (x91 : bq_S) (H : Heap) (locs : List Loc) (ls : Array Slot), fX10_walk_j277 n v35 v36 v37 v38 v87 v88 v89 v90 x91 = some out → va_P D bq_cl (bq_wM a k x91) H → va_S A s.heap H locs → lv_has ls 14 [(0, .ref (a 0)), (1, .int v35), (3, .int v36), (4, .int v37), (6, .int v38), (9, .int v87), (10, .int v88)] → W p l e { frames := 2, cells := 0, slots := 0, locals := 45 } s m [.ref (a 0), .int p1, .int p2, .int p3, .int p4].toArray below meth c H locs 0 0 Q (F0 m 277 ls [.int v90, .int v89]) := by
                intro v87 v88 v89 v90 x91 H locs ls h hP hS hl
                unfold fX10_walk_j277 at h
                refine lv_iadd hx hb dX10_walk_277 ?_
                refine lv_topi (fun v92 hv92 => ?_)
                replace h := bq_bv h hv92
                refine lv_istore (lv' := [(7, .int v92), (0, .ref (a 0)), (1, .int v35), (3, .int v36), (4, .int v37), (6, .int v38), (9, .int v87), (10, .int v88)]) hx hb dX10_walk_278 hl (by decide) rfl (fun ls hl => ?_)
                refine lv_iload hx hb dX10_walk_280 (lv_at hl 7 rfl) ?_
                refine lv_istore (lv' := [(8, .int v88), (7, .int v92), (0, .ref (a 0)), (1, .int v35), (3, .int v36), (4, .int v37), (6, .int v38), (9, .int v87), (10, .int v88)]) hx hb dX10_walk_282 hl (by decide) rfl (fun ls hl => ?_)
                obtain ⟨v93, hv93, h⟩ := bq_b h
                refine lv_iinc (v := v93) (lv' := [(9, .int v93), (8, .int v88), (7, .int v92), (0, .ref (a 0)), (1, .int v35), (3, .int v36), (4, .int v37), (6, .int v38), (10, .int v88)]) hx hb dX10_walk_284 hl (k := 7) rfl (by rw [hv93]; rfl) (by decide) rfl (fun ls hl => ?_)
                refine lv_goto (tgt := 117) hx hb dX10_walk_287 (by decide) ?_
                cases h
                exact ih _ _ _ _ _ _ _ _ hw hP hS (lv_sub hl [3, 4, 5, 6, 7, 2, 1, 0] rfl) kx
              have hj245 : ∀ (v78 : Int32) (v79 : Int32) (v80 : Int32) (v81 : Int32) (v82 : Int32) (v83 : Int32) (x84 : bq_S) (H : Heap) (locs : List Loc) (ls : Array Slot), fX10_walk_j245 n v35 v36 v37 v38 v78 v79 v80 v81 v82 v83 x84 = some out → va_P D bq_cl (bq_wM a k x84) H → va_S A s.heap H locs → lv_has ls 14 [(0, .ref (a 0)), (1, .int v35), (3, .int v36), (4, .int v37), (6, .int v38), (7, .int v78), (9, .int v79), (10, .int v80), (11, .int v81), (12, .int v82)] → W p l e { frames := 2, cells := 0, slots := 0, locals := 45 } s m [.ref (a 0), .int p1, .int p2, .int p3, .int p4].toArray below meth c H locs 0 0 Q (F0 m 245 ls [.int v83]) := by
                intro v78 v79 v80 v81 v82 v83 x84 H locs ls h hP hS hl
                unfold fX10_walk_j245 at h
                refine lv_istore (lv' := [(13, .int v83), (0, .ref (a 0)), (1, .int v35), (3, .int v36), (4, .int v37), (6, .int v38), (7, .int v78), (9, .int v79), (10, .int v80), (11, .int v81), (12, .int v82)]) hx hb dX10_walk_245 hl (by decide) rfl (fun ls hl => ?_)
                refine lv_iload hx hb dX10_walk_247 (lv_at hl 6 rfl) ?_
                refine lv_aload_n hx hb dX10_walk_249 rfl (lv_at hl 1 rfl) ?_
                refine bq_get (q0 := 0) S hK hP fl_X10_19_X10_5 rfl rfl rfl dX10_walk_250 ?_
                refine lv_iconst (v := (0 : Int32)) hx hb dX10_walk_253 (by decide) ?_
                refine va_iald (D := D) hx hb hK hP 4 0 rfl rfl (bq_inl rfl) dX10_walk_254 ?_
                refine lv_if_ne (tgt := 263) hx hb dX10_walk_255 (by decide) (fun c85 => ?_) (fun c85 => ?_)
                · replace h := (if_neg c85).symm.trans h
                  refine lv_iload hx hb dX10_walk_263 (lv_at hl 9 rfl) ?_
                  refine lv_iload hx hb dX10_walk_265 (lv_at hl 10 rfl) ?_
                  refine lv_icmp_ge (tgt := 275) hx hb dX10_walk_267 (by decide) (fun c86 => ?_) (fun c86 => ?_)
                  · replace h := (if_pos c86).symm.trans h
                    refine lv_iload hx hb dX10_walk_275 (lv_at hl 10 rfl) ?_
                    exact hj277 _ _ _ _ _ _ _ _ h hP hS (lv_sub hl [1, 2, 3, 4, 5, 7, 8] rfl)
                  · replace h := (if_neg c86).symm.trans h
                    refine lv_iload hx hb dX10_walk_270 (lv_at hl 9 rfl) ?_
                    refine lv_goto (tgt := 277) hx hb dX10_walk_272 (by decide) ?_
                    exact hj277 _ _ _ _ _ _ _ _ h hP hS (lv_sub hl [1, 2, 3, 4, 5, 7, 8] rfl)
                · replace h := (if_pos c85).symm.trans h
                  refine lv_iload hx hb dX10_walk_258 (lv_at hl 0 rfl) ?_
                  refine lv_goto (tgt := 277) hx hb dX10_walk_260 (by decide) ?_
                  exact hj277 _ _ _ _ _ _ _ _ h hP hS (lv_sub hl [1, 2, 3, 4, 5, 7, 8] rfl)
              have hj229 : ∀ (v70 : Int32) (v71 : Int32) (v72 : Int32) (v73 : Int32) (v74 : Int32) (v75 : Int32) (x76 : bq_S) (H : Heap) (locs : List Loc) (ls : Array Slot), fX10_walk_j229 n v35 v36 v37 v38 v70 v71 v72 v73 v74 v75 x76 = some out → va_P D bq_cl (bq_wM a k x76) H → va_S A s.heap H locs → lv_has ls 14 [(0, .ref (a 0)), (1, .int v35), (3, .int v36), (4, .int v37), (6, .int v38), (7, .int v70), (8, .int v71), (9, .int v72), (10, .int v73), (11, .int v74)] → W p l e { frames := 2, cells := 0, slots := 0, locals := 45 } s m [.ref (a 0), .int p1, .int p2, .int p3, .int p4].toArray below meth c H locs 0 0 Q (F0 m 229 ls [.int v75]) := by
                intro v70 v71 v72 v73 v74 v75 x76 H locs ls h hP hS hl
                unfold fX10_walk_j229 at h
                refine lv_istore (lv' := [(12, .int v75), (0, .ref (a 0)), (1, .int v35), (3, .int v36), (4, .int v37), (6, .int v38), (7, .int v70), (8, .int v71), (9, .int v72), (10, .int v73), (11, .int v74)]) hx hb dX10_walk_229 hl (by decide) rfl (fun ls hl => ?_)
                refine lv_iload hx hb dX10_walk_231 (lv_at hl 9 rfl) ?_
                refine lv_iload hx hb dX10_walk_233 (lv_at hl 7 rfl) ?_
                refine lv_icmp_lt (tgt := 243) hx hb dX10_walk_235 (by decide) (fun c77 => ?_) (fun c77 => ?_)
                · replace h := (if_pos c77).symm.trans h
                  refine lv_iload hx hb dX10_walk_243 (lv_at hl 0 rfl) ?_
                  exact hj245 _ _ _ _ _ _ _ _ _ _ h hP hS (lv_sub hl [1, 2, 3, 4, 5, 6, 8, 9, 10, 0] rfl)
                · replace h := (if_neg c77).symm.trans h
                  refine lv_iload hx hb dX10_walk_238 (lv_at hl 10 rfl) ?_
                  refine lv_goto (tgt := 245) hx hb dX10_walk_240 (by decide) ?_
                  exact hj245 _ _ _ _ _ _ _ _ _ _ h hP hS (lv_sub hl [1, 2, 3, 4, 5, 6, 8, 9, 10, 0] rfl)
              have hj221 : ∀ (v59 : Int32) (v60 : Int32) (v61 : Int32) (v62 : Int32) (v63 : Int32) (v64 : Int32) (v65 : Int32) (x66 : bq_S) (H : Heap) (locs : List Loc) (ls : Array Slot), fX10_walk_j221 n v35 v36 v37 v38 v59 v60 v61 v62 v63 v64 v65 x66 = some out → va_P D bq_cl (bq_wM a k x66) H → va_S A s.heap H locs → lv_has ls 14 [(0, .ref (a 0)), (1, .int v35), (3, .int v36), (4, .int v37), (6, .int v38), (7, .int v59), (8, .int v60), (9, .int v61), (10, .int v62), (11, .int v63)] → W p l e { frames := 2, cells := 0, slots := 0, locals := 45 } s m [.ref (a 0), .int p1, .int p2, .int p3, .int p4].toArray below meth c H locs 0 0 Q (F0 m 221 ls [.int v65, .ref (a 0), .int v64]) := by
                intro v59 v60 v61 v62 v63 v64 v65 x66 H locs ls h hP hS hl
                unfold fX10_walk_j221 at h
                refine lv_iload hx hb dX10_walk_221 (lv_at hl 8 rfl) ?_
                refine lv_iconst (v := (1 : Int32)) hx hb dX10_walk_223 (by decide) ?_
                refine lv_isub hx hb dX10_walk_224 ?_
                obtain ⟨o67, ho67, h⟩ := Option.bind_eq_some_iff.mp h
                obtain ⟨v69, x68⟩ := o67
                replace h := un2_e h
                refine bq_callVi (q0 := 0) (As := [.int _, .int _]) S hK hD hA hP hS (cX10_thickOf_k_0 ho67) hd_yX10_thickOf ml_X10_207 in_yX10_thickOf (hts _ sl_X10_X10_yX10_thickOf) ⟨rfl, rfl⟩ ⟨by decide, by decide⟩ rfl rfl rfl hl.1 rfl (Nat.le_of_ble_eq_true rfl) ⟨Nat.zero_le _, Nat.zero_le _⟩ dX10_walk_225 (fun H locs hP hS => ?_)
                refine lv_isub hx hb dX10_walk_228 ?_
                exact hj229 _ _ _ _ _ _ _ _ _ _ h hP hS (lv_sub hl [0, 1, 2, 3, 4, 5, 6, 7, 8, 9] rfl)
              have hj174 : ∀ (v50 : Int32) (v51 : Int32) (v52 : Int32) (v53 : Int32) (v54 : Int32) (x55 : bq_S) (H : Heap) (locs : List Loc) (ls : Array Slot), fX10_walk_j174 n v35 v36 v37 v38 v50 v51 v52 v53 v54 x55 = some out → va_P D bq_cl (bq_wM a k x55) H → va_S A s.heap H locs → lv_has ls 14 [(0, .ref (a 0)), (1, .int v35), (3, .int v36), (4, .int v37), (6, .int v38), (7, .int v50), (8, .int v51), (9, .int v52), (10, .int v53)] → W p l e { frames := 2, cells := 0, slots := 0, locals := 45 } s m [.ref (a 0), .int p1, .int p2, .int p3, .int p4].toArray below meth c H locs 0 0 Q (F0 m 174 ls [.int v54]) := by
                intro v50 v51 v52 v53 v54 x55 H locs ls h hP hS hl
                unfold fX10_walk_j174 at h
                refine lv_istore (lv' := [(11, .int v54), (0, .ref (a 0)), (1, .int v35), (3, .int v36), (4, .int v37), (6, .int v38), (7, .int v50), (8, .int v51), (9, .int v52), (10, .int v53)]) hx hb dX10_walk_174 hl (by decide) rfl (fun ls hl => ?_)
                refine lv_iload hx hb dX10_walk_176 (lv_at hl 9 rfl) ?_
                refine lv_iload hx hb dX10_walk_178 (lv_at hl 7 rfl) ?_
                refine lv_icmp_ne (tgt := 187) hx hb dX10_walk_180 (by decide) (fun c56 => ?_) (fun c56 => ?_)
                · replace h := (if_neg c56).symm.trans h
                  refine lv_iload hx hb dX10_walk_187 (lv_at hl 9 rfl) ?_
                  refine lv_iload hx hb dX10_walk_189 (lv_at hl 7 rfl) ?_
                  refine lv_icmp_ge (tgt := 207) hx hb dX10_walk_191 (by decide) (fun c57 => ?_) (fun c57 => ?_)
                  · replace h := (if_pos c57).symm.trans h
                    refine lv_iload hx hb dX10_walk_207 (lv_at hl 5 rfl) ?_
                    refine lv_aload_n hx hb dX10_walk_209 rfl (lv_at hl 1 rfl) ?_
                    refine lv_iload hx hb dX10_walk_210 (lv_at hl 7 rfl) ?_
                    refine lv_if_ge (tgt := 219) hx hb dX10_walk_212 (by decide) (fun c58 => ?_) (fun c58 => ?_)
                    · replace h := (if_pos c58).symm.trans h
                      refine lv_iload hx hb dX10_walk_219 (lv_at hl 7 rfl) ?_
                      exact hj221 _ _ _ _ _ _ _ _ _ _ _ h hP hS (lv_sub hl [1, 2, 3, 4, 5, 6, 7, 8, 9, 0] rfl)
                    · replace h := (if_neg c58).symm.trans h
                      refine lv_iconst (v := (0 : Int32)) hx hb dX10_walk_215 (by decide) ?_
                      refine lv_goto (tgt := 221) hx hb dX10_walk_216 (by decide) ?_
                      exact hj221 _ _ _ _ _ _ _ _ _ _ _ h hP hS (lv_sub hl [1, 2, 3, 4, 5, 6, 7, 8, 9, 0] rfl)
                  · replace h := (if_neg c57).symm.trans h
                    refine lv_aload_n hx hb dX10_walk_194 rfl (lv_at hl 1 rfl) ?_
                    refine lv_iload hx hb dX10_walk_195 (lv_at hl 9 rfl) ?_
                    refine lv_iload hx hb dX10_walk_197 (lv_at hl 7 rfl) ?_
                    refine lv_iconst (v := (1 : Int32)) hx hb dX10_walk_199 (by decide) ?_
                    refine lv_isub hx hb dX10_walk_200 ?_
                    obtain ⟨o94, ho94, h⟩ := Option.bind_eq_some_iff.mp h
                    obtain ⟨v96, x95⟩ := o94
                    replace h := un2_e h
                    refine bq_callVi (q0 := 0) (As := [.int _, .int _]) S hK hD hA hP hS (cX10_thickOf_k_0 ho94) hd_yX10_thickOf ml_X10_207 in_yX10_thickOf (hts _ sl_X10_X10_yX10_thickOf) ⟨rfl, rfl⟩ ⟨by decide, by decide⟩ rfl rfl rfl hl.1 rfl (Nat.le_of_ble_eq_true rfl) ⟨Nat.zero_le _, Nat.zero_le _⟩ dX10_walk_201 (fun H locs hP hS => ?_)
                    refine lv_goto (tgt := 229) hx hb dX10_walk_204 (by decide) ?_
                    exact hj229 _ _ _ _ _ _ _ _ _ _ h hP hS (lv_sub hl [1, 2, 3, 4, 5, 6, 7, 8, 9, 0] rfl)
                · replace h := (if_pos c56).symm.trans h
                  refine lv_iconst (v := (0 : Int32)) hx hb dX10_walk_183 (by decide) ?_
                  refine lv_goto (tgt := 229) hx hb dX10_walk_184 (by decide) ?_
                  exact hj229 _ _ _ _ _ _ _ _ _ _ h hP hS (lv_sub hl [1, 2, 3, 4, 5, 6, 7, 8, 9, 0] rfl)
              refine lv_iload hx hb dX10_walk_117 (lv_at hl 7 rfl) ?_
              refine lv_iload hx hb dX10_walk_119 (lv_at hl 3 rfl) ?_
              refine lv_icmp_ge (tgt := 290) hx hb dX10_walk_121 (by decide) (fun c43 => ?_) (fun c43 => ?_)
              · replace h := (if_pos c43).symm.trans h
                cases h
                exact kx _ _ _ _ _ _ _ (Option.some.inj hw).symm hP hS (lv_sub hl [5] rfl)
              · replace h := (if_neg c43).symm.trans h
                refine lv_aload_n hx hb dX10_walk_124 rfl (lv_at hl 0 rfl) ?_
                refine bq_get (q0 := 0) S hK hP fl_X10_55_X10_24 rfl rfl rfl dX10_walk_125 ?_
                refine lv_bipush (v := (16 : Int32)) hx hb dX10_walk_128 (by decide) ?_
                refine lv_iload_n hx hb dX10_walk_130 rfl (lv_at hl 1 rfl) ?_
                refine lv_imul hx hb dX10_walk_131 ?_
                refine lv_iload_n hx hb dX10_walk_132 rfl (lv_at hl 2 rfl) ?_
                refine lv_iadd hx hb dX10_walk_133 ?_
                refine lv_iload hx hb dX10_walk_134 (lv_at hl 7 rfl) ?_
                refine lv_iadd hx hb dX10_walk_136 ?_
                obtain ⟨g44, h⟩ := bq_gd h
                refine va_lald (D := D) hx hb hK hP 16 1 rfl rfl g44 dX10_walk_137 ?_
                refine lv_l2i hx hb dX10_walk_138 rfl ?_
                refine lv_topi (fun v45 hv45 => ?_)
                replace h := bq_bv h hv45
                refine lv_istore (lv' := [(10, .int v45), (0, .ref (a 0)), (1, .int v35), (3, .int v36), (4, .int v37), (6, .int v38), (7, .int v39), (8, .int v40), (9, .int v41)]) hx hb dX10_walk_139 hl (by decide) rfl (fun ls hl => ?_)
                refine lv_iload hx hb dX10_walk_141 (lv_at hl 0 rfl) ?_
                refine lv_iload hx hb dX10_walk_143 (lv_at hl 7 rfl) ?_
                refine lv_icmp_lt (tgt := 161) hx hb dX10_walk_145 (by decide) (fun c46 => ?_) (fun c46 => ?_)
                · replace h := (if_pos c46).symm.trans h
                  refine lv_iload hx hb dX10_walk_161 (lv_at hl 5 rfl) ?_
                  refine lv_aload_n hx hb dX10_walk_163 rfl (lv_at hl 1 rfl) ?_
                  refine lv_iload hx hb dX10_walk_164 (lv_at hl 0 rfl) ?_
                  refine lv_iconst (v := (1 : Int32)) hx hb dX10_walk_166 (by decide) ?_
                  refine lv_iadd hx hb dX10_walk_167 ?_
                  refine lv_iload hx hb dX10_walk_168 (lv_at hl 7 rfl) ?_
                  obtain ⟨o47, ho47, h⟩ := Option.bind_eq_some_iff.mp h
                  obtain ⟨v49, x48⟩ := o47
                  replace h := un2_e h
                  refine bq_callVi (q0 := 0) (As := [.int _, .int _]) S hK hD hA hP hS (cX10_thickOf_k_0 ho47) hd_yX10_thickOf ml_X10_207 in_yX10_thickOf (hts _ sl_X10_X10_yX10_thickOf) ⟨rfl, rfl⟩ ⟨by decide, by decide⟩ rfl rfl rfl hl.1 rfl (Nat.le_of_ble_eq_true rfl) ⟨Nat.zero_le _, Nat.zero_le _⟩ dX10_walk_170 (fun H locs hP hS => ?_)
                  refine lv_isub hx hb dX10_walk_173 ?_
                  exact hj174 _ _ _ _ _ _ _ _ _ h hP hS (lv_sub hl [1, 2, 3, 4, 5, 6, 7, 8, 0] rfl)
                · replace h := (if_neg c46).symm.trans h
                  refine lv_aload_n hx hb dX10_walk_148 rfl (lv_at hl 1 rfl) ?_
                  refine lv_iload hx hb dX10_walk_149 (lv_at hl 7 rfl) ?_
                  refine lv_iconst (v := (1 : Int32)) hx hb dX10_walk_151 (by decide) ?_
                  refine lv_iadd hx hb dX10_walk_152 ?_
                  refine lv_iload hx hb dX10_walk_153 (lv_at hl 0 rfl) ?_
                  obtain ⟨o97, ho97, h⟩ := Option.bind_eq_some_iff.mp h
                  obtain ⟨v99, x98⟩ := o97
                  replace h := un2_e h
                  refine bq_callVi (q0 := 0) (As := [.int _, .int _]) S hK hD hA hP hS (cX10_thickOf_k_0 ho97) hd_yX10_thickOf ml_X10_207 in_yX10_thickOf (hts _ sl_X10_X10_yX10_thickOf) ⟨rfl, rfl⟩ ⟨by decide, by decide⟩ rfl rfl rfl hl.1 rfl (Nat.le_of_ble_eq_true rfl) ⟨Nat.zero_le _, Nat.zero_le _⟩ dX10_walk_155 (fun H locs hP hS => ?_)
                  refine lv_goto (tgt := 174) hx hb dX10_walk_158 (by decide) ?_
                  exact hj174 _ _ _ _ _ _ _ _ _ h hP hS (lv_sub hl [1, 2, 3, 4, 5, 6, 7, 8, 0] rfl)
          obtain ⟨e100, he100, h⟩ := Option.bind_eq_some_iff.mp h
          refine hl117 _ _ _ _ n _ _ _ _ e100 _ _ _ he100 hP hS (lv_sub hl [4, 5, 6, 7, 3, 2, 1, 0] rfl) (fun H locs ls v101 v102 v103 x104 hz hP hS hl => ?_)
          subst hz
          replace h := un4_e h
          refine lv_iload hx hb dX10_walk_290 (lv_at hl 0 rfl) ?_
          obtain ⟨e1, e2⟩ := Prod.mk.inj (hret _ h)
          exact hR _ _ _ _ _ (congrArg some e1) rfl (by rw [e2]; exact hP) hS dX10_walk_292
        · replace h := (if_neg c16).symm.trans h
          refine lv_iload hx hb dX10_walk_45 (lv_at hl 0 rfl) ?_
          obtain ⟨e1, e2⟩ := Prod.mk.inj (hret _ h)
          exact hR _ _ _ _ _ (congrArg some e1) rfl (by rw [e2]; exact hP) hS dX10_walk_47
      · replace h := (if_pos c12).symm.trans h
        refine lv_iconst (v := (-1 : Int32)) hx hb dX10_walk_27 (by decide) ?_
        obtain ⟨e1, e2⟩ := Prod.mk.inj (hret _ h)
        exact hR _ _ _ _ _ (congrArg some e1) rfl (by rw [e2]; exact hP) hS dX10_walk_28
def fX10_joined_b57 (n : Nat) (v20 : Int32) (v21 : Int32) (v22 : Int32) (v : Int32 × Int32 × bq_S) : Option ((Int32 × Int32 × bq_S) ⊕ ((Int32 × Int32 × bq_S) ⊕ (Int32 × bq_S))) :=
  un3 v (fun v23 v24 x25 =>
  if v22 ≤ v24 then
  some (.inr (.inl (v23, v24, x25)))
  else
  if ok_i ((((16 : Int32) * v20) + v21) + v24) 64 then
  bd (x25.2 16 ((((16 : Int32) * v20) + v21) + v24).toNatClampNeg) (fun v28 =>
  (fX10_in v28 (0 : Int64) ((x25.1 0 0) - (1 : Int32)).toInt64 x25).bind (fun o29 => un2 o29 (fun v31 x30 =>
  if v31 = 0 then
  some (.inr (.inr ((-2 : Int32), x30)))
  else
  if ((v23 >>> (v28.toInt32 &&& 31)) &&& (1 : Int32)) = (1 : Int32) then
  some (.inr (.inr ((-2 : Int32), x30)))
  else
  bd (v23 ||| ((1 : Int32) <<< (v28.toInt32 &&& 31))) (fun v34 =>
  bd (v24 + (1 : Int32)) (fun v35 =>
  some (.inl (v34, v35, x30)))))))
  else none)
def fX10_joined_b150 (n : Nat) (v47 : Int32) (v48 : Int32) (v49 : Int32) (v50 : Int32) (v : Int32 × bq_S) : Option ((Int32 × bq_S) ⊕ (Int32 × bq_S)) :=
  un2 v (fun v51 x52 =>
  if (x52.1 0 6) ≤ v51 then
  some (.inr (v51, x52))
  else
  if v50 ≤ (1 : Int32) then
  if ok_i v51 8 then
  if ok_i v51 8 then
  bd (bq_sI x52 10 v51.toNatClampNeg (x52.1 5 v51.toNatClampNeg)) (fun x56 =>
  bd (v51 + (1 : Int32)) (fun v58 =>
  some (.inl (v58, x56))))
  else none
  else none
  else
  if ok_i (((x52.1 0 6) - (1 : Int32)) - v51) 8 then
  if ok_i v51 8 then
  bd (bq_sI x52 10 v51.toNatClampNeg (x52.1 5 (((x52.1 0 6) - (1 : Int32)) - v51).toNatClampNeg)) (fun x60 =>
  bd (v51 + (1 : Int32)) (fun v62 =>
  some (.inl (v62, x60))))
  else none
  else none)
def fX10_joined_j248 (n : Nat) (v66 : Int32) (v67 : Int32) (v68 : Int32) (v69 : Int32) (v74 : Int32) (v75 : Int32) (v76 : Int32) (v77 : Int32) (x78 : bq_S) : Option ((Int32 × bq_S) ⊕ (Int32 × bq_S)) :=
  if ok_i (v76 + v77) 64 then
  if ok_i v75 8 then
  bd (bq_sI x78 10 v75.toNatClampNeg (x78.2 16 (v76 + v77).toNatClampNeg).toInt32) (fun x80 =>
  bd (v74 + (1 : Int32)) (fun v82 =>
  some (.inl (v82, x80))))
  else none
  else none
def fX10_joined_b200 (n : Nat) (v66 : Int32) (v67 : Int32) (v68 : Int32) (v69 : Int32) (v : Int32 × bq_S) : Option ((Int32 × bq_S) ⊕ (Int32 × bq_S)) :=
  un2 v (fun v70 x71 =>
  if v68 ≤ v70 then
  some (.inr (v70, x71))
  else
  if (v69 - v69 / (2 : Int32) * (2 : Int32)) = (1 : Int32) then
  fX10_joined_j248 n v66 v67 v68 v69 v70 ((x71.1 0 6) + v70) (((16 : Int32) * v66) + v67) ((v68 - (1 : Int32)) - v70) x71
  else
  fX10_joined_j248 n v66 v67 v68 v69 v70 ((x71.1 0 6) + v70) (((16 : Int32) * v66) + v67) v70 x71)
def fX10_joined_b130 (n : Nat) (v40 : Int32) (v41 : Int32) (v42 : Int32) (v : Int32 × bq_S) : Option ((Int32 × bq_S) ⊕ ((Int32 × bq_S) ⊕ (Int32 × bq_S))) :=
  un2 v (fun v43 x44 =>
  if (4 : Int32) ≤ v43 then
  some (.inr (.inl (v43, x44)))
  else
  bd (bq_sI x44 0 17 ((x44.1 0 6) + v42)) (fun x46 =>
  (wh n (fX10_joined_b150 n v40 v41 v42 v43) ((0 : Int32), x46)).bind (fun e63 => un2 e63 (fun v64 x65 =>
  (wh n (fX10_joined_b200 n v40 v41 v42 v43) ((0 : Int32), x65)).bind (fun e83 => un2 e83 (fun v84 x85 =>
  (fX10_wrongAt n  x85).bind (fun o86 => un2 o86 (fun v88 x87 =>
  if 0 ≤ v88 then
  bd (v43 + (1 : Int32)) (fun v90 =>
  some (.inl (v90, x87)))
  else
  some (.inr (.inr (v43, x87)))))))))))
def fX10_joined (n : Nat) (p1 : Int32) (p2 : Int32) (p3 : Int32) (p4 : Int32) (x0 : bq_S) : Option (Int32 × bq_S) :=
  (fX10_isSheet p1 x0).bind (fun o1 => un2 o1 (fun v3 x2 =>
  if v3 = 0 then
  some ((-1 : Int32), x2)
  else
  (fX10_isLane p2 x2).bind (fun o5 => un2 o5 (fun v7 x6 =>
  if v7 = 0 then
  some ((-1 : Int32), x6)
  else
  (fX10_in p4.toInt64 (1 : Int64) (8 : Int64) x6).bind (fun o9 => un2 o9 (fun v11 x10 =>
  if v11 = 0 then
  some ((-1 : Int32), x10)
  else
  (fX10_finds p1 p2 p3 p4 x10).bind (fun o13 => un2 o13 (fun v15 x14 =>
  if 0 ≤ v15 then
  (fX10_standingSet n  x14).bind (fun o17 => un2 o17 (fun v19 x18 =>
  (wh n (fX10_joined_b57 n p1 p3 p4) (v19, (0 : Int32), x18)).bind (fun e36 =>
  Sum.elim (fun z => un3 z (fun v37 v38 x39 =>
  (wh n (fX10_joined_b130 n p1 p3 p4) ((0 : Int32), x39)).bind (fun e91 =>
  Sum.elim (fun z => un2 z (fun v92 x93 =>
  some ((-4 : Int32), x93))) (fun z => some z) e91))) (fun z => some z) e36)))
  else
  some (v15, x14)))))))))
theorem dX10_joined_0 : decode cX10_joined 0 = .ok (.iload_n 1, 1) := by decide +kernel
theorem dX10_joined_1 : decode cX10_joined 1 = .ok (.invokestatic 195, 3) := by decide +kernel
theorem dX10_joined_4 : decode cX10_joined 4 = .ok (.ifCond .eq 23, 3) := by decide +kernel
theorem dX10_joined_7 : decode cX10_joined 7 = .ok (.iload_n 2, 1) := by decide +kernel
theorem dX10_joined_8 : decode cX10_joined 8 = .ok (.invokestatic 198, 3) := by decide +kernel
theorem dX10_joined_11 : decode cX10_joined 11 = .ok (.ifCond .eq 16, 3) := by decide +kernel
theorem dX10_joined_14 : decode cX10_joined 14 = .ok (.iload 4, 2) := by decide +kernel
theorem dX10_joined_16 : decode cX10_joined 16 = .ok (.i2l, 1) := by decide +kernel
theorem dX10_joined_17 : decode cX10_joined 17 = .ok (.lconst 1, 1) := by decide +kernel
theorem dX10_joined_18 : decode cX10_joined 18 = .ok (.ldc2_w 86, 3) := by decide +kernel
theorem dX10_joined_21 : decode cX10_joined 21 = .ok (.invokestatic 66, 3) := by decide +kernel
theorem dX10_joined_24 : decode cX10_joined 24 = .ok (.ifCond .ne 5, 3) := by decide +kernel
theorem dX10_joined_27 : decode cX10_joined 27 = .ok (.iconst (-1), 1) := by decide +kernel
theorem dX10_joined_28 : decode cX10_joined 28 = .ok (.ireturn, 1) := by decide +kernel
theorem dX10_joined_29 : decode cX10_joined 29 = .ok (.aload_n 0, 1) := by decide +kernel
theorem dX10_joined_30 : decode cX10_joined 30 = .ok (.iload_n 1, 1) := by decide +kernel
theorem dX10_joined_31 : decode cX10_joined 31 = .ok (.iload_n 2, 1) := by decide +kernel
theorem dX10_joined_32 : decode cX10_joined 32 = .ok (.iload_n 3, 1) := by decide +kernel
theorem dX10_joined_33 : decode cX10_joined 33 = .ok (.iload 4, 2) := by decide +kernel
theorem dX10_joined_35 : decode cX10_joined 35 = .ok (.invokevirtual 203, 3) := by decide +kernel
theorem dX10_joined_38 : decode cX10_joined 38 = .ok (.istore 5, 2) := by decide +kernel
theorem dX10_joined_40 : decode cX10_joined 40 = .ok (.iload 5, 2) := by decide +kernel
theorem dX10_joined_42 : decode cX10_joined 42 = .ok (.ifCond .ge 6, 3) := by decide +kernel
theorem dX10_joined_45 : decode cX10_joined 45 = .ok (.iload 5, 2) := by decide +kernel
theorem dX10_joined_47 : decode cX10_joined 47 = .ok (.ireturn, 1) := by decide +kernel
theorem dX10_joined_48 : decode cX10_joined 48 = .ok (.aload_n 0, 1) := by decide +kernel
theorem dX10_joined_49 : decode cX10_joined 49 = .ok (.invokevirtual 158, 3) := by decide +kernel
theorem dX10_joined_52 : decode cX10_joined 52 = .ok (.istore 6, 2) := by decide +kernel
theorem dX10_joined_54 : decode cX10_joined 54 = .ok (.iconst 0, 1) := by decide +kernel
theorem dX10_joined_55 : decode cX10_joined 55 = .ok (.istore 7, 2) := by decide +kernel
theorem dX10_joined_57 : decode cX10_joined 57 = .ok (.iload 7, 2) := by decide +kernel
theorem dX10_joined_59 : decode cX10_joined 59 = .ok (.iload 4, 2) := by decide +kernel
theorem dX10_joined_61 : decode cX10_joined 61 = .ok (.if_icmp .ge 66, 3) := by decide +kernel
theorem dX10_joined_64 : decode cX10_joined 64 = .ok (.aload_n 0, 1) := by decide +kernel
theorem dX10_joined_65 : decode cX10_joined 65 = .ok (.getfield 55, 3) := by decide +kernel
theorem dX10_joined_68 : decode cX10_joined 68 = .ok (.bipush 16, 2) := by decide +kernel
theorem dX10_joined_70 : decode cX10_joined 70 = .ok (.iload_n 1, 1) := by decide +kernel
theorem dX10_joined_71 : decode cX10_joined 71 = .ok (.imul, 1) := by decide +kernel
theorem dX10_joined_72 : decode cX10_joined 72 = .ok (.iload_n 3, 1) := by decide +kernel
theorem dX10_joined_73 : decode cX10_joined 73 = .ok (.iadd, 1) := by decide +kernel
theorem dX10_joined_74 : decode cX10_joined 74 = .ok (.iload 7, 2) := by decide +kernel
theorem dX10_joined_76 : decode cX10_joined 76 = .ok (.iadd, 1) := by decide +kernel
theorem dX10_joined_77 : decode cX10_joined 77 = .ok (.laload, 1) := by decide +kernel
theorem dX10_joined_78 : decode cX10_joined 78 = .ok (.lstore 8, 2) := by decide +kernel
theorem dX10_joined_80 : decode cX10_joined 80 = .ok (.lload 8, 2) := by decide +kernel
theorem dX10_joined_82 : decode cX10_joined 82 = .ok (.lconst 0, 1) := by decide +kernel
theorem dX10_joined_83 : decode cX10_joined 83 = .ok (.aload_n 0, 1) := by decide +kernel
theorem dX10_joined_84 : decode cX10_joined 84 = .ok (.getfield 62, 3) := by decide +kernel
theorem dX10_joined_87 : decode cX10_joined 87 = .ok (.iconst 1, 1) := by decide +kernel
theorem dX10_joined_88 : decode cX10_joined 88 = .ok (.isub, 1) := by decide +kernel
theorem dX10_joined_89 : decode cX10_joined 89 = .ok (.i2l, 1) := by decide +kernel
theorem dX10_joined_90 : decode cX10_joined 90 = .ok (.invokestatic 66, 3) := by decide +kernel
theorem dX10_joined_93 : decode cX10_joined 93 = .ok (.ifCond .eq 15, 3) := by decide +kernel
theorem dX10_joined_96 : decode cX10_joined 96 = .ok (.iload 6, 2) := by decide +kernel
theorem dX10_joined_98 : decode cX10_joined 98 = .ok (.lload 8, 2) := by decide +kernel
theorem dX10_joined_100 : decode cX10_joined 100 = .ok (.l2i, 1) := by decide +kernel
theorem dX10_joined_101 : decode cX10_joined 101 = .ok (.ishr, 1) := by decide +kernel
theorem dX10_joined_102 : decode cX10_joined 102 = .ok (.iconst 1, 1) := by decide +kernel
theorem dX10_joined_103 : decode cX10_joined 103 = .ok (.iand, 1) := by decide +kernel
theorem dX10_joined_104 : decode cX10_joined 104 = .ok (.iconst 1, 1) := by decide +kernel
theorem dX10_joined_105 : decode cX10_joined 105 = .ok (.if_icmp .ne 6, 3) := by decide +kernel
theorem dX10_joined_108 : decode cX10_joined 108 = .ok (.bipush (-2), 2) := by decide +kernel
theorem dX10_joined_110 : decode cX10_joined 110 = .ok (.ireturn, 1) := by decide +kernel
theorem dX10_joined_111 : decode cX10_joined 111 = .ok (.iload 6, 2) := by decide +kernel
theorem dX10_joined_113 : decode cX10_joined 113 = .ok (.iconst 1, 1) := by decide +kernel
theorem dX10_joined_114 : decode cX10_joined 114 = .ok (.lload 8, 2) := by decide +kernel
theorem dX10_joined_116 : decode cX10_joined 116 = .ok (.l2i, 1) := by decide +kernel
theorem dX10_joined_117 : decode cX10_joined 117 = .ok (.ishl, 1) := by decide +kernel
theorem dX10_joined_118 : decode cX10_joined 118 = .ok (.ior, 1) := by decide +kernel
theorem dX10_joined_119 : decode cX10_joined 119 = .ok (.istore 6, 2) := by decide +kernel
theorem dX10_joined_121 : decode cX10_joined 121 = .ok (.iinc 7 1, 3) := by decide +kernel
theorem dX10_joined_124 : decode cX10_joined 124 = .ok (.goto (-67), 3) := by decide +kernel
theorem dX10_joined_127 : decode cX10_joined 127 = .ok (.iconst 0, 1) := by decide +kernel
theorem dX10_joined_128 : decode cX10_joined 128 = .ok (.istore 7, 2) := by decide +kernel
theorem dX10_joined_130 : decode cX10_joined 130 = .ok (.iload 7, 2) := by decide +kernel
theorem dX10_joined_132 : decode cX10_joined 132 = .ok (.iconst 4, 1) := by decide +kernel
theorem dX10_joined_133 : decode cX10_joined 133 = .ok (.if_icmp .ge 141, 3) := by decide +kernel
theorem dX10_joined_136 : decode cX10_joined 136 = .ok (.aload_n 0, 1) := by decide +kernel
theorem dX10_joined_137 : decode cX10_joined 137 = .ok (.aload_n 0, 1) := by decide +kernel
theorem dX10_joined_138 : decode cX10_joined 138 = .ok (.getfield 126, 3) := by decide +kernel
theorem dX10_joined_141 : decode cX10_joined 141 = .ok (.iload 4, 2) := by decide +kernel
theorem dX10_joined_143 : decode cX10_joined 143 = .ok (.iadd, 1) := by decide +kernel
theorem dX10_joined_144 : decode cX10_joined 144 = .ok (.putfield 133, 3) := by decide +kernel
theorem dX10_joined_147 : decode cX10_joined 147 = .ok (.iconst 0, 1) := by decide +kernel
theorem dX10_joined_148 : decode cX10_joined 148 = .ok (.istore 8, 2) := by decide +kernel
theorem dX10_joined_150 : decode cX10_joined 150 = .ok (.iload 8, 2) := by decide +kernel
theorem dX10_joined_152 : decode cX10_joined 152 = .ok (.aload_n 0, 1) := by decide +kernel
theorem dX10_joined_153 : decode cX10_joined 153 = .ok (.getfield 126, 3) := by decide +kernel
theorem dX10_joined_156 : decode cX10_joined 156 = .ok (.if_icmp .ge 41, 3) := by decide +kernel
theorem dX10_joined_159 : decode cX10_joined 159 = .ok (.aload_n 0, 1) := by decide +kernel
theorem dX10_joined_160 : decode cX10_joined 160 = .ok (.getfield 37, 3) := by decide +kernel
theorem dX10_joined_163 : decode cX10_joined 163 = .ok (.iload 8, 2) := by decide +kernel
theorem dX10_joined_165 : decode cX10_joined 165 = .ok (.aload_n 0, 1) := by decide +kernel
theorem dX10_joined_166 : decode cX10_joined 166 = .ok (.getfield 22, 3) := by decide +kernel
theorem dX10_joined_169 : decode cX10_joined 169 = .ok (.iload 7, 2) := by decide +kernel
theorem dX10_joined_171 : decode cX10_joined 171 = .ok (.iconst 1, 1) := by decide +kernel
theorem dX10_joined_172 : decode cX10_joined 172 = .ok (.if_icmp .le 15, 3) := by decide +kernel
theorem dX10_joined_175 : decode cX10_joined 175 = .ok (.aload_n 0, 1) := by decide +kernel
theorem dX10_joined_176 : decode cX10_joined 176 = .ok (.getfield 126, 3) := by decide +kernel
theorem dX10_joined_179 : decode cX10_joined 179 = .ok (.iconst 1, 1) := by decide +kernel
theorem dX10_joined_180 : decode cX10_joined 180 = .ok (.isub, 1) := by decide +kernel
theorem dX10_joined_181 : decode cX10_joined 181 = .ok (.iload 8, 2) := by decide +kernel
theorem dX10_joined_183 : decode cX10_joined 183 = .ok (.isub, 1) := by decide +kernel
theorem dX10_joined_184 : decode cX10_joined 184 = .ok (.goto 5, 3) := by decide +kernel
theorem dX10_joined_187 : decode cX10_joined 187 = .ok (.iload 8, 2) := by decide +kernel
theorem dX10_joined_189 : decode cX10_joined 189 = .ok (.iaload, 1) := by decide +kernel
theorem dX10_joined_190 : decode cX10_joined 190 = .ok (.iastore, 1) := by decide +kernel
theorem dX10_joined_191 : decode cX10_joined 191 = .ok (.iinc 8 1, 3) := by decide +kernel
theorem dX10_joined_194 : decode cX10_joined 194 = .ok (.goto (-44), 3) := by decide +kernel
theorem dX10_joined_197 : decode cX10_joined 197 = .ok (.iconst 0, 1) := by decide +kernel
theorem dX10_joined_198 : decode cX10_joined 198 = .ok (.istore 8, 2) := by decide +kernel
theorem dX10_joined_200 : decode cX10_joined 200 = .ok (.iload 8, 2) := by decide +kernel
theorem dX10_joined_202 : decode cX10_joined 202 = .ok (.iload 4, 2) := by decide +kernel
theorem dX10_joined_204 : decode cX10_joined 204 = .ok (.if_icmp .ge 54, 3) := by decide +kernel
theorem dX10_joined_207 : decode cX10_joined 207 = .ok (.aload_n 0, 1) := by decide +kernel
theorem dX10_joined_208 : decode cX10_joined 208 = .ok (.getfield 37, 3) := by decide +kernel
theorem dX10_joined_211 : decode cX10_joined 211 = .ok (.aload_n 0, 1) := by decide +kernel
theorem dX10_joined_212 : decode cX10_joined 212 = .ok (.getfield 126, 3) := by decide +kernel
theorem dX10_joined_215 : decode cX10_joined 215 = .ok (.iload 8, 2) := by decide +kernel
theorem dX10_joined_217 : decode cX10_joined 217 = .ok (.iadd, 1) := by decide +kernel
theorem dX10_joined_218 : decode cX10_joined 218 = .ok (.aload_n 0, 1) := by decide +kernel
theorem dX10_joined_219 : decode cX10_joined 219 = .ok (.getfield 55, 3) := by decide +kernel
theorem dX10_joined_222 : decode cX10_joined 222 = .ok (.bipush 16, 2) := by decide +kernel
theorem dX10_joined_224 : decode cX10_joined 224 = .ok (.iload_n 1, 1) := by decide +kernel
theorem dX10_joined_225 : decode cX10_joined 225 = .ok (.imul, 1) := by decide +kernel
theorem dX10_joined_226 : decode cX10_joined 226 = .ok (.iload_n 3, 1) := by decide +kernel
theorem dX10_joined_227 : decode cX10_joined 227 = .ok (.iadd, 1) := by decide +kernel
theorem dX10_joined_228 : decode cX10_joined 228 = .ok (.iload 7, 2) := by decide +kernel
theorem dX10_joined_230 : decode cX10_joined 230 = .ok (.iconst 2, 1) := by decide +kernel
theorem dX10_joined_231 : decode cX10_joined 231 = .ok (.irem, 1) := by decide +kernel
theorem dX10_joined_232 : decode cX10_joined 232 = .ok (.iconst 1, 1) := by decide +kernel
theorem dX10_joined_233 : decode cX10_joined 233 = .ok (.if_icmp .ne 13, 3) := by decide +kernel
theorem dX10_joined_236 : decode cX10_joined 236 = .ok (.iload 4, 2) := by decide +kernel
theorem dX10_joined_238 : decode cX10_joined 238 = .ok (.iconst 1, 1) := by decide +kernel
theorem dX10_joined_239 : decode cX10_joined 239 = .ok (.isub, 1) := by decide +kernel
theorem dX10_joined_240 : decode cX10_joined 240 = .ok (.iload 8, 2) := by decide +kernel
theorem dX10_joined_242 : decode cX10_joined 242 = .ok (.isub, 1) := by decide +kernel
theorem dX10_joined_243 : decode cX10_joined 243 = .ok (.goto 5, 3) := by decide +kernel
theorem dX10_joined_246 : decode cX10_joined 246 = .ok (.iload 8, 2) := by decide +kernel
theorem dX10_joined_248 : decode cX10_joined 248 = .ok (.iadd, 1) := by decide +kernel
theorem dX10_joined_249 : decode cX10_joined 249 = .ok (.laload, 1) := by decide +kernel
theorem dX10_joined_250 : decode cX10_joined 250 = .ok (.l2i, 1) := by decide +kernel
theorem dX10_joined_251 : decode cX10_joined 251 = .ok (.iastore, 1) := by decide +kernel
theorem dX10_joined_252 : decode cX10_joined 252 = .ok (.iinc 8 1, 3) := by decide +kernel
theorem dX10_joined_255 : decode cX10_joined 255 = .ok (.goto (-55), 3) := by decide +kernel
theorem dX10_joined_258 : decode cX10_joined 258 = .ok (.aload_n 0, 1) := by decide +kernel
theorem dX10_joined_259 : decode cX10_joined 259 = .ok (.invokevirtual 139, 3) := by decide +kernel
theorem dX10_joined_262 : decode cX10_joined 262 = .ok (.ifCond .ge 6, 3) := by decide +kernel
theorem dX10_joined_265 : decode cX10_joined 265 = .ok (.iload 7, 2) := by decide +kernel
theorem dX10_joined_267 : decode cX10_joined 267 = .ok (.ireturn, 1) := by decide +kernel
theorem dX10_joined_268 : decode cX10_joined 268 = .ok (.iinc 7 1, 3) := by decide +kernel
theorem dX10_joined_271 : decode cX10_joined 271 = .ok (.goto (-141), 3) := by decide +kernel
theorem dX10_joined_274 : decode cX10_joined 274 = .ok (.bipush (-4), 2) := by decide +kernel
theorem dX10_joined_276 : decode cX10_joined 276 = .ok (.ireturn, 1) := by decide +kernel
set_option maxHeartbeats 4000000 in
set_option maxRecDepth 100000 in
theorem cX10_joined_k_0 {l : Launch} {D : va_G} {a : Nat → Nat} {k : Nat → ClassId} {n : Nat} {p1 : Int32} {p2 : Int32} {p3 : Int32} {p4 : Int32} {x0 xz : bq_S} {rz : Int32} (h : fX10_joined n p1 p2 p3 p4 x0 = some (rz, xz)) : bq_M l D bq_cl (bq_ty k) (bq_wM a k) yX10_joined cX10_joined 10 (some .int) { frames := 2, cells := 0, slots := 0, locals := 46 } [.ref (a 0), .int p1, .int p2, .int p3, .int p4] x0 (some rz) xz := by
  refine bq_ofW RX10 [(0, .ref (a 0)), (1, .int p1), (2, .int p2), (3, .int p3), (4, .int p4)] (by decide +kernel) rfl (Nat.le_of_ble_eq_true rfl) rfl (bq_adM a k) ?_
  intro p e s m below meth c A Q ls S hK hD hA hR hS hP hl
  have hx := S.1; have hb := S.2.1; have hml := S.2.2.1; have hown := S.2.2.2.1; have hts := S.2.2.2.2
  have hret : ∀ z, some z = some (rz, xz) → (rz, xz) = z := fun z h => (Option.some.inj h).symm
  unfold fX10_joined at h
  refine lv_iload_n hx hb dX10_joined_0 rfl (lv_at hl 1 rfl) ?_
  obtain ⟨o1, ho1, h⟩ := Option.bind_eq_some_iff.mp h
  obtain ⟨v3, x2⟩ := o1
  replace h := un2_e h
  refine bq_callSi (As := [.int _]) S hK hD hA hP hS (cX10_isSheet_k ho1) hd_yX10_isSheet ml_X10_195 st_yX10_isSheet ⟨rfl, rfl⟩ ⟨by decide, by decide⟩ rfl hl.1 rfl (Nat.le_of_ble_eq_true rfl) ⟨Nat.zero_le _, Nat.zero_le _⟩ dX10_joined_1 (fun H locs hP hS => ?_)
  refine lv_if_eq (tgt := 27) hx hb dX10_joined_4 (by decide) (fun c4 => ?_) (fun c4 => ?_)
  · replace h := (if_pos c4).symm.trans h
    refine lv_iconst (v := (-1 : Int32)) hx hb dX10_joined_27 (by decide) ?_
    obtain ⟨e1, e2⟩ := Prod.mk.inj (hret _ h)
    exact hR _ _ _ _ _ (congrArg some e1) rfl (by rw [e2]; exact hP) hS dX10_joined_28
  · replace h := (if_neg c4).symm.trans h
    refine lv_iload_n hx hb dX10_joined_7 rfl (lv_at hl 2 rfl) ?_
    obtain ⟨o5, ho5, h⟩ := Option.bind_eq_some_iff.mp h
    obtain ⟨v7, x6⟩ := o5
    replace h := un2_e h
    refine bq_callSi (As := [.int _]) S hK hD hA hP hS (cX10_isLane_k ho5) hd_yX10_isLane ml_X10_198 st_yX10_isLane ⟨rfl, rfl⟩ ⟨by decide, by decide⟩ rfl hl.1 rfl (Nat.le_of_ble_eq_true rfl) ⟨Nat.zero_le _, Nat.zero_le _⟩ dX10_joined_8 (fun H locs hP hS => ?_)
    refine lv_if_eq (tgt := 27) hx hb dX10_joined_11 (by decide) (fun c8 => ?_) (fun c8 => ?_)
    · replace h := (if_pos c8).symm.trans h
      refine lv_iconst (v := (-1 : Int32)) hx hb dX10_joined_27 (by decide) ?_
      obtain ⟨e1, e2⟩ := Prod.mk.inj (hret _ h)
      exact hR _ _ _ _ _ (congrArg some e1) rfl (by rw [e2]; exact hP) hS dX10_joined_28
    · replace h := (if_neg c8).symm.trans h
      refine lv_iload hx hb dX10_joined_14 (lv_at hl 4 rfl) ?_
      refine lv_i2l hx hb dX10_joined_16 rfl ?_
      refine lv_lconst (v := (1 : Int64)) hx hb dX10_joined_17 (by decide) ?_
      refine lv_ldc2 hx hb hown (hts _ kl_X10_86) dX10_joined_18 ?_
      obtain ⟨o9, ho9, h⟩ := Option.bind_eq_some_iff.mp h
      obtain ⟨v11, x10⟩ := o9
      replace h := un2_e h
      refine bq_callSi (As := [.long _, .long _, .long _]) S hK hD hA hP hS (cX10_in_k ho9) hd_yX10_in ml_X10_66 st_yX10_in ⟨rfl, rfl⟩ ⟨by decide, by decide⟩ rfl hl.1 rfl (Nat.le_of_ble_eq_true rfl) ⟨Nat.zero_le _, Nat.zero_le _⟩ dX10_joined_21 (fun H locs hP hS => ?_)
      refine lv_if_ne (tgt := 29) hx hb dX10_joined_24 (by decide) (fun c12 => ?_) (fun c12 => ?_)
      · replace h := (if_neg c12).symm.trans h
        refine lv_aload_n hx hb dX10_joined_29 rfl (lv_at hl 0 rfl) ?_
        refine lv_iload_n hx hb dX10_joined_30 rfl (lv_at hl 1 rfl) ?_
        refine lv_iload_n hx hb dX10_joined_31 rfl (lv_at hl 2 rfl) ?_
        refine lv_iload_n hx hb dX10_joined_32 rfl (lv_at hl 3 rfl) ?_
        refine lv_iload hx hb dX10_joined_33 (lv_at hl 4 rfl) ?_
        obtain ⟨o13, ho13, h⟩ := Option.bind_eq_some_iff.mp h
        obtain ⟨v15, x14⟩ := o13
        replace h := un2_e h
        refine bq_callVi (q0 := 0) (As := [.int _, .int _, .int _, .int _]) S hK hD hA hP hS (cX10_finds_k_0 ho13) hd_yX10_finds ml_X10_203 in_yX10_finds (hts _ sl_X10_X10_yX10_finds) ⟨rfl, rfl⟩ ⟨by decide, by decide⟩ rfl rfl rfl hl.1 rfl (Nat.le_of_ble_eq_true rfl) ⟨Nat.zero_le _, Nat.zero_le _⟩ dX10_joined_35 (fun H locs hP hS => ?_)
        refine lv_istore (lv' := [(5, .int v15), (0, .ref (a 0)), (1, .int p1), (2, .int p2), (3, .int p3), (4, .int p4)]) hx hb dX10_joined_38 hl (by decide) rfl (fun ls hl => ?_)
        refine lv_iload hx hb dX10_joined_40 (lv_at hl 0 rfl) ?_
        refine lv_if_ge (tgt := 48) hx hb dX10_joined_42 (by decide) (fun c16 => ?_) (fun c16 => ?_)
        · replace h := (if_pos c16).symm.trans h
          refine lv_aload_n hx hb dX10_joined_48 rfl (lv_at hl 1 rfl) ?_
          obtain ⟨o17, ho17, h⟩ := Option.bind_eq_some_iff.mp h
          obtain ⟨v19, x18⟩ := o17
          replace h := un2_e h
          refine bq_callVi (q0 := 0) (As := []) S hK hD hA hP hS (cX10_standingSet_k_0 ho17) hd_yX10_standingSet ml_X10_158 in_yX10_standingSet (hts _ sl_X10_X10_yX10_standingSet) ⟨rfl, rfl⟩ ⟨by decide, by decide⟩ rfl rfl rfl hl.1 rfl (Nat.le_of_ble_eq_true rfl) ⟨Nat.zero_le _, Nat.zero_le _⟩ dX10_joined_49 (fun H locs hP hS => ?_)
          refine lv_istore (lv' := [(6, .int v19), (5, .int v15), (0, .ref (a 0)), (1, .int p1), (2, .int p2), (3, .int p3), (4, .int p4)]) hx hb dX10_joined_52 hl (by decide) rfl (fun ls hl => ?_)
          refine lv_iconst (v := (0 : Int32)) hx hb dX10_joined_54 (by decide) ?_
          refine lv_istore (lv' := [(7, .int (0 : Int32)), (6, .int v19), (5, .int v15), (0, .ref (a 0)), (1, .int p1), (2, .int p2), (3, .int p3), (4, .int p4)]) hx hb dX10_joined_55 hl (by decide) rfl (fun ls hl => ?_)
          have hl57 : ∀ (v20 : Int32) (v21 : Int32) (v22 : Int32) (kf : Nat) (v23 : Int32) (v24 : Int32) (x25 : bq_S) (eo : (Int32 × Int32 × bq_S) ⊕ (Int32 × bq_S)) (H : Heap) (locs : List Loc) (ls : Array Slot), wh kf (fX10_joined_b57 n v20 v21 v22) (v23, v24, x25) = some eo → va_P D bq_cl (bq_wM a k x25) H → va_S A s.heap H locs → lv_has ls 10 [(0, .ref (a 0)), (1, .int v20), (3, .int v21), (4, .int v22), (6, .int v23), (7, .int v24)] → (∀ (H : Heap) (locs : List Loc) (ls : Array Slot) (v37 : Int32) (v38 : Int32) (x39 : bq_S), eo = .inl (v37, v38, x39) → va_P D bq_cl (bq_wM a k x39) H → va_S A s.heap H locs → lv_has ls 10 [(0, .ref (a 0)), (1, .int v20), (3, .int v21), (4, .int v22)] → W p l e { frames := 2, cells := 0, slots := 0, locals := 46 } s m [.ref (a 0), .int p1, .int p2, .int p3, .int p4].toArray below meth c H locs 0 0 Q (F0 m 127 ls [])) → (∀ z, eo = .inr z → (rz, xz) = z) → W p l e { frames := 2, cells := 0, slots := 0, locals := 46 } s m [.ref (a 0), .int p1, .int p2, .int p3, .int p4].toArray below meth c H locs 0 0 Q (F0 m 57 ls []) := by
            intro v20 v21 v22 kf
            induction kf with
            | zero => intro v23 v24 x25 eo H locs ls h; cases h
            | succ kf ih =>
              intro v23 v24 x25 eo H locs ls h hP hS hl kx kr
              obtain ⟨out, h, hw⟩ := wh_s h
              have hret : ∀ z, (some (.inr (.inr z)) : Option ((Int32 × Int32 × bq_S) ⊕ ((Int32 × Int32 × bq_S) ⊕ (Int32 × bq_S)))) = some out → (rz, xz) = z := fun z h => kr z (by cases h; exact (Option.some.inj hw).symm)
              unfold fX10_joined_b57 at h
              replace h := un3_e h
              refine lv_iload hx hb dX10_joined_57 (lv_at hl 5 rfl) ?_
              refine lv_iload hx hb dX10_joined_59 (lv_at hl 3 rfl) ?_
              refine lv_icmp_ge (tgt := 127) hx hb dX10_joined_61 (by decide) (fun c26 => ?_) (fun c26 => ?_)
              · replace h := (if_pos c26).symm.trans h
                cases h
                exact kx _ _ _ _ _ _ (Option.some.inj hw).symm hP hS (lv_sub hl [0, 1, 2, 3] rfl)
              · replace h := (if_neg c26).symm.trans h
                refine lv_aload_n hx hb dX10_joined_64 rfl (lv_at hl 0 rfl) ?_
                refine bq_get (q0 := 0) S hK hP fl_X10_55_X10_24 rfl rfl rfl dX10_joined_65 ?_
                refine lv_bipush (v := (16 : Int32)) hx hb dX10_joined_68 (by decide) ?_
                refine lv_iload_n hx hb dX10_joined_70 rfl (lv_at hl 1 rfl) ?_
                refine lv_imul hx hb dX10_joined_71 ?_
                refine lv_iload_n hx hb dX10_joined_72 rfl (lv_at hl 2 rfl) ?_
                refine lv_iadd hx hb dX10_joined_73 ?_
                refine lv_iload hx hb dX10_joined_74 (lv_at hl 5 rfl) ?_
                refine lv_iadd hx hb dX10_joined_76 ?_
                obtain ⟨g27, h⟩ := bq_gd h
                refine va_lald (D := D) hx hb hK hP 16 1 rfl rfl g27 dX10_joined_77 ?_
                refine lv_topl (fun v28 hv28 => ?_)
                replace h := bq_bv h hv28
                refine lv_lstore (lv' := [(8, .long v28), (0, .ref (a 0)), (1, .int v20), (3, .int v21), (4, .int v22), (6, .int v23), (7, .int v24)]) hx hb dX10_joined_78 hl (by decide) rfl (fun ls hl => ?_)
                refine lv_lload hx hb dX10_joined_80 (lv_at hl 0 rfl) ?_
                refine lv_lconst (v := (0 : Int64)) hx hb dX10_joined_82 (by decide) ?_
                refine lv_aload_n hx hb dX10_joined_83 rfl (lv_at hl 1 rfl) ?_
                refine bq_get (q0 := 0) S hK hP fl_X10_62_X10_0 rfl rfl rfl dX10_joined_84 ?_
                refine lv_iconst (v := (1 : Int32)) hx hb dX10_joined_87 (by decide) ?_
                refine lv_isub hx hb dX10_joined_88 ?_
                refine lv_i2l hx hb dX10_joined_89 rfl ?_
                obtain ⟨o29, ho29, h⟩ := Option.bind_eq_some_iff.mp h
                obtain ⟨v31, x30⟩ := o29
                replace h := un2_e h
                refine bq_callSi (As := [.long _, .long _, .long _]) S hK hD hA hP hS (cX10_in_k ho29) hd_yX10_in ml_X10_66 st_yX10_in ⟨rfl, rfl⟩ ⟨by decide, by decide⟩ rfl hl.1 rfl (Nat.le_of_ble_eq_true rfl) ⟨Nat.zero_le _, Nat.zero_le _⟩ dX10_joined_90 (fun H locs hP hS => ?_)
                refine lv_if_eq (tgt := 108) hx hb dX10_joined_93 (by decide) (fun c32 => ?_) (fun c32 => ?_)
                · replace h := (if_pos c32).symm.trans h
                  refine lv_bipush (v := (-2 : Int32)) hx hb dX10_joined_108 (by decide) ?_
                  obtain ⟨e1, e2⟩ := Prod.mk.inj (hret _ h)
                  exact hR _ _ _ _ _ (congrArg some e1) rfl (by rw [e2]; exact hP) hS dX10_joined_110
                · replace h := (if_neg c32).symm.trans h
                  refine lv_iload hx hb dX10_joined_96 (lv_at hl 5 rfl) ?_
                  refine lv_lload hx hb dX10_joined_98 (lv_at hl 0 rfl) ?_
                  refine lv_l2i hx hb dX10_joined_100 rfl ?_
                  refine lv_ishr hx hb dX10_joined_101 ?_
                  refine lv_iconst (v := (1 : Int32)) hx hb dX10_joined_102 (by decide) ?_
                  refine lv_iand hx hb dX10_joined_103 ?_
                  refine lv_iconst (v := (1 : Int32)) hx hb dX10_joined_104 (by decide) ?_
                  refine lv_icmp_ne (tgt := 111) hx hb dX10_joined_105 (by decide) (fun c33 => ?_) (fun c33 => ?_)
                  · replace h := (if_neg c33).symm.trans h
                    refine lv_iload hx hb dX10_joined_111 (lv_at hl 5 rfl) ?_
                    refine lv_iconst (v := (1 : Int32)) hx hb dX10_joined_113 (by decide) ?_
                    refine lv_lload hx hb dX10_joined_114 (lv_at hl 0 rfl) ?_
                    refine lv_l2i hx hb dX10_joined_116 rfl ?_
                    refine lv_ishl hx hb dX10_joined_117 ?_
                    refine lv_ior hx hb dX10_joined_118 ?_
                    refine lv_topi (fun v34 hv34 => ?_)
                    replace h := bq_bv h hv34
                    refine lv_istore (lv' := [(6, .int v34), (8, .long v28), (0, .ref (a 0)), (1, .int v20), (3, .int v21), (4, .int v22), (7, .int v24)]) hx hb dX10_joined_119 hl (by decide) rfl (fun ls hl => ?_)
                    obtain ⟨v35, hv35, h⟩ := bq_b h
                    refine lv_iinc (v := v35) (lv' := [(7, .int v35), (6, .int v34), (8, .long v28), (0, .ref (a 0)), (1, .int v20), (3, .int v21), (4, .int v22)]) hx hb dX10_joined_121 hl (k := 6) rfl (by rw [hv35]; rfl) (by decide) rfl (fun ls hl => ?_)
                    refine lv_goto (tgt := 57) hx hb dX10_joined_124 (by decide) ?_
                    cases h
                    exact ih _ _ _ _ _ _ _ hw hP hS (lv_sub hl [3, 4, 5, 6, 1, 0] rfl) kx kr
                  · replace h := (if_pos c33).symm.trans h
                    refine lv_bipush (v := (-2 : Int32)) hx hb dX10_joined_108 (by decide) ?_
                    obtain ⟨e1, e2⟩ := Prod.mk.inj (hret _ h)
                    exact hR _ _ _ _ _ (congrArg some e1) rfl (by rw [e2]; exact hP) hS dX10_joined_110
          obtain ⟨e36, he36, h⟩ := Option.bind_eq_some_iff.mp h
          refine hl57 _ _ _ n _ _ _ e36 _ _ _ he36 hP hS (lv_sub hl [3, 4, 6, 7, 1, 0] rfl) (fun H locs ls v37 v38 x39 hz hP hS hl => ?_) (fun z hz => hret z (bq_ir h hz :))
          replace h := bq_il h hz
          replace h := un3_e h
          refine lv_iconst (v := (0 : Int32)) hx hb dX10_joined_127 (by decide) ?_
          refine lv_istore (lv' := [(7, .int (0 : Int32)), (0, .ref (a 0)), (1, .int p1), (3, .int p3), (4, .int p4)]) hx hb dX10_joined_128 hl (by decide) rfl (fun ls hl => ?_)
          have hl130 : ∀ (v40 : Int32) (v41 : Int32) (v42 : Int32) (kf : Nat) (v43 : Int32) (x44 : bq_S) (eo : (Int32 × bq_S) ⊕ (Int32 × bq_S)) (H : Heap) (locs : List Loc) (ls : Array Slot), wh kf (fX10_joined_b130 n v40 v41 v42) (v43, x44) = some eo → va_P D bq_cl (bq_wM a k x44) H → va_S A s.heap H locs → lv_has ls 10 [(0, .ref (a 0)), (1, .int v40), (3, .int v41), (4, .int v42), (7, .int v43)] → (∀ (H : Heap) (locs : List Loc) (ls : Array Slot) (v92 : Int32) (x93 : bq_S), eo = .inl (v92, x93) → va_P D bq_cl (bq_wM a k x93) H → va_S A s.heap H locs → lv_has ls 10 [] → W p l e { frames := 2, cells := 0, slots := 0, locals := 46 } s m [.ref (a 0), .int p1, .int p2, .int p3, .int p4].toArray below meth c H locs 0 0 Q (F0 m 274 ls [])) → (∀ z, eo = .inr z → (rz, xz) = z) → W p l e { frames := 2, cells := 0, slots := 0, locals := 46 } s m [.ref (a 0), .int p1, .int p2, .int p3, .int p4].toArray below meth c H locs 0 0 Q (F0 m 130 ls []) := by
            intro v40 v41 v42 kf
            induction kf with
            | zero => intro v43 x44 eo H locs ls h; cases h
            | succ kf ih =>
              intro v43 x44 eo H locs ls h hP hS hl kx kr
              obtain ⟨out, h, hw⟩ := wh_s h
              have hret : ∀ z, (some (.inr (.inr z)) : Option ((Int32 × bq_S) ⊕ ((Int32 × bq_S) ⊕ (Int32 × bq_S)))) = some out → (rz, xz) = z := fun z h => kr z (by cases h; exact (Option.some.inj hw).symm)
              unfold fX10_joined_b130 at h
              replace h := un2_e h
              refine lv_iload hx hb dX10_joined_130 (lv_at hl 4 rfl) ?_
              refine lv_iconst (v := (4 : Int32)) hx hb dX10_joined_132 (by decide) ?_
              refine lv_icmp_ge (tgt := 274) hx hb dX10_joined_133 (by decide) (fun c45 => ?_) (fun c45 => ?_)
              · replace h := (if_pos c45).symm.trans h
                cases h
                exact kx _ _ _ _ _ (Option.some.inj hw).symm hP hS (lv_sub hl [] rfl)
              · replace h := (if_neg c45).symm.trans h
                refine lv_aload_n hx hb dX10_joined_136 rfl (lv_at hl 0 rfl) ?_
                refine lv_aload_n hx hb dX10_joined_137 rfl (lv_at hl 0 rfl) ?_
                refine bq_get (q0 := 0) S hK hP fl_X10_126_X10_6 rfl rfl rfl dX10_joined_138 ?_
                refine lv_iload hx hb dX10_joined_141 (lv_at hl 3 rfl) ?_
                refine lv_iadd hx hb dX10_joined_143 ?_
                obtain ⟨x46, hx46, h⟩ := bq_b h
                refine bq_put (x1 := x46) (q0 := 0) (ty := .int) S hK hD hP hS fl_X10_133_X10_17 bt_X10 rfl (by decide +kernel) rfl rfl (Nat.le_of_ble_eq_true rfl) rfl rfl (by rw [hx46]; rfl) dX10_joined_144 (fun H locs hP hS => ?_)
                refine lv_iconst (v := (0 : Int32)) hx hb dX10_joined_147 (by decide) ?_
                refine lv_istore (lv' := [(8, .int (0 : Int32)), (0, .ref (a 0)), (1, .int v40), (3, .int v41), (4, .int v42), (7, .int v43)]) hx hb dX10_joined_148 hl (by decide) rfl (fun ls hl => ?_)
                have hl150 : ∀ (v47 : Int32) (v48 : Int32) (v49 : Int32) (v50 : Int32) (kf : Nat) (v51 : Int32) (x52 : bq_S) (eo : Int32 × bq_S) (H : Heap) (locs : List Loc) (ls : Array Slot), wh kf (fX10_joined_b150 n v47 v48 v49 v50) (v51, x52) = some eo → va_P D bq_cl (bq_wM a k x52) H → va_S A s.heap H locs → lv_has ls 10 [(0, .ref (a 0)), (1, .int v47), (3, .int v48), (4, .int v49), (7, .int v50), (8, .int v51)] → (∀ (H : Heap) (locs : List Loc) (ls : Array Slot) (v64 : Int32) (x65 : bq_S), eo = (v64, x65) → va_P D bq_cl (bq_wM a k x65) H → va_S A s.heap H locs → lv_has ls 10 [(0, .ref (a 0)), (1, .int v47), (3, .int v48), (4, .int v49), (7, .int v50)] → W p l e { frames := 2, cells := 0, slots := 0, locals := 46 } s m [.ref (a 0), .int p1, .int p2, .int p3, .int p4].toArray below meth c H locs 0 0 Q (F0 m 197 ls [])) → W p l e { frames := 2, cells := 0, slots := 0, locals := 46 } s m [.ref (a 0), .int p1, .int p2, .int p3, .int p4].toArray below meth c H locs 0 0 Q (F0 m 150 ls []) := by
                  intro v47 v48 v49 v50 kf
                  induction kf with
                  | zero => intro v51 x52 eo H locs ls h; cases h
                  | succ kf ih =>
                    intro v51 x52 eo H locs ls h hP hS hl kx
                    obtain ⟨out, h, hw⟩ := wh_s h
                    unfold fX10_joined_b150 at h
                    replace h := un2_e h
                    refine lv_iload hx hb dX10_joined_150 (lv_at hl 5 rfl) ?_
                    refine lv_aload_n hx hb dX10_joined_152 rfl (lv_at hl 0 rfl) ?_
                    refine bq_get (q0 := 0) S hK hP fl_X10_126_X10_6 rfl rfl rfl dX10_joined_153 ?_
                    refine lv_icmp_ge (tgt := 197) hx hb dX10_joined_156 (by decide) (fun c53 => ?_) (fun c53 => ?_)
                    · replace h := (if_pos c53).symm.trans h
                      cases h
                      exact kx _ _ _ _ _ (Option.some.inj hw).symm hP hS (lv_sub hl [0, 1, 2, 3, 4] rfl)
                    · replace h := (if_neg c53).symm.trans h
                      refine lv_aload_n hx hb dX10_joined_159 rfl (lv_at hl 0 rfl) ?_
                      refine bq_get (q0 := 0) S hK hP fl_X10_37_X10_16 rfl rfl rfl dX10_joined_160 ?_
                      refine lv_iload hx hb dX10_joined_163 (lv_at hl 5 rfl) ?_
                      refine lv_aload_n hx hb dX10_joined_165 rfl (lv_at hl 0 rfl) ?_
                      refine bq_get (q0 := 0) S hK hP fl_X10_22_X10_7 rfl rfl rfl dX10_joined_166 ?_
                      refine lv_iload hx hb dX10_joined_169 (lv_at hl 4 rfl) ?_
                      refine lv_iconst (v := (1 : Int32)) hx hb dX10_joined_171 (by decide) ?_
                      refine lv_icmp_le (tgt := 187) hx hb dX10_joined_172 (by decide) (fun c54 => ?_) (fun c54 => ?_)
                      · replace h := (if_pos c54).symm.trans h
                        refine lv_iload hx hb dX10_joined_187 (lv_at hl 5 rfl) ?_
                        obtain ⟨g55, h⟩ := bq_gd h
                        refine va_iald (D := D) hx hb hK hP 5 0 rfl rfl g55 dX10_joined_189 ?_
                        obtain ⟨g57, h⟩ := bq_gd h
                        obtain ⟨x56, hx56, h⟩ := bq_b h
                        refine bq_iast (x1 := x56) (q0 := 10) (t0 := 0) S hK hD hP hS rfl rfl g57 (by rw [hx56]; rfl) dX10_joined_190 (fun H locs hP hS => ?_)
                        obtain ⟨v58, hv58, h⟩ := bq_b h
                        refine lv_iinc (v := v58) (lv' := [(8, .int v58), (0, .ref (a 0)), (1, .int v47), (3, .int v48), (4, .int v49), (7, .int v50)]) hx hb dX10_joined_191 hl (k := 5) rfl (by rw [hv58]; rfl) (by decide) rfl (fun ls hl => ?_)
                        refine lv_goto (tgt := 150) hx hb dX10_joined_194 (by decide) ?_
                        cases h
                        exact ih _ _ _ _ _ _ hw hP hS (lv_sub hl [1, 2, 3, 4, 5, 0] rfl) kx
                      · replace h := (if_neg c54).symm.trans h
                        refine lv_aload_n hx hb dX10_joined_175 rfl (lv_at hl 0 rfl) ?_
                        refine bq_get (q0 := 0) S hK hP fl_X10_126_X10_6 rfl rfl rfl dX10_joined_176 ?_
                        refine lv_iconst (v := (1 : Int32)) hx hb dX10_joined_179 (by decide) ?_
                        refine lv_isub hx hb dX10_joined_180 ?_
                        refine lv_iload hx hb dX10_joined_181 (lv_at hl 5 rfl) ?_
                        refine lv_isub hx hb dX10_joined_183 ?_
                        refine lv_goto (tgt := 189) hx hb dX10_joined_184 (by decide) ?_
                        obtain ⟨g59, h⟩ := bq_gd h
                        refine va_iald (D := D) hx hb hK hP 5 0 rfl rfl g59 dX10_joined_189 ?_
                        obtain ⟨g61, h⟩ := bq_gd h
                        obtain ⟨x60, hx60, h⟩ := bq_b h
                        refine bq_iast (x1 := x60) (q0 := 10) (t0 := 0) S hK hD hP hS rfl rfl g61 (by rw [hx60]; rfl) dX10_joined_190 (fun H locs hP hS => ?_)
                        obtain ⟨v62, hv62, h⟩ := bq_b h
                        refine lv_iinc (v := v62) (lv' := [(8, .int v62), (0, .ref (a 0)), (1, .int v47), (3, .int v48), (4, .int v49), (7, .int v50)]) hx hb dX10_joined_191 hl (k := 5) rfl (by rw [hv62]; rfl) (by decide) rfl (fun ls hl => ?_)
                        refine lv_goto (tgt := 150) hx hb dX10_joined_194 (by decide) ?_
                        cases h
                        exact ih _ _ _ _ _ _ hw hP hS (lv_sub hl [1, 2, 3, 4, 5, 0] rfl) kx
                obtain ⟨e63, he63, h⟩ := Option.bind_eq_some_iff.mp h
                refine hl150 _ _ _ _ n _ _ e63 _ _ _ he63 hP hS (lv_sub hl [1, 2, 3, 4, 5, 0] rfl) (fun H locs ls v64 x65 hz hP hS hl => ?_)
                subst hz
                replace h := un2_e h
                refine lv_iconst (v := (0 : Int32)) hx hb dX10_joined_197 (by decide) ?_
                refine lv_istore (lv' := [(8, .int (0 : Int32)), (0, .ref (a 0)), (1, .int v40), (3, .int v41), (4, .int v42), (7, .int v43)]) hx hb dX10_joined_198 hl (by decide) rfl (fun ls hl => ?_)
                have hl200 : ∀ (v66 : Int32) (v67 : Int32) (v68 : Int32) (v69 : Int32) (kf : Nat) (v70 : Int32) (x71 : bq_S) (eo : Int32 × bq_S) (H : Heap) (locs : List Loc) (ls : Array Slot), wh kf (fX10_joined_b200 n v66 v67 v68 v69) (v70, x71) = some eo → va_P D bq_cl (bq_wM a k x71) H → va_S A s.heap H locs → lv_has ls 10 [(0, .ref (a 0)), (1, .int v66), (3, .int v67), (4, .int v68), (7, .int v69), (8, .int v70)] → (∀ (H : Heap) (locs : List Loc) (ls : Array Slot) (v84 : Int32) (x85 : bq_S), eo = (v84, x85) → va_P D bq_cl (bq_wM a k x85) H → va_S A s.heap H locs → lv_has ls 10 [(0, .ref (a 0)), (1, .int v66), (3, .int v67), (4, .int v68), (7, .int v69)] → W p l e { frames := 2, cells := 0, slots := 0, locals := 46 } s m [.ref (a 0), .int p1, .int p2, .int p3, .int p4].toArray below meth c H locs 0 0 Q (F0 m 258 ls [])) → W p l e { frames := 2, cells := 0, slots := 0, locals := 46 } s m [.ref (a 0), .int p1, .int p2, .int p3, .int p4].toArray below meth c H locs 0 0 Q (F0 m 200 ls []) := by
                  intro v66 v67 v68 v69 kf
                  induction kf with
                  | zero => intro v70 x71 eo H locs ls h; cases h
                  | succ kf ih =>
                    intro v70 x71 eo H locs ls h hP hS hl kx
                    obtain ⟨out, h, hw⟩ := wh_s h
                    unfold fX10_joined_b200 at h
                    replace h := un2_e h
                    have hj248 : ∀ (v74 : Int32) (v75 : Int32) (v76 : Int32) (v77 : Int32) (x78 : bq_S) (H : Heap) (locs : List Loc) (ls : Array Slot), fX10_joined_j248 n v66 v67 v68 v69 v74 v75 v76 v77 x78 = some out → va_P D bq_cl (bq_wM a k x78) H → va_S A s.heap H locs → lv_has ls 10 [(0, .ref (a 0)), (1, .int v66), (3, .int v67), (4, .int v68), (7, .int v69), (8, .int v74)] → W p l e { frames := 2, cells := 0, slots := 0, locals := 46 } s m [.ref (a 0), .int p1, .int p2, .int p3, .int p4].toArray below meth c H locs 0 0 Q (F0 m 248 ls [.int v77, .int v76, .ref (a 16), .int v75, .ref (a 10)]) := by
                      intro v74 v75 v76 v77 x78 H locs ls h hP hS hl
                      unfold fX10_joined_j248 at h
                      refine lv_iadd hx hb dX10_joined_248 ?_
                      obtain ⟨g79, h⟩ := bq_gd h
                      refine va_lald (D := D) hx hb hK hP 16 1 rfl rfl g79 dX10_joined_249 ?_
                      refine lv_l2i hx hb dX10_joined_250 rfl ?_
                      obtain ⟨g81, h⟩ := bq_gd h
                      obtain ⟨x80, hx80, h⟩ := bq_b h
                      refine bq_iast (x1 := x80) (q0 := 10) (t0 := 0) S hK hD hP hS rfl rfl g81 (by rw [hx80]; rfl) dX10_joined_251 (fun H locs hP hS => ?_)
                      obtain ⟨v82, hv82, h⟩ := bq_b h
                      refine lv_iinc (v := v82) (lv' := [(8, .int v82), (0, .ref (a 0)), (1, .int v66), (3, .int v67), (4, .int v68), (7, .int v69)]) hx hb dX10_joined_252 hl (k := 5) rfl (by rw [hv82]; rfl) (by decide) rfl (fun ls hl => ?_)
                      refine lv_goto (tgt := 200) hx hb dX10_joined_255 (by decide) ?_
                      cases h
                      exact ih _ _ _ _ _ _ hw hP hS (lv_sub hl [1, 2, 3, 4, 5, 0] rfl) kx
                    refine lv_iload hx hb dX10_joined_200 (lv_at hl 5 rfl) ?_
                    refine lv_iload hx hb dX10_joined_202 (lv_at hl 3 rfl) ?_
                    refine lv_icmp_ge (tgt := 258) hx hb dX10_joined_204 (by decide) (fun c72 => ?_) (fun c72 => ?_)
                    · replace h := (if_pos c72).symm.trans h
                      cases h
                      exact kx _ _ _ _ _ (Option.some.inj hw).symm hP hS (lv_sub hl [0, 1, 2, 3, 4] rfl)
                    · replace h := (if_neg c72).symm.trans h
                      refine lv_aload_n hx hb dX10_joined_207 rfl (lv_at hl 0 rfl) ?_
                      refine bq_get (q0 := 0) S hK hP fl_X10_37_X10_16 rfl rfl rfl dX10_joined_208 ?_
                      refine lv_aload_n hx hb dX10_joined_211 rfl (lv_at hl 0 rfl) ?_
                      refine bq_get (q0 := 0) S hK hP fl_X10_126_X10_6 rfl rfl rfl dX10_joined_212 ?_
                      refine lv_iload hx hb dX10_joined_215 (lv_at hl 5 rfl) ?_
                      refine lv_iadd hx hb dX10_joined_217 ?_
                      refine lv_aload_n hx hb dX10_joined_218 rfl (lv_at hl 0 rfl) ?_
                      refine bq_get (q0 := 0) S hK hP fl_X10_55_X10_24 rfl rfl rfl dX10_joined_219 ?_
                      refine lv_bipush (v := (16 : Int32)) hx hb dX10_joined_222 (by decide) ?_
                      refine lv_iload_n hx hb dX10_joined_224 rfl (lv_at hl 1 rfl) ?_
                      refine lv_imul hx hb dX10_joined_225 ?_
                      refine lv_iload_n hx hb dX10_joined_226 rfl (lv_at hl 2 rfl) ?_
                      refine lv_iadd hx hb dX10_joined_227 ?_
                      refine lv_iload hx hb dX10_joined_228 (lv_at hl 4 rfl) ?_
                      refine lv_iconst (v := (2 : Int32)) hx hb dX10_joined_230 (by decide) ?_
                      refine lv_irem hx hb dX10_joined_231 (by decide) ?_
                      refine lv_iconst (v := (1 : Int32)) hx hb dX10_joined_232 (by decide) ?_
                      refine lv_icmp_ne (tgt := 246) hx hb dX10_joined_233 (by decide) (fun c73 => ?_) (fun c73 => ?_)
                      · replace h := (if_neg c73).symm.trans h
                        refine lv_iload hx hb dX10_joined_246 (lv_at hl 5 rfl) ?_
                        exact hj248 _ _ _ _ _ _ _ _ h hP hS (lv_sub hl [0, 1, 2, 3, 4, 5] rfl)
                      · replace h := (if_pos c73).symm.trans h
                        refine lv_iload hx hb dX10_joined_236 (lv_at hl 3 rfl) ?_
                        refine lv_iconst (v := (1 : Int32)) hx hb dX10_joined_238 (by decide) ?_
                        refine lv_isub hx hb dX10_joined_239 ?_
                        refine lv_iload hx hb dX10_joined_240 (lv_at hl 5 rfl) ?_
                        refine lv_isub hx hb dX10_joined_242 ?_
                        refine lv_goto (tgt := 248) hx hb dX10_joined_243 (by decide) ?_
                        exact hj248 _ _ _ _ _ _ _ _ h hP hS (lv_sub hl [0, 1, 2, 3, 4, 5] rfl)
                obtain ⟨e83, he83, h⟩ := Option.bind_eq_some_iff.mp h
                refine hl200 _ _ _ _ n _ _ e83 _ _ _ he83 hP hS (lv_sub hl [1, 2, 3, 4, 5, 0] rfl) (fun H locs ls v84 x85 hz hP hS hl => ?_)
                subst hz
                replace h := un2_e h
                refine lv_aload_n hx hb dX10_joined_258 rfl (lv_at hl 0 rfl) ?_
                obtain ⟨o86, ho86, h⟩ := Option.bind_eq_some_iff.mp h
                obtain ⟨v88, x87⟩ := o86
                replace h := un2_e h
                refine bq_callVi (q0 := 0) (As := []) S hK hD hA hP hS (cX10_wrongAt_k_0 ho86) hd_yX10_wrongAt ml_X10_139 in_yX10_wrongAt (hts _ sl_X10_X10_yX10_wrongAt) ⟨rfl, rfl⟩ ⟨by decide, by decide⟩ rfl rfl rfl hl.1 rfl (Nat.le_of_ble_eq_true rfl) ⟨Nat.zero_le _, Nat.zero_le _⟩ dX10_joined_259 (fun H locs hP hS => ?_)
                refine lv_if_ge (tgt := 268) hx hb dX10_joined_262 (by decide) (fun c89 => ?_) (fun c89 => ?_)
                · replace h := (if_pos c89).symm.trans h
                  obtain ⟨v90, hv90, h⟩ := bq_b h
                  refine lv_iinc (v := v90) (lv' := [(7, .int v90), (0, .ref (a 0)), (1, .int v40), (3, .int v41), (4, .int v42)]) hx hb dX10_joined_268 hl (k := 4) rfl (by rw [hv90]; rfl) (by decide) rfl (fun ls hl => ?_)
                  refine lv_goto (tgt := 130) hx hb dX10_joined_271 (by decide) ?_
                  cases h
                  exact ih _ _ _ _ _ _ hw hP hS (lv_sub hl [1, 2, 3, 4, 0] rfl) kx kr
                · replace h := (if_neg c89).symm.trans h
                  refine lv_iload hx hb dX10_joined_265 (lv_at hl 4 rfl) ?_
                  obtain ⟨e1, e2⟩ := Prod.mk.inj (hret _ h)
                  exact hR _ _ _ _ _ (congrArg some e1) rfl (by rw [e2]; exact hP) hS dX10_joined_267
          obtain ⟨e91, he91, h⟩ := Option.bind_eq_some_iff.mp h
          refine hl130 _ _ _ n _ _ e91 _ _ _ he91 hP hS (lv_sub hl [1, 2, 3, 4, 0] rfl) (fun H locs ls v92 x93 hz hP hS hl => ?_) (fun z hz => hret z (bq_ir h hz :))
          replace h := bq_il h hz
          replace h := un2_e h
          refine lv_bipush (v := (-4 : Int32)) hx hb dX10_joined_274 (by decide) ?_
          obtain ⟨e1, e2⟩ := Prod.mk.inj (hret _ h)
          exact hR _ _ _ _ _ (congrArg some e1) rfl (by rw [e2]; exact hP) hS dX10_joined_276
        · replace h := (if_neg c16).symm.trans h
          refine lv_iload hx hb dX10_joined_45 (lv_at hl 0 rfl) ?_
          obtain ⟨e1, e2⟩ := Prod.mk.inj (hret _ h)
          exact hR _ _ _ _ _ (congrArg some e1) rfl (by rw [e2]; exact hP) hS dX10_joined_47
      · replace h := (if_pos c12).symm.trans h
        refine lv_iconst (v := (-1 : Int32)) hx hb dX10_joined_27 (by decide) ?_
        obtain ⟨e1, e2⟩ := Prod.mk.inj (hret _ h)
        exact hR _ _ _ _ _ (congrArg some e1) rfl (by rw [e2]; exact hP) hS dX10_joined_28
def fX10_sheet_b46 (n : Nat) (v15 : Int32) (v16 : Int32) (v : Int32 × bq_S) : Option ((Int32 × bq_S) ⊕ (Int32 × bq_S)) :=
  un2 v (fun v17 x18 =>
  if (16 : Int32) ≤ v17 then
  some (.inr (v17, x18))
  else
  if ok_i (((16 : Int32) * v15) + v17) 64 then
  bd (bq_sL x18 16 (((16 : Int32) * v15) + v17).toNatClampNeg (0 : Int64)) (fun x20 =>
  bd (v17 + (1 : Int32)) (fun v22 =>
  some (.inl (v22, x20))))
  else none)
def fX10_sheet (n : Nat) (p1 : Int32) (p2 : Int32) (p3 : Int32) (x0 : bq_S) : Option (Int32 × bq_S) :=
  (fX10_isSheet p1 x0).bind (fun o1 => un2 o1 (fun v3 x2 =>
  if v3 = 0 then
  some ((-1 : Int32), x2)
  else
  (fX10_isLane p2 x2).bind (fun o5 => un2 o5 (fun v7 x6 =>
  if v7 = 0 then
  some ((-1 : Int32), x6)
  else
  if p3 ≤ (16 : Int32) then
  if 0 ≤ p3 then
  if ok_i p1 4 then
  bd (bq_sI x6 14 p1.toNatClampNeg p2) (fun x11 =>
  if ok_i p1 4 then
  bd (bq_sI x11 15 p1.toNatClampNeg p3) (fun x13 =>
  (wh n (fX10_sheet_b46 n p1 p3) ((0 : Int32), x13)).bind (fun e23 => un2 e23 (fun v24 x25 =>
  some (p3, x25))))
  else none)
  else none
  else
  some ((-14 : Int32), x6)
  else
  some ((-1 : Int32), x6)))))
theorem dX10_sheet_0 : decode cX10_sheet 0 = .ok (.iload_n 1, 1) := by decide +kernel
theorem dX10_sheet_1 : decode cX10_sheet 1 = .ok (.invokestatic 195, 3) := by decide +kernel
theorem dX10_sheet_4 : decode cX10_sheet 4 = .ok (.ifCond .eq 16, 3) := by decide +kernel
theorem dX10_sheet_7 : decode cX10_sheet 7 = .ok (.iload_n 2, 1) := by decide +kernel
theorem dX10_sheet_8 : decode cX10_sheet 8 = .ok (.invokestatic 198, 3) := by decide +kernel
theorem dX10_sheet_11 : decode cX10_sheet 11 = .ok (.ifCond .eq 9, 3) := by decide +kernel
theorem dX10_sheet_14 : decode cX10_sheet 14 = .ok (.iload_n 3, 1) := by decide +kernel
theorem dX10_sheet_15 : decode cX10_sheet 15 = .ok (.bipush 16, 2) := by decide +kernel
theorem dX10_sheet_17 : decode cX10_sheet 17 = .ok (.if_icmp .le 5, 3) := by decide +kernel
theorem dX10_sheet_20 : decode cX10_sheet 20 = .ok (.iconst (-1), 1) := by decide +kernel
theorem dX10_sheet_21 : decode cX10_sheet 21 = .ok (.ireturn, 1) := by decide +kernel
theorem dX10_sheet_22 : decode cX10_sheet 22 = .ok (.iload_n 3, 1) := by decide +kernel
theorem dX10_sheet_23 : decode cX10_sheet 23 = .ok (.ifCond .ge 6, 3) := by decide +kernel
theorem dX10_sheet_26 : decode cX10_sheet 26 = .ok (.bipush (-14), 2) := by decide +kernel
theorem dX10_sheet_28 : decode cX10_sheet 28 = .ok (.ireturn, 1) := by decide +kernel
theorem dX10_sheet_29 : decode cX10_sheet 29 = .ok (.aload_n 0, 1) := by decide +kernel
theorem dX10_sheet_30 : decode cX10_sheet 30 = .ok (.getfield 49, 3) := by decide +kernel
theorem dX10_sheet_33 : decode cX10_sheet 33 = .ok (.iload_n 1, 1) := by decide +kernel
theorem dX10_sheet_34 : decode cX10_sheet 34 = .ok (.iload_n 2, 1) := by decide +kernel
theorem dX10_sheet_35 : decode cX10_sheet 35 = .ok (.iastore, 1) := by decide +kernel
theorem dX10_sheet_36 : decode cX10_sheet 36 = .ok (.aload_n 0, 1) := by decide +kernel
theorem dX10_sheet_37 : decode cX10_sheet 37 = .ok (.getfield 52, 3) := by decide +kernel
theorem dX10_sheet_40 : decode cX10_sheet 40 = .ok (.iload_n 1, 1) := by decide +kernel
theorem dX10_sheet_41 : decode cX10_sheet 41 = .ok (.iload_n 3, 1) := by decide +kernel
theorem dX10_sheet_42 : decode cX10_sheet 42 = .ok (.iastore, 1) := by decide +kernel
theorem dX10_sheet_43 : decode cX10_sheet 43 = .ok (.iconst 0, 1) := by decide +kernel
theorem dX10_sheet_44 : decode cX10_sheet 44 = .ok (.istore 4, 2) := by decide +kernel
theorem dX10_sheet_46 : decode cX10_sheet 46 = .ok (.iload 4, 2) := by decide +kernel
theorem dX10_sheet_48 : decode cX10_sheet 48 = .ok (.bipush 16, 2) := by decide +kernel
theorem dX10_sheet_50 : decode cX10_sheet 50 = .ok (.if_icmp .ge 22, 3) := by decide +kernel
theorem dX10_sheet_53 : decode cX10_sheet 53 = .ok (.aload_n 0, 1) := by decide +kernel
theorem dX10_sheet_54 : decode cX10_sheet 54 = .ok (.getfield 55, 3) := by decide +kernel
theorem dX10_sheet_57 : decode cX10_sheet 57 = .ok (.bipush 16, 2) := by decide +kernel
theorem dX10_sheet_59 : decode cX10_sheet 59 = .ok (.iload_n 1, 1) := by decide +kernel
theorem dX10_sheet_60 : decode cX10_sheet 60 = .ok (.imul, 1) := by decide +kernel
theorem dX10_sheet_61 : decode cX10_sheet 61 = .ok (.iload 4, 2) := by decide +kernel
theorem dX10_sheet_63 : decode cX10_sheet 63 = .ok (.iadd, 1) := by decide +kernel
theorem dX10_sheet_64 : decode cX10_sheet 64 = .ok (.lconst 0, 1) := by decide +kernel
theorem dX10_sheet_65 : decode cX10_sheet 65 = .ok (.lastore, 1) := by decide +kernel
theorem dX10_sheet_66 : decode cX10_sheet 66 = .ok (.iinc 4 1, 3) := by decide +kernel
theorem dX10_sheet_69 : decode cX10_sheet 69 = .ok (.goto (-23), 3) := by decide +kernel
theorem dX10_sheet_72 : decode cX10_sheet 72 = .ok (.iload_n 3, 1) := by decide +kernel
theorem dX10_sheet_73 : decode cX10_sheet 73 = .ok (.ireturn, 1) := by decide +kernel
set_option maxHeartbeats 4000000 in
set_option maxRecDepth 100000 in
theorem cX10_sheet_k_0 {l : Launch} {D : va_G} {a : Nat → Nat} {k : Nat → ClassId} {n : Nat} {p1 : Int32} {p2 : Int32} {p3 : Int32} {x0 xz : bq_S} {rz : Int32} (h : fX10_sheet n p1 p2 p3 x0 = some (rz, xz)) : bq_M l D bq_cl (bq_ty k) (bq_wM a k) yX10_sheet cX10_sheet 5 (some .int) { frames := 2, cells := 0, slots := 0, locals := 45 } [.ref (a 0), .int p1, .int p2, .int p3] x0 (some rz) xz := by
  refine bq_ofW RX10 [(0, .ref (a 0)), (1, .int p1), (2, .int p2), (3, .int p3)] (by decide +kernel) rfl (Nat.le_of_ble_eq_true rfl) rfl (bq_adM a k) ?_
  intro p e s m below meth c A Q ls S hK hD hA hR hS hP hl
  have hx := S.1; have hb := S.2.1; have hml := S.2.2.1; have hown := S.2.2.2.1; have hts := S.2.2.2.2
  have hret : ∀ z, some z = some (rz, xz) → (rz, xz) = z := fun z h => (Option.some.inj h).symm
  unfold fX10_sheet at h
  refine lv_iload_n hx hb dX10_sheet_0 rfl (lv_at hl 1 rfl) ?_
  obtain ⟨o1, ho1, h⟩ := Option.bind_eq_some_iff.mp h
  obtain ⟨v3, x2⟩ := o1
  replace h := un2_e h
  refine bq_callSi (As := [.int _]) S hK hD hA hP hS (cX10_isSheet_k ho1) hd_yX10_isSheet ml_X10_195 st_yX10_isSheet ⟨rfl, rfl⟩ ⟨by decide, by decide⟩ rfl hl.1 rfl (Nat.le_of_ble_eq_true rfl) ⟨Nat.zero_le _, Nat.zero_le _⟩ dX10_sheet_1 (fun H locs hP hS => ?_)
  refine lv_if_eq (tgt := 20) hx hb dX10_sheet_4 (by decide) (fun c4 => ?_) (fun c4 => ?_)
  · replace h := (if_pos c4).symm.trans h
    refine lv_iconst (v := (-1 : Int32)) hx hb dX10_sheet_20 (by decide) ?_
    obtain ⟨e1, e2⟩ := Prod.mk.inj (hret _ h)
    exact hR _ _ _ _ _ (congrArg some e1) rfl (by rw [e2]; exact hP) hS dX10_sheet_21
  · replace h := (if_neg c4).symm.trans h
    refine lv_iload_n hx hb dX10_sheet_7 rfl (lv_at hl 2 rfl) ?_
    obtain ⟨o5, ho5, h⟩ := Option.bind_eq_some_iff.mp h
    obtain ⟨v7, x6⟩ := o5
    replace h := un2_e h
    refine bq_callSi (As := [.int _]) S hK hD hA hP hS (cX10_isLane_k ho5) hd_yX10_isLane ml_X10_198 st_yX10_isLane ⟨rfl, rfl⟩ ⟨by decide, by decide⟩ rfl hl.1 rfl (Nat.le_of_ble_eq_true rfl) ⟨Nat.zero_le _, Nat.zero_le _⟩ dX10_sheet_8 (fun H locs hP hS => ?_)
    refine lv_if_eq (tgt := 20) hx hb dX10_sheet_11 (by decide) (fun c8 => ?_) (fun c8 => ?_)
    · replace h := (if_pos c8).symm.trans h
      refine lv_iconst (v := (-1 : Int32)) hx hb dX10_sheet_20 (by decide) ?_
      obtain ⟨e1, e2⟩ := Prod.mk.inj (hret _ h)
      exact hR _ _ _ _ _ (congrArg some e1) rfl (by rw [e2]; exact hP) hS dX10_sheet_21
    · replace h := (if_neg c8).symm.trans h
      refine lv_iload_n hx hb dX10_sheet_14 rfl (lv_at hl 3 rfl) ?_
      refine lv_bipush (v := (16 : Int32)) hx hb dX10_sheet_15 (by decide) ?_
      refine lv_icmp_le (tgt := 22) hx hb dX10_sheet_17 (by decide) (fun c9 => ?_) (fun c9 => ?_)
      · replace h := (if_pos c9).symm.trans h
        refine lv_iload_n hx hb dX10_sheet_22 rfl (lv_at hl 3 rfl) ?_
        refine lv_if_ge (tgt := 29) hx hb dX10_sheet_23 (by decide) (fun c10 => ?_) (fun c10 => ?_)
        · replace h := (if_pos c10).symm.trans h
          refine lv_aload_n hx hb dX10_sheet_29 rfl (lv_at hl 0 rfl) ?_
          refine bq_get (q0 := 0) S hK hP fl_X10_49_X10_22 rfl rfl rfl dX10_sheet_30 ?_
          refine lv_iload_n hx hb dX10_sheet_33 rfl (lv_at hl 1 rfl) ?_
          refine lv_iload_n hx hb dX10_sheet_34 rfl (lv_at hl 2 rfl) ?_
          obtain ⟨g12, h⟩ := bq_gd h
          obtain ⟨x11, hx11, h⟩ := bq_b h
          refine bq_iast (x1 := x11) (q0 := 14) (t0 := 0) S hK hD hP hS rfl rfl g12 (by rw [hx11]; rfl) dX10_sheet_35 (fun H locs hP hS => ?_)
          refine lv_aload_n hx hb dX10_sheet_36 rfl (lv_at hl 0 rfl) ?_
          refine bq_get (q0 := 0) S hK hP fl_X10_52_X10_23 rfl rfl rfl dX10_sheet_37 ?_
          refine lv_iload_n hx hb dX10_sheet_40 rfl (lv_at hl 1 rfl) ?_
          refine lv_iload_n hx hb dX10_sheet_41 rfl (lv_at hl 3 rfl) ?_
          obtain ⟨g14, h⟩ := bq_gd h
          obtain ⟨x13, hx13, h⟩ := bq_b h
          refine bq_iast (x1 := x13) (q0 := 15) (t0 := 0) S hK hD hP hS rfl rfl g14 (by rw [hx13]; rfl) dX10_sheet_42 (fun H locs hP hS => ?_)
          refine lv_iconst (v := (0 : Int32)) hx hb dX10_sheet_43 (by decide) ?_
          refine lv_istore (lv' := [(4, .int (0 : Int32)), (0, .ref (a 0)), (1, .int p1), (2, .int p2), (3, .int p3)]) hx hb dX10_sheet_44 hl (by decide) rfl (fun ls hl => ?_)
          have hl46 : ∀ (v15 : Int32) (v16 : Int32) (kf : Nat) (v17 : Int32) (x18 : bq_S) (eo : Int32 × bq_S) (H : Heap) (locs : List Loc) (ls : Array Slot), wh kf (fX10_sheet_b46 n v15 v16) (v17, x18) = some eo → va_P D bq_cl (bq_wM a k x18) H → va_S A s.heap H locs → lv_has ls 5 [(0, .ref (a 0)), (1, .int v15), (3, .int v16), (4, .int v17)] → (∀ (H : Heap) (locs : List Loc) (ls : Array Slot) (v24 : Int32) (x25 : bq_S), eo = (v24, x25) → va_P D bq_cl (bq_wM a k x25) H → va_S A s.heap H locs → lv_has ls 5 [(3, .int v16)] → W p l e { frames := 2, cells := 0, slots := 0, locals := 45 } s m [.ref (a 0), .int p1, .int p2, .int p3].toArray below meth c H locs 0 0 Q (F0 m 72 ls [])) → W p l e { frames := 2, cells := 0, slots := 0, locals := 45 } s m [.ref (a 0), .int p1, .int p2, .int p3].toArray below meth c H locs 0 0 Q (F0 m 46 ls []) := by
            intro v15 v16 kf
            induction kf with
            | zero => intro v17 x18 eo H locs ls h; cases h
            | succ kf ih =>
              intro v17 x18 eo H locs ls h hP hS hl kx
              obtain ⟨out, h, hw⟩ := wh_s h
              unfold fX10_sheet_b46 at h
              replace h := un2_e h
              refine lv_iload hx hb dX10_sheet_46 (lv_at hl 3 rfl) ?_
              refine lv_bipush (v := (16 : Int32)) hx hb dX10_sheet_48 (by decide) ?_
              refine lv_icmp_ge (tgt := 72) hx hb dX10_sheet_50 (by decide) (fun c19 => ?_) (fun c19 => ?_)
              · replace h := (if_pos c19).symm.trans h
                cases h
                exact kx _ _ _ _ _ (Option.some.inj hw).symm hP hS (lv_sub hl [2] rfl)
              · replace h := (if_neg c19).symm.trans h
                refine lv_aload_n hx hb dX10_sheet_53 rfl (lv_at hl 0 rfl) ?_
                refine bq_get (q0 := 0) S hK hP fl_X10_55_X10_24 rfl rfl rfl dX10_sheet_54 ?_
                refine lv_bipush (v := (16 : Int32)) hx hb dX10_sheet_57 (by decide) ?_
                refine lv_iload_n hx hb dX10_sheet_59 rfl (lv_at hl 1 rfl) ?_
                refine lv_imul hx hb dX10_sheet_60 ?_
                refine lv_iload hx hb dX10_sheet_61 (lv_at hl 3 rfl) ?_
                refine lv_iadd hx hb dX10_sheet_63 ?_
                refine lv_lconst (v := (0 : Int64)) hx hb dX10_sheet_64 (by decide) ?_
                obtain ⟨g21, h⟩ := bq_gd h
                obtain ⟨x20, hx20, h⟩ := bq_b h
                refine bq_last (x1 := x20) (q0 := 16) (t0 := 1) S hK hD hP hS rfl rfl g21 (by rw [hx20]; rfl) dX10_sheet_65 (fun H locs hP hS => ?_)
                obtain ⟨v22, hv22, h⟩ := bq_b h
                refine lv_iinc (v := v22) (lv' := [(4, .int v22), (0, .ref (a 0)), (1, .int v15), (3, .int v16)]) hx hb dX10_sheet_66 hl (k := 3) rfl (by rw [hv22]; rfl) (by decide) rfl (fun ls hl => ?_)
                refine lv_goto (tgt := 46) hx hb dX10_sheet_69 (by decide) ?_
                cases h
                exact ih _ _ _ _ _ _ hw hP hS (lv_sub hl [1, 2, 3, 0] rfl) kx
          obtain ⟨e23, he23, h⟩ := Option.bind_eq_some_iff.mp h
          refine hl46 _ _ n _ _ e23 _ _ _ he23 hP hS (lv_sub hl [1, 2, 4, 0] rfl) (fun H locs ls v24 x25 hz hP hS hl => ?_)
          subst hz
          replace h := un2_e h
          refine lv_iload_n hx hb dX10_sheet_72 rfl (lv_at hl 0 rfl) ?_
          obtain ⟨e1, e2⟩ := Prod.mk.inj (hret _ h)
          exact hR _ _ _ _ _ (congrArg some e1) rfl (by rw [e2]; exact hP) hS dX10_sheet_73
        · replace h := (if_neg c10).symm.trans h
          refine lv_bipush (v := (-14 : Int32)) hx hb dX10_sheet_26 (by decide) ?_
          obtain ⟨e1, e2⟩ := Prod.mk.inj (hret _ h)
          exact hR _ _ _ _ _ (congrArg some e1) rfl (by rw [e2]; exact hP) hS dX10_sheet_28
      · replace h := (if_neg c9).symm.trans h
        refine lv_iconst (v := (-1 : Int32)) hx hb dX10_sheet_20 (by decide) ?_
        obtain ⟨e1, e2⟩ := Prod.mk.inj (hret _ h)
        exact hR _ _ _ _ _ (congrArg some e1) rfl (by rw [e2]; exact hP) hS dX10_sheet_21
