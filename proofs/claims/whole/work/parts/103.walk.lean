def fX0_ofWhole_j35 (n : Nat) (v6 : Int32) (x7 : bq_S) : Option (Int32 × bq_S) :=
  if (x7.1 26 8) = (-1 : Int32) then
  some ((1 : Int32), x7)
  else
  (fX4_thicknessOf n 1 v6 x7).bind (fun o9 => un2 o9 (fun v11 x10 =>
  if v11 = (x10.1 26 8) then
  some ((1 : Int32), x10)
  else
  some ((0 : Int32), x10)))
def fX0_ofWhole (n : Nat) (p1 : Int32) (p2 : Int32) (x0 : bq_S) : Option (Int32 × bq_S) :=
  (fX9_has (x0.1 26 7) p2 x0).bind (fun o1 => un2 o1 (fun v3 x2 =>
  if v3 = 0 then
  some ((0 : Int32), x2)
  else
  if (x2.1 26 5) = 0 then
  fX0_ofWhole_j35 n p1 x2
  else
  (fX4_touches 1 p2 (x2.1 26 4) x2).bind (fun o13 => un2 o13 (fun v15 x14 =>
  if v15 = 0 then
  some ((0 : Int32), x14)
  else
  fX0_ofWhole_j35 n p1 x14))))
theorem dX0_ofWhole_0 : decode cX0_ofWhole 0 = .ok (.aload_n 0, 1) := by decide +kernel
theorem dX0_ofWhole_1 : decode cX0_ofWhole 1 = .ok (.getfield 15, 3) := by decide +kernel
theorem dX0_ofWhole_4 : decode cX0_ofWhole 4 = .ok (.iload_n 2, 1) := by decide +kernel
theorem dX0_ofWhole_5 : decode cX0_ofWhole 5 = .ok (.invokestatic 69, 3) := by decide +kernel
theorem dX0_ofWhole_8 : decode cX0_ofWhole 8 = .ok (.ifCond .eq 25, 3) := by decide +kernel
theorem dX0_ofWhole_11 : decode cX0_ofWhole 11 = .ok (.aload_n 0, 1) := by decide +kernel
theorem dX0_ofWhole_12 : decode cX0_ofWhole 12 = .ok (.getfield 90, 3) := by decide +kernel
theorem dX0_ofWhole_15 : decode cX0_ofWhole 15 = .ok (.ifCond .eq 20, 3) := by decide +kernel
theorem dX0_ofWhole_18 : decode cX0_ofWhole 18 = .ok (.aload_n 0, 1) := by decide +kernel
theorem dX0_ofWhole_19 : decode cX0_ofWhole 19 = .ok (.getfield 27, 3) := by decide +kernel
theorem dX0_ofWhole_22 : decode cX0_ofWhole 22 = .ok (.iload_n 2, 1) := by decide +kernel
theorem dX0_ofWhole_23 : decode cX0_ofWhole 23 = .ok (.aload_n 0, 1) := by decide +kernel
theorem dX0_ofWhole_24 : decode cX0_ofWhole 24 = .ok (.getfield 80, 3) := by decide +kernel
theorem dX0_ofWhole_27 : decode cX0_ofWhole 27 = .ok (.invokevirtual 94, 3) := by decide +kernel
theorem dX0_ofWhole_30 : decode cX0_ofWhole 30 = .ok (.ifCond .ne 5, 3) := by decide +kernel
theorem dX0_ofWhole_33 : decode cX0_ofWhole 33 = .ok (.iconst 0, 1) := by decide +kernel
theorem dX0_ofWhole_34 : decode cX0_ofWhole 34 = .ok (.ireturn, 1) := by decide +kernel
theorem dX0_ofWhole_35 : decode cX0_ofWhole 35 = .ok (.aload_n 0, 1) := by decide +kernel
theorem dX0_ofWhole_36 : decode cX0_ofWhole 36 = .ok (.getfield 18, 3) := by decide +kernel
theorem dX0_ofWhole_39 : decode cX0_ofWhole 39 = .ok (.iconst (-1), 1) := by decide +kernel
theorem dX0_ofWhole_40 : decode cX0_ofWhole 40 = .ok (.if_icmp .eq 18, 3) := by decide +kernel
theorem dX0_ofWhole_43 : decode cX0_ofWhole 43 = .ok (.aload_n 0, 1) := by decide +kernel
theorem dX0_ofWhole_44 : decode cX0_ofWhole 44 = .ok (.getfield 27, 3) := by decide +kernel
theorem dX0_ofWhole_47 : decode cX0_ofWhole 47 = .ok (.iload_n 1, 1) := by decide +kernel
theorem dX0_ofWhole_48 : decode cX0_ofWhole 48 = .ok (.invokevirtual 97, 3) := by decide +kernel
theorem dX0_ofWhole_51 : decode cX0_ofWhole 51 = .ok (.aload_n 0, 1) := by decide +kernel
theorem dX0_ofWhole_52 : decode cX0_ofWhole 52 = .ok (.getfield 18, 3) := by decide +kernel
theorem dX0_ofWhole_55 : decode cX0_ofWhole 55 = .ok (.if_icmp .ne 7, 3) := by decide +kernel
theorem dX0_ofWhole_58 : decode cX0_ofWhole 58 = .ok (.iconst 1, 1) := by decide +kernel
theorem dX0_ofWhole_59 : decode cX0_ofWhole 59 = .ok (.goto 4, 3) := by decide +kernel
theorem dX0_ofWhole_62 : decode cX0_ofWhole 62 = .ok (.iconst 0, 1) := by decide +kernel
theorem dX0_ofWhole_63 : decode cX0_ofWhole 63 = .ok (.ireturn, 1) := by decide +kernel
set_option maxHeartbeats 4000000 in
set_option maxRecDepth 100000 in
theorem cX0_ofWhole_k_26 {l : Launch} {D : va_G} {a : Nat → Nat} {k : Nat → ClassId} {n : Nat} {p1 : Int32} {p2 : Int32} {x0 xz : bq_S} {rz : Int32} (h : fX0_ofWhole n p1 p2 x0 = some (rz, xz)) : bq_M l D bq_cl (bq_ty k) (bq_wC a k) yX0_ofWhole cX0_ofWhole 3 (some .int) { frames := 2, cells := 0, slots := 0, locals := 44 } [.ref (a 26), .int p1, .int p2] x0 (some rz) xz := by
  refine bq_ofW RX0 [(0, .ref (a 26)), (1, .int p1), (2, .int p2)] (by decide +kernel) rfl (Nat.le_of_ble_eq_true rfl) rfl (bq_adC a k) ?_
  intro p e s m below meth c A Q ls S hK hD hA hR hS hP hl
  have hx := S.1; have hb := S.2.1; have hml := S.2.2.1; have hown := S.2.2.2.1; have hts := S.2.2.2.2
  have hret : ∀ z, some z = some (rz, xz) → (rz, xz) = z := fun z h => (Option.some.inj h).symm
  unfold fX0_ofWhole at h
  have hj35 : ∀ (v6 : Int32) (x7 : bq_S) (H : Heap) (locs : List Loc) (ls : Array Slot), fX0_ofWhole_j35 n v6 x7 = some (rz, xz) → va_P D bq_cl (bq_wC a k x7) H → va_S A s.heap H locs → lv_has ls 3 [(0, .ref (a 26)), (1, .int v6)] → W p l e { frames := 2, cells := 0, slots := 0, locals := 44 } s m [.ref (a 26), .int p1, .int p2].toArray below meth c H locs 0 0 Q (F0 m 35 ls []) := by
    intro v6 x7 H locs ls h hP hS hl
    unfold fX0_ofWhole_j35 at h
    refine lv_aload_n hx hb dX0_ofWhole_35 rfl (lv_at hl 0 rfl) ?_
    refine bq_get (q0 := 26) S hK hP fl_X0_18_X0_8 rfl rfl rfl dX0_ofWhole_36 ?_
    refine lv_iconst (v := (-1 : Int32)) hx hb dX0_ofWhole_39 (by decide) ?_
    refine lv_icmp_eq (tgt := 58) hx hb dX0_ofWhole_40 (by decide) (fun c8 => ?_) (fun c8 => ?_)
    · replace h := (if_pos c8).symm.trans h
      refine lv_iconst (v := (1 : Int32)) hx hb dX0_ofWhole_58 (by decide) ?_
      refine lv_goto (tgt := 63) hx hb dX0_ofWhole_59 (by decide) ?_
      obtain ⟨e1, e2⟩ := Prod.mk.inj (hret _ h)
      exact hR _ _ _ _ _ (congrArg some e1) rfl (by rw [e2]; exact hP) hS dX0_ofWhole_63
    · replace h := (if_neg c8).symm.trans h
      refine lv_aload_n hx hb dX0_ofWhole_43 rfl (lv_at hl 0 rfl) ?_
      refine bq_get (q0 := 26) S hK hP fl_X0_27_X0_0 rfl rfl rfl dX0_ofWhole_44 ?_
      refine lv_iload_n hx hb dX0_ofWhole_47 rfl (lv_at hl 1 rfl) ?_
      obtain ⟨o9, ho9, h⟩ := Option.bind_eq_some_iff.mp h
      obtain ⟨v11, x10⟩ := o9
      replace h := un2_e h
      refine bq_callVi (q0 := 1) (As := [.int _]) S hK hD hA hP hS (cX4_thicknessOf_k_1 ho9) hd_yX4_thicknessOf ml_X0_97 in_yX4_thicknessOf (hts _ sl_X4_X4_yX4_thicknessOf) ⟨rfl, rfl⟩ ⟨by decide, by decide⟩ rfl rfl rfl hl.1 rfl (Nat.le_of_ble_eq_true rfl) ⟨Nat.zero_le _, Nat.zero_le _⟩ dX0_ofWhole_48 (fun H locs hP hS => ?_)
      refine lv_aload_n hx hb dX0_ofWhole_51 rfl (lv_at hl 0 rfl) ?_
      refine bq_get (q0 := 26) S hK hP fl_X0_18_X0_8 rfl rfl rfl dX0_ofWhole_52 ?_
      refine lv_icmp_ne (tgt := 62) hx hb dX0_ofWhole_55 (by decide) (fun c12 => ?_) (fun c12 => ?_)
      · replace h := (if_neg c12).symm.trans h
        refine lv_iconst (v := (0 : Int32)) hx hb dX0_ofWhole_62 (by decide) ?_
        obtain ⟨e1, e2⟩ := Prod.mk.inj (hret _ h)
        exact hR _ _ _ _ _ (congrArg some e1) rfl (by rw [e2]; exact hP) hS dX0_ofWhole_63
      · replace h := (if_pos c12).symm.trans h
        refine lv_iconst (v := (1 : Int32)) hx hb dX0_ofWhole_58 (by decide) ?_
        refine lv_goto (tgt := 63) hx hb dX0_ofWhole_59 (by decide) ?_
        obtain ⟨e1, e2⟩ := Prod.mk.inj (hret _ h)
        exact hR _ _ _ _ _ (congrArg some e1) rfl (by rw [e2]; exact hP) hS dX0_ofWhole_63
  refine lv_aload_n hx hb dX0_ofWhole_0 rfl (lv_at hl 0 rfl) ?_
  refine bq_get (q0 := 26) S hK hP fl_X0_15_X0_7 rfl rfl rfl dX0_ofWhole_1 ?_
  refine lv_iload_n hx hb dX0_ofWhole_4 rfl (lv_at hl 2 rfl) ?_
  obtain ⟨o1, ho1, h⟩ := Option.bind_eq_some_iff.mp h
  obtain ⟨v3, x2⟩ := o1
  replace h := un2_e h
  refine bq_callSNi (As := [.int _, .int _]) S hK hD hA hP hS (cX9_has_k ho1) hd_yX9_has mn_X0_69 st_yX9_has ⟨rfl, rfl⟩ ⟨by decide, by decide⟩ rfl hl.1 rfl (Nat.le_of_ble_eq_true rfl) ⟨Nat.zero_le _, Nat.zero_le _⟩ dX0_ofWhole_5 (fun H locs hP hS => ?_)
  refine lv_if_eq (tgt := 33) hx hb dX0_ofWhole_8 (by decide) (fun c4 => ?_) (fun c4 => ?_)
  · replace h := (if_pos c4).symm.trans h
    refine lv_iconst (v := (0 : Int32)) hx hb dX0_ofWhole_33 (by decide) ?_
    obtain ⟨e1, e2⟩ := Prod.mk.inj (hret _ h)
    exact hR _ _ _ _ _ (congrArg some e1) rfl (by rw [e2]; exact hP) hS dX0_ofWhole_34
  · replace h := (if_neg c4).symm.trans h
    refine lv_aload_n hx hb dX0_ofWhole_11 rfl (lv_at hl 0 rfl) ?_
    refine bq_get (q0 := 26) S hK hP fl_X0_90_X0_5 rfl rfl rfl dX0_ofWhole_12 ?_
    refine lv_if_eq (tgt := 35) hx hb dX0_ofWhole_15 (by decide) (fun c5 => ?_) (fun c5 => ?_)
    · replace h := (if_pos c5).symm.trans h
      exact hj35 _ _ _ _ _ h hP hS (lv_sub hl [0, 1] rfl)
    · replace h := (if_neg c5).symm.trans h
      refine lv_aload_n hx hb dX0_ofWhole_18 rfl (lv_at hl 0 rfl) ?_
      refine bq_get (q0 := 26) S hK hP fl_X0_27_X0_0 rfl rfl rfl dX0_ofWhole_19 ?_
      refine lv_iload_n hx hb dX0_ofWhole_22 rfl (lv_at hl 2 rfl) ?_
      refine lv_aload_n hx hb dX0_ofWhole_23 rfl (lv_at hl 0 rfl) ?_
      refine bq_get (q0 := 26) S hK hP fl_X0_80_X0_4 rfl rfl rfl dX0_ofWhole_24 ?_
      obtain ⟨o13, ho13, h⟩ := Option.bind_eq_some_iff.mp h
      obtain ⟨v15, x14⟩ := o13
      replace h := un2_e h
      refine bq_callVi (q0 := 1) (As := [.int _, .int _]) S hK hD hA hP hS (cX4_touches_k_1 ho13) hd_yX4_touches ml_X0_94 in_yX4_touches (hts _ sl_X4_X4_yX4_touches) ⟨rfl, rfl⟩ ⟨by decide, by decide⟩ rfl rfl rfl hl.1 rfl (Nat.le_of_ble_eq_true rfl) ⟨Nat.zero_le _, Nat.zero_le _⟩ dX0_ofWhole_27 (fun H locs hP hS => ?_)
      refine lv_if_ne (tgt := 35) hx hb dX0_ofWhole_30 (by decide) (fun c16 => ?_) (fun c16 => ?_)
      · replace h := (if_neg c16).symm.trans h
        exact hj35 _ _ _ _ _ h hP hS (lv_sub hl [0, 1] rfl)
      · replace h := (if_pos c16).symm.trans h
        refine lv_iconst (v := (0 : Int32)) hx hb dX0_ofWhole_33 (by decide) ?_
        obtain ⟨e1, e2⟩ := Prod.mk.inj (hret _ h)
        exact hR _ _ _ _ _ (congrArg some e1) rfl (by rw [e2]; exact hP) hS dX0_ofWhole_34
def fX8X0_from_b54 (n : Nat) (v16 : Int32) (v17 : Int32) (v : Int32 × bq_S) : Option ((Int32 × bq_S) ⊕ (Int32 × bq_S)) :=
  un2 v (fun v18 x19 =>
  if (8 : Int32) ≤ v18 then
  some (.inr (v18, x19))
  else
  (fX9_has v16 v18 x19).bind (fun o21 => un2 o21 (fun v23 x22 =>
  if v23 = 0 then
  bd (v18 + (1 : Int32)) (fun v25 =>
  some (.inl (v25, x22)))
  else
  (fX8_index v16 v18 x22).bind (fun o26 => un2 o26 (fun v28 x27 =>
  if v17 = (x27.1 26 3) then
  (fX0_ofWhole n v16 v18 x27).bind (fun o36 => un2 o36 (fun v38 x37 =>
  if ok_i v28 2048 then
  bd (bq_sI x37 25 v28.toNatClampNeg v38) (fun x39 =>
  bd (v18 + (1 : Int32)) (fun v41 =>
  some (.inl (v41, x39))))
  else none))
  else
  (fX8X0_ofLonger n v16 v18 x27).bind (fun o30 => un2 o30 (fun v32 x31 =>
  if ok_i v28 2048 then
  bd (bq_sI x31 25 v28.toNatClampNeg v32) (fun x33 =>
  bd (v18 + (1 : Int32)) (fun v35 =>
  some (.inl (v35, x33))))
  else none)))))))
def fX8X0_from_b9 (n : Nat) (v : Int32 × bq_S) : Option ((Int32 × bq_S) ⊕ (Int32 × bq_S)) :=
  un2 v (fun v2 x3 =>
  if v2 ≤ 0 then
  some (.inr (v2, x3))
  else
  (fJ6_bitCount v2 x3).bind (fun o5 => un2 o5 (fun v7 x6 =>
  if (v2 &&& ((x6.1 26 2) ^^^ (-1 : Int32))) = 0 then
  (fX9_has v2 (x6.1 26 4) x6).bind (fun o10 => un2 o10 (fun v12 x11 =>
  if v12 = 0 then
  bd (v2 + (-1 : Int32)) (fun v14 =>
  some (.inl (v14, x11)))
  else
  if v7 ≤ (x11.1 26 3) then
  (wh n (fX8X0_from_b54 n v2 v7) ((0 : Int32), x11)).bind (fun e42 => un2 e42 (fun v43 x44 =>
  bd (v2 + (-1 : Int32)) (fun v45 =>
  some (.inl (v45, x44)))))
  else
  bd (v2 + (-1 : Int32)) (fun v46 =>
  some (.inl (v46, x11)))))
  else
  bd (v2 + (-1 : Int32)) (fun v9 =>
  some (.inl (v9, x6))))))
def fX8X0_from (n : Nat) (p1 : Int32) (x0 : bq_S) : Option (Int32 × bq_S) :=
  bd (bq_sI x0 26 4 p1) (fun x1 =>
  (wh n (fX8X0_from_b9 n) ((255 : Int32), x1)).bind (fun e47 => un2 e47 (fun v48 x49 =>
  (fX9_bit (x49.1 26 4) x49).bind (fun o50 => un2 o50 (fun v52 x51 =>
  (fX8_index v52 (x51.1 26 4) x51).bind (fun o53 => un2 o53 (fun v55 x54 =>
  if ok_i v55 2048 then
  some ((x54.1 25 v55.toNatClampNeg), x54)
  else none)))))))
theorem dX8_from_0 : decode cX8_from 0 = .ok (.aload_n 0, 1) := by decide +kernel
theorem dX8_from_1 : decode cX8_from 1 = .ok (.iload_n 1, 1) := by decide +kernel
theorem dX8_from_2 : decode cX8_from 2 = .ok (.putfield 26, 3) := by decide +kernel
theorem dX8_from_5 : decode cX8_from 5 = .ok (.sipush 255, 3) := by decide +kernel
theorem dX8_from_8 : decode cX8_from 8 = .ok (.istore_n 2, 1) := by decide +kernel
theorem dX8_from_9 : decode cX8_from 9 = .ok (.iload_n 2, 1) := by decide +kernel
theorem dX8_from_10 : decode cX8_from 10 = .ok (.ifCond .le 108, 3) := by decide +kernel
theorem dX8_from_13 : decode cX8_from 13 = .ok (.iload_n 2, 1) := by decide +kernel
theorem dX8_from_14 : decode cX8_from 14 = .ok (.invokestatic 33, 3) := by decide +kernel
theorem dX8_from_17 : decode cX8_from 17 = .ok (.istore_n 3, 1) := by decide +kernel
theorem dX8_from_18 : decode cX8_from 18 = .ok (.iload_n 2, 1) := by decide +kernel
theorem dX8_from_19 : decode cX8_from 19 = .ok (.aload_n 0, 1) := by decide +kernel
theorem dX8_from_20 : decode cX8_from 20 = .ok (.getfield 19, 3) := by decide +kernel
theorem dX8_from_23 : decode cX8_from 23 = .ok (.iconst (-1), 1) := by decide +kernel
theorem dX8_from_24 : decode cX8_from 24 = .ok (.ixor, 1) := by decide +kernel
theorem dX8_from_25 : decode cX8_from 25 = .ok (.iand, 1) := by decide +kernel
theorem dX8_from_26 : decode cX8_from 26 = .ok (.ifCond .ne 86, 3) := by decide +kernel
theorem dX8_from_29 : decode cX8_from 29 = .ok (.iload_n 2, 1) := by decide +kernel
theorem dX8_from_30 : decode cX8_from 30 = .ok (.aload_n 0, 1) := by decide +kernel
theorem dX8_from_31 : decode cX8_from 31 = .ok (.getfield 26, 3) := by decide +kernel
theorem dX8_from_34 : decode cX8_from 34 = .ok (.invokestatic 39, 3) := by decide +kernel
theorem dX8_from_37 : decode cX8_from 37 = .ok (.ifCond .eq 75, 3) := by decide +kernel
theorem dX8_from_40 : decode cX8_from 40 = .ok (.iload_n 3, 1) := by decide +kernel
theorem dX8_from_41 : decode cX8_from 41 = .ok (.aload_n 0, 1) := by decide +kernel
theorem dX8_from_42 : decode cX8_from 42 = .ok (.getfield 23, 3) := by decide +kernel
theorem dX8_from_45 : decode cX8_from 45 = .ok (.if_icmp .le 6, 3) := by decide +kernel
theorem dX8_from_48 : decode cX8_from 48 = .ok (.goto 64, 3) := by decide +kernel
theorem dX8_from_51 : decode cX8_from 51 = .ok (.iconst 0, 1) := by decide +kernel
theorem dX8_from_52 : decode cX8_from 52 = .ok (.istore 4, 2) := by decide +kernel
theorem dX8_from_54 : decode cX8_from 54 = .ok (.iload 4, 2) := by decide +kernel
theorem dX8_from_56 : decode cX8_from 56 = .ok (.bipush 8, 2) := by decide +kernel
theorem dX8_from_58 : decode cX8_from 58 = .ok (.if_icmp .ge 54, 3) := by decide +kernel
theorem dX8_from_61 : decode cX8_from 61 = .ok (.iload_n 2, 1) := by decide +kernel
theorem dX8_from_62 : decode cX8_from 62 = .ok (.iload 4, 2) := by decide +kernel
theorem dX8_from_64 : decode cX8_from 64 = .ok (.invokestatic 39, 3) := by decide +kernel
theorem dX8_from_67 : decode cX8_from 67 = .ok (.ifCond .eq 39, 3) := by decide +kernel
theorem dX8_from_70 : decode cX8_from 70 = .ok (.aload_n 0, 1) := by decide +kernel
theorem dX8_from_71 : decode cX8_from 71 = .ok (.getfield 15, 3) := by decide +kernel
theorem dX8_from_74 : decode cX8_from 74 = .ok (.iload_n 2, 1) := by decide +kernel
theorem dX8_from_75 : decode cX8_from 75 = .ok (.iload 4, 2) := by decide +kernel
theorem dX8_from_77 : decode cX8_from 77 = .ok (.invokestatic 43, 3) := by decide +kernel
theorem dX8_from_80 : decode cX8_from 80 = .ok (.iload_n 3, 1) := by decide +kernel
theorem dX8_from_81 : decode cX8_from 81 = .ok (.aload_n 0, 1) := by decide +kernel
theorem dX8_from_82 : decode cX8_from 82 = .ok (.getfield 23, 3) := by decide +kernel
theorem dX8_from_85 : decode cX8_from 85 = .ok (.if_icmp .ne 13, 3) := by decide +kernel
theorem dX8_from_88 : decode cX8_from 88 = .ok (.aload_n 0, 1) := by decide +kernel
theorem dX8_from_89 : decode cX8_from 89 = .ok (.iload_n 2, 1) := by decide +kernel
theorem dX8_from_90 : decode cX8_from 90 = .ok (.iload 4, 2) := by decide +kernel
theorem dX8_from_92 : decode cX8_from 92 = .ok (.invokevirtual 47, 3) := by decide +kernel
theorem dX8_from_95 : decode cX8_from 95 = .ok (.goto 10, 3) := by decide +kernel
theorem dX8_from_98 : decode cX8_from 98 = .ok (.aload_n 0, 1) := by decide +kernel
theorem dX8_from_99 : decode cX8_from 99 = .ok (.iload_n 2, 1) := by decide +kernel
theorem dX8_from_100 : decode cX8_from 100 = .ok (.iload 4, 2) := by decide +kernel
theorem dX8_from_102 : decode cX8_from 102 = .ok (.invokevirtual 50, 3) := by decide +kernel
theorem dX8_from_105 : decode cX8_from 105 = .ok (.iastore, 1) := by decide +kernel
theorem dX8_from_106 : decode cX8_from 106 = .ok (.iinc 4 1, 3) := by decide +kernel
theorem dX8_from_109 : decode cX8_from 109 = .ok (.goto (-55), 3) := by decide +kernel
theorem dX8_from_112 : decode cX8_from 112 = .ok (.iinc 2 (-1), 3) := by decide +kernel
theorem dX8_from_115 : decode cX8_from 115 = .ok (.goto (-106), 3) := by decide +kernel
theorem dX8_from_118 : decode cX8_from 118 = .ok (.aload_n 0, 1) := by decide +kernel
theorem dX8_from_119 : decode cX8_from 119 = .ok (.getfield 15, 3) := by decide +kernel
theorem dX8_from_122 : decode cX8_from 122 = .ok (.aload_n 0, 1) := by decide +kernel
theorem dX8_from_123 : decode cX8_from 123 = .ok (.getfield 26, 3) := by decide +kernel
theorem dX8_from_126 : decode cX8_from 126 = .ok (.invokestatic 53, 3) := by decide +kernel
theorem dX8_from_129 : decode cX8_from 129 = .ok (.aload_n 0, 1) := by decide +kernel
theorem dX8_from_130 : decode cX8_from 130 = .ok (.getfield 26, 3) := by decide +kernel
theorem dX8_from_133 : decode cX8_from 133 = .ok (.invokestatic 43, 3) := by decide +kernel
theorem dX8_from_136 : decode cX8_from 136 = .ok (.iaload, 1) := by decide +kernel
theorem dX8_from_137 : decode cX8_from 137 = .ok (.ireturn, 1) := by decide +kernel
set_option maxHeartbeats 4000000 in
set_option maxRecDepth 100000 in
theorem cX8X0_from_k_26 {l : Launch} {D : va_G} {a : Nat → Nat} {k : Nat → ClassId} {n : Nat} {p1 : Int32} {x0 xz : bq_S} {rz : Int32} (h : fX8X0_from n p1 x0 = some (rz, xz)) : bq_M l D bq_cl (bq_ty k) (bq_wC a k) yX8_from cX8_from 5 (some .int) { frames := 3, cells := 0, slots := 0, locals := 70 } [.ref (a 26), .int p1] x0 (some rz) xz := by
  refine bq_ofW RX8 [(0, .ref (a 26)), (1, .int p1)] (by decide +kernel) rfl (Nat.le_of_ble_eq_true rfl) rfl (bq_adC a k) ?_
  intro p e s m below meth c A Q ls S hK hD hA hR hS hP hl
  have hx := S.1; have hb := S.2.1; have hml := S.2.2.1; have hown := S.2.2.2.1; have hts := S.2.2.2.2
  have hret : ∀ z, some z = some (rz, xz) → (rz, xz) = z := fun z h => (Option.some.inj h).symm
  unfold fX8X0_from at h
  refine lv_aload_n hx hb dX8_from_0 rfl (lv_at hl 0 rfl) ?_
  refine lv_iload_n hx hb dX8_from_1 rfl (lv_at hl 1 rfl) ?_
  obtain ⟨x1, hx1, h⟩ := bq_b h
  refine bq_put (x1 := x1) (q0 := 26) (ty := .int) S hK hD hP hS fl_X8_26_X0_4 bt_X0 rfl (by decide +kernel) rfl rfl (Nat.le_of_ble_eq_true rfl) rfl rfl (by rw [hx1]; rfl) dX8_from_2 (fun H locs hP hS => ?_)
  refine lv_sipush (v := (255 : Int32)) hx hb dX8_from_5 (by decide) ?_
  refine lv_istore_n (lv' := [(2, .int (255 : Int32)), (0, .ref (a 26)), (1, .int p1)]) hx hb dX8_from_8 rfl hl (by decide) rfl (fun ls hl => ?_)
  have hl9 : ∀ (kf : Nat) (v2 : Int32) (x3 : bq_S) (eo : Int32 × bq_S) (H : Heap) (locs : List Loc) (ls : Array Slot), wh kf (fX8X0_from_b9 n ) (v2, x3) = some eo → va_P D bq_cl (bq_wC a k x3) H → va_S A s.heap H locs → lv_has ls 5 [(0, .ref (a 26)), (2, .int v2)] → (∀ (H : Heap) (locs : List Loc) (ls : Array Slot) (v48 : Int32) (x49 : bq_S), eo = (v48, x49) → va_P D bq_cl (bq_wC a k x49) H → va_S A s.heap H locs → lv_has ls 5 [(0, .ref (a 26))] → W p l e { frames := 3, cells := 0, slots := 0, locals := 70 } s m [.ref (a 26), .int p1].toArray below meth c H locs 0 0 Q (F0 m 118 ls [])) → W p l e { frames := 3, cells := 0, slots := 0, locals := 70 } s m [.ref (a 26), .int p1].toArray below meth c H locs 0 0 Q (F0 m 9 ls []) := by
    intro  kf
    induction kf with
    | zero => intro v2 x3 eo H locs ls h; cases h
    | succ kf ih =>
      intro v2 x3 eo H locs ls h hP hS hl kx
      obtain ⟨out, h, hw⟩ := wh_s h
      unfold fX8X0_from_b9 at h
      replace h := un2_e h
      refine lv_iload_n hx hb dX8_from_9 rfl (lv_at hl 1 rfl) ?_
      refine lv_if_le (tgt := 118) hx hb dX8_from_10 (by decide) (fun c4 => ?_) (fun c4 => ?_)
      · replace h := (if_pos c4).symm.trans h
        cases h
        exact kx _ _ _ _ _ (Option.some.inj hw).symm hP hS (lv_sub hl [0] rfl)
      · replace h := (if_neg c4).symm.trans h
        refine lv_iload_n hx hb dX8_from_13 rfl (lv_at hl 1 rfl) ?_
        obtain ⟨o5, ho5, h⟩ := Option.bind_eq_some_iff.mp h
        obtain ⟨v7, x6⟩ := o5
        replace h := un2_e h
        refine bq_callSi (As := [.int _]) S hK hD hA hP hS (cJ6_bitCount_k ho5) hd_yJ6_bitCount_0f7a4 ml_X8_33 st_yJ6_bitCount_0f7a4 ⟨rfl, rfl⟩ ⟨by decide, by decide⟩ rfl hl.1 rfl (Nat.le_of_ble_eq_true rfl) ⟨Nat.zero_le _, Nat.zero_le _⟩ dX8_from_14 (fun H locs hP hS => ?_)
        refine lv_istore_n (lv' := [(3, .int v7), (0, .ref (a 26)), (2, .int v2)]) hx hb dX8_from_17 rfl hl (by decide) rfl (fun ls hl => ?_)
        refine lv_iload_n hx hb dX8_from_18 rfl (lv_at hl 2 rfl) ?_
        refine lv_aload_n hx hb dX8_from_19 rfl (lv_at hl 1 rfl) ?_
        refine bq_get (q0 := 26) S hK hP fl_X8_19_X0_2 rfl rfl rfl dX8_from_20 ?_
        refine lv_iconst (v := (-1 : Int32)) hx hb dX8_from_23 (by decide) ?_
        refine lv_ixor hx hb dX8_from_24 ?_
        refine lv_iand hx hb dX8_from_25 ?_
        refine lv_if_ne (tgt := 112) hx hb dX8_from_26 (by decide) (fun c8 => ?_) (fun c8 => ?_)
        · replace h := (if_neg c8).symm.trans h
          obtain ⟨v9, hv9, h⟩ := bq_b h
          refine lv_iinc (v := v9) (lv' := [(2, .int v9), (3, .int v7), (0, .ref (a 26))]) hx hb dX8_from_112 hl (k := 2) rfl (by rw [hv9]; rfl) (by decide) rfl (fun ls hl => ?_)
          refine lv_goto (tgt := 9) hx hb dX8_from_115 (by decide) ?_
          cases h
          exact ih _ _ _ _ _ _ hw hP hS (lv_sub hl [2, 0] rfl) kx
        · replace h := (if_pos c8).symm.trans h
          refine lv_iload_n hx hb dX8_from_29 rfl (lv_at hl 2 rfl) ?_
          refine lv_aload_n hx hb dX8_from_30 rfl (lv_at hl 1 rfl) ?_
          refine bq_get (q0 := 26) S hK hP fl_X8_26_X0_4 rfl rfl rfl dX8_from_31 ?_
          obtain ⟨o10, ho10, h⟩ := Option.bind_eq_some_iff.mp h
          obtain ⟨v12, x11⟩ := o10
          replace h := un2_e h
          refine bq_callSNi (As := [.int _, .int _]) S hK hD hA hP hS (cX9_has_k ho10) hd_yX9_has mn_X8_39 st_yX9_has ⟨rfl, rfl⟩ ⟨by decide, by decide⟩ rfl hl.1 rfl (Nat.le_of_ble_eq_true rfl) ⟨Nat.zero_le _, Nat.zero_le _⟩ dX8_from_34 (fun H locs hP hS => ?_)
          refine lv_if_eq (tgt := 112) hx hb dX8_from_37 (by decide) (fun c13 => ?_) (fun c13 => ?_)
          · replace h := (if_pos c13).symm.trans h
            obtain ⟨v14, hv14, h⟩ := bq_b h
            refine lv_iinc (v := v14) (lv' := [(2, .int v14), (3, .int v7), (0, .ref (a 26))]) hx hb dX8_from_112 hl (k := 2) rfl (by rw [hv14]; rfl) (by decide) rfl (fun ls hl => ?_)
            refine lv_goto (tgt := 9) hx hb dX8_from_115 (by decide) ?_
            cases h
            exact ih _ _ _ _ _ _ hw hP hS (lv_sub hl [2, 0] rfl) kx
          · replace h := (if_neg c13).symm.trans h
            refine lv_iload_n hx hb dX8_from_40 rfl (lv_at hl 0 rfl) ?_
            refine lv_aload_n hx hb dX8_from_41 rfl (lv_at hl 1 rfl) ?_
            refine bq_get (q0 := 26) S hK hP fl_X8_23_X0_3 rfl rfl rfl dX8_from_42 ?_
            refine lv_icmp_le (tgt := 51) hx hb dX8_from_45 (by decide) (fun c15 => ?_) (fun c15 => ?_)
            · replace h := (if_pos c15).symm.trans h
              refine lv_iconst (v := (0 : Int32)) hx hb dX8_from_51 (by decide) ?_
              refine lv_istore (lv' := [(4, .int (0 : Int32)), (3, .int v7), (0, .ref (a 26)), (2, .int v2)]) hx hb dX8_from_52 hl (by decide) rfl (fun ls hl => ?_)
              have hl54 : ∀ (v16 : Int32) (v17 : Int32) (kf : Nat) (v18 : Int32) (x19 : bq_S) (eo : Int32 × bq_S) (H : Heap) (locs : List Loc) (ls : Array Slot), wh kf (fX8X0_from_b54 n v16 v17) (v18, x19) = some eo → va_P D bq_cl (bq_wC a k x19) H → va_S A s.heap H locs → lv_has ls 5 [(0, .ref (a 26)), (2, .int v16), (3, .int v17), (4, .int v18)] → (∀ (H : Heap) (locs : List Loc) (ls : Array Slot) (v43 : Int32) (x44 : bq_S), eo = (v43, x44) → va_P D bq_cl (bq_wC a k x44) H → va_S A s.heap H locs → lv_has ls 5 [(0, .ref (a 26)), (2, .int v16)] → W p l e { frames := 3, cells := 0, slots := 0, locals := 70 } s m [.ref (a 26), .int p1].toArray below meth c H locs 0 0 Q (F0 m 112 ls [])) → W p l e { frames := 3, cells := 0, slots := 0, locals := 70 } s m [.ref (a 26), .int p1].toArray below meth c H locs 0 0 Q (F0 m 54 ls []) := by
                intro v16 v17 kf
                induction kf with
                | zero => intro v18 x19 eo H locs ls h; cases h
                | succ kf ih =>
                  intro v18 x19 eo H locs ls h hP hS hl kx
                  obtain ⟨out, h, hw⟩ := wh_s h
                  unfold fX8X0_from_b54 at h
                  replace h := un2_e h
                  refine lv_iload hx hb dX8_from_54 (lv_at hl 3 rfl) ?_
                  refine lv_bipush (v := (8 : Int32)) hx hb dX8_from_56 (by decide) ?_
                  refine lv_icmp_ge (tgt := 112) hx hb dX8_from_58 (by decide) (fun c20 => ?_) (fun c20 => ?_)
                  · replace h := (if_pos c20).symm.trans h
                    cases h
                    exact kx _ _ _ _ _ (Option.some.inj hw).symm hP hS (lv_sub hl [0, 1] rfl)
                  · replace h := (if_neg c20).symm.trans h
                    refine lv_iload_n hx hb dX8_from_61 rfl (lv_at hl 1 rfl) ?_
                    refine lv_iload hx hb dX8_from_62 (lv_at hl 3 rfl) ?_
                    obtain ⟨o21, ho21, h⟩ := Option.bind_eq_some_iff.mp h
                    obtain ⟨v23, x22⟩ := o21
                    replace h := un2_e h
                    refine bq_callSNi (As := [.int _, .int _]) S hK hD hA hP hS (cX9_has_k ho21) hd_yX9_has mn_X8_39 st_yX9_has ⟨rfl, rfl⟩ ⟨by decide, by decide⟩ rfl hl.1 rfl (Nat.le_of_ble_eq_true rfl) ⟨Nat.zero_le _, Nat.zero_le _⟩ dX8_from_64 (fun H locs hP hS => ?_)
                    refine lv_if_eq (tgt := 106) hx hb dX8_from_67 (by decide) (fun c24 => ?_) (fun c24 => ?_)
                    · replace h := (if_pos c24).symm.trans h
                      obtain ⟨v25, hv25, h⟩ := bq_b h
                      refine lv_iinc (v := v25) (lv' := [(4, .int v25), (0, .ref (a 26)), (2, .int v16), (3, .int v17)]) hx hb dX8_from_106 hl (k := 3) rfl (by rw [hv25]; rfl) (by decide) rfl (fun ls hl => ?_)
                      refine lv_goto (tgt := 54) hx hb dX8_from_109 (by decide) ?_
                      cases h
                      exact ih _ _ _ _ _ _ hw hP hS (lv_sub hl [1, 2, 3, 0] rfl) kx
                    · replace h := (if_neg c24).symm.trans h
                      refine lv_aload_n hx hb dX8_from_70 rfl (lv_at hl 0 rfl) ?_
                      refine bq_get (q0 := 26) S hK hP fl_X8_15_X0_1 rfl rfl rfl dX8_from_71 ?_
                      refine lv_iload_n hx hb dX8_from_74 rfl (lv_at hl 1 rfl) ?_
                      refine lv_iload hx hb dX8_from_75 (lv_at hl 3 rfl) ?_
                      obtain ⟨o26, ho26, h⟩ := Option.bind_eq_some_iff.mp h
                      obtain ⟨v28, x27⟩ := o26
                      replace h := un2_e h
                      refine bq_callSi (As := [.int _, .int _]) S hK hD hA hP hS (cX8_index_k ho26) hd_yX8_index ml_X8_43 st_yX8_index ⟨rfl, rfl⟩ ⟨by decide, by decide⟩ rfl hl.1 rfl (Nat.le_of_ble_eq_true rfl) ⟨Nat.zero_le _, Nat.zero_le _⟩ dX8_from_77 (fun H locs hP hS => ?_)
                      refine lv_iload_n hx hb dX8_from_80 rfl (lv_at hl 2 rfl) ?_
                      refine lv_aload_n hx hb dX8_from_81 rfl (lv_at hl 0 rfl) ?_
                      refine bq_get (q0 := 26) S hK hP fl_X8_23_X0_3 rfl rfl rfl dX8_from_82 ?_
                      refine lv_icmp_ne (tgt := 98) hx hb dX8_from_85 (by decide) (fun c29 => ?_) (fun c29 => ?_)
                      · replace h := (if_neg c29).symm.trans h
                        refine lv_aload_n hx hb dX8_from_98 rfl (lv_at hl 0 rfl) ?_
                        refine lv_iload_n hx hb dX8_from_99 rfl (lv_at hl 1 rfl) ?_
                        refine lv_iload hx hb dX8_from_100 (lv_at hl 3 rfl) ?_
                        obtain ⟨o30, ho30, h⟩ := Option.bind_eq_some_iff.mp h
                        obtain ⟨v32, x31⟩ := o30
                        replace h := un2_e h
                        refine bq_callVi (q0 := 26) (As := [.int _, .int _]) S hK hD hA hP hS (cX8X0_ofLonger_k_26 ho30) hd_yX8_ofLonger ml_X8_50 in_yX8_ofLonger (hts _ sl_X0_X8_yX8_ofLonger) ⟨rfl, rfl⟩ ⟨by decide, by decide⟩ rfl rfl rfl hl.1 rfl (Nat.le_of_ble_eq_true rfl) ⟨Nat.zero_le _, Nat.zero_le _⟩ dX8_from_102 (fun H locs hP hS => ?_)
                        obtain ⟨g34, h⟩ := bq_gd h
                        obtain ⟨x33, hx33, h⟩ := bq_b h
                        refine bq_iast (x1 := x33) (q0 := 25) (t0 := 0) S hK hD hP hS rfl rfl g34 (by rw [hx33]; rfl) dX8_from_105 (fun H locs hP hS => ?_)
                        obtain ⟨v35, hv35, h⟩ := bq_b h
                        refine lv_iinc (v := v35) (lv' := [(4, .int v35), (0, .ref (a 26)), (2, .int v16), (3, .int v17)]) hx hb dX8_from_106 hl (k := 3) rfl (by rw [hv35]; rfl) (by decide) rfl (fun ls hl => ?_)
                        refine lv_goto (tgt := 54) hx hb dX8_from_109 (by decide) ?_
                        cases h
                        exact ih _ _ _ _ _ _ hw hP hS (lv_sub hl [1, 2, 3, 0] rfl) kx
                      · replace h := (if_pos c29).symm.trans h
                        refine lv_aload_n hx hb dX8_from_88 rfl (lv_at hl 0 rfl) ?_
                        refine lv_iload_n hx hb dX8_from_89 rfl (lv_at hl 1 rfl) ?_
                        refine lv_iload hx hb dX8_from_90 (lv_at hl 3 rfl) ?_
                        obtain ⟨o36, ho36, h⟩ := Option.bind_eq_some_iff.mp h
                        obtain ⟨v38, x37⟩ := o36
                        replace h := un2_e h
                        refine bq_callUi (q0 := 26) (owner := "BesideQuotes$Ways") (As := [.int _, .int _]) S hK hD hA hP hS (cX0_ofWhole_k_26 ho36) hd_yX0_ofWhole ml_X8_47 in_yX0_ofWhole (hts _ sl_X0_X8_yX0_ofWhole) sm_X8_ofWhole dc_X8_ofWhole (by decide +kernel) ⟨rfl, rfl⟩ ⟨by decide, by decide⟩ rfl rfl rfl hl.1 rfl (Nat.le_of_ble_eq_true rfl) ⟨Nat.zero_le _, Nat.zero_le _⟩ dX8_from_92 (fun H locs hP hS => ?_)
                        refine lv_goto (tgt := 105) hx hb dX8_from_95 (by decide) ?_
                        obtain ⟨g40, h⟩ := bq_gd h
                        obtain ⟨x39, hx39, h⟩ := bq_b h
                        refine bq_iast (x1 := x39) (q0 := 25) (t0 := 0) S hK hD hP hS rfl rfl g40 (by rw [hx39]; rfl) dX8_from_105 (fun H locs hP hS => ?_)
                        obtain ⟨v41, hv41, h⟩ := bq_b h
                        refine lv_iinc (v := v41) (lv' := [(4, .int v41), (0, .ref (a 26)), (2, .int v16), (3, .int v17)]) hx hb dX8_from_106 hl (k := 3) rfl (by rw [hv41]; rfl) (by decide) rfl (fun ls hl => ?_)
                        refine lv_goto (tgt := 54) hx hb dX8_from_109 (by decide) ?_
                        cases h
                        exact ih _ _ _ _ _ _ hw hP hS (lv_sub hl [1, 2, 3, 0] rfl) kx
              obtain ⟨e42, he42, h⟩ := Option.bind_eq_some_iff.mp h
              refine hl54 _ _ n _ _ e42 _ _ _ he42 hP hS (lv_sub hl [2, 3, 1, 0] rfl) (fun H locs ls v43 x44 hz hP hS hl => ?_)
              subst hz
              replace h := un2_e h
              obtain ⟨v45, hv45, h⟩ := bq_b h
              refine lv_iinc (v := v45) (lv' := [(2, .int v45), (0, .ref (a 26))]) hx hb dX8_from_112 hl (k := 1) rfl (by rw [hv45]; rfl) (by decide) rfl (fun ls hl => ?_)
              refine lv_goto (tgt := 9) hx hb dX8_from_115 (by decide) ?_
              cases h
              exact ih _ _ _ _ _ _ hw hP hS (lv_sub hl [1, 0] rfl) kx
            · replace h := (if_neg c15).symm.trans h
              refine lv_goto (tgt := 112) hx hb dX8_from_48 (by decide) ?_
              obtain ⟨v46, hv46, h⟩ := bq_b h
              refine lv_iinc (v := v46) (lv' := [(2, .int v46), (3, .int v7), (0, .ref (a 26))]) hx hb dX8_from_112 hl (k := 2) rfl (by rw [hv46]; rfl) (by decide) rfl (fun ls hl => ?_)
              refine lv_goto (tgt := 9) hx hb dX8_from_115 (by decide) ?_
              cases h
              exact ih _ _ _ _ _ _ hw hP hS (lv_sub hl [2, 0] rfl) kx
  obtain ⟨e47, he47, h⟩ := Option.bind_eq_some_iff.mp h
  refine hl9 n _ _ e47 _ _ _ he47 hP hS (lv_sub hl [1, 0] rfl) (fun H locs ls v48 x49 hz hP hS hl => ?_)
  subst hz
  replace h := un2_e h
  refine lv_aload_n hx hb dX8_from_118 rfl (lv_at hl 0 rfl) ?_
  refine bq_get (q0 := 26) S hK hP fl_X8_15_X0_1 rfl rfl rfl dX8_from_119 ?_
  refine lv_aload_n hx hb dX8_from_122 rfl (lv_at hl 0 rfl) ?_
  refine bq_get (q0 := 26) S hK hP fl_X8_26_X0_4 rfl rfl rfl dX8_from_123 ?_
  obtain ⟨o50, ho50, h⟩ := Option.bind_eq_some_iff.mp h
  obtain ⟨v52, x51⟩ := o50
  replace h := un2_e h
  refine bq_callSNi (As := [.int _]) S hK hD hA hP hS (cX9_bit_k ho50) hd_yX9_bit mn_X8_53 st_yX9_bit ⟨rfl, rfl⟩ ⟨by decide, by decide⟩ rfl hl.1 rfl (Nat.le_of_ble_eq_true rfl) ⟨Nat.zero_le _, Nat.zero_le _⟩ dX8_from_126 (fun H locs hP hS => ?_)
  refine lv_aload_n hx hb dX8_from_129 rfl (lv_at hl 0 rfl) ?_
  refine bq_get (q0 := 26) S hK hP fl_X8_26_X0_4 rfl rfl rfl dX8_from_130 ?_
  obtain ⟨o53, ho53, h⟩ := Option.bind_eq_some_iff.mp h
  obtain ⟨v55, x54⟩ := o53
  replace h := un2_e h
  refine bq_callSi (As := [.int _, .int _]) S hK hD hA hP hS (cX8_index_k ho53) hd_yX8_index ml_X8_43 st_yX8_index ⟨rfl, rfl⟩ ⟨by decide, by decide⟩ rfl hl.1 rfl (Nat.le_of_ble_eq_true rfl) ⟨Nat.zero_le _, Nat.zero_le _⟩ dX8_from_133 (fun H locs hP hS => ?_)
  obtain ⟨g56, h⟩ := bq_gd h
  refine va_iald (D := D) hx hb hK hP 25 0 rfl rfl g56 dX8_from_136 ?_
  obtain ⟨e1, e2⟩ := Prod.mk.inj (hret _ h)
  exact hR _ _ _ _ _ (congrArg some e1) rfl (by rw [e2]; exact hP) hS dX8_from_137
def fX0_total_b13 (n : Nat) (v : Int32 × Int32 × bq_S) : Option ((Int32 × Int32 × bq_S) ⊕ (Int32 × Int32 × bq_S)) :=
  un3 v (fun v2 v3 x4 =>
  if (8 : Int32) ≤ v3 then
  some (.inr (v2, v3, x4))
  else
  (fX9_has ((x4.1 26 2) &&& (x4.1 26 6)) v3 x4).bind (fun o6 => un2 o6 (fun v8 x7 =>
  if v8 = 0 then
  bd (v3 + (1 : Int32)) (fun v10 =>
  some (.inl (v2, v10, x7)))
  else
  (fX8X0_from n v3 x7).bind (fun o11 => un2 o11 (fun v13 x12 =>
  bd (v2 + v13) (fun v14 =>
  bd (v3 + (1 : Int32)) (fun v15 =>
  some (.inl (v14, v15, x12)))))))))
def fX0_total (n : Nat) (x0 : bq_S) : Option (Int32 × bq_S) :=
  if (x0.1 26 3) = 0 then
  some ((1 : Int32), x0)
  else
  (wh n (fX0_total_b13 n) ((0 : Int32), (0 : Int32), x0)).bind (fun e16 => un3 e16 (fun v17 v18 x19 =>
  some (v17, x19)))
theorem dX0_total_0 : decode cX0_total 0 = .ok (.aload_n 0, 1) := by decide +kernel
theorem dX0_total_1 : decode cX0_total 1 = .ok (.getfield 63, 3) := by decide +kernel
theorem dX0_total_4 : decode cX0_total 4 = .ok (.ifCond .ne 5, 3) := by decide +kernel
theorem dX0_total_7 : decode cX0_total 7 = .ok (.iconst 1, 1) := by decide +kernel
theorem dX0_total_8 : decode cX0_total 8 = .ok (.ireturn, 1) := by decide +kernel
theorem dX0_total_9 : decode cX0_total 9 = .ok (.iconst 0, 1) := by decide +kernel
theorem dX0_total_10 : decode cX0_total 10 = .ok (.istore_n 1, 1) := by decide +kernel
theorem dX0_total_11 : decode cX0_total 11 = .ok (.iconst 0, 1) := by decide +kernel
theorem dX0_total_12 : decode cX0_total 12 = .ok (.istore_n 2, 1) := by decide +kernel
theorem dX0_total_13 : decode cX0_total 13 = .ok (.iload_n 2, 1) := by decide +kernel
theorem dX0_total_14 : decode cX0_total 14 = .ok (.bipush 8, 2) := by decide +kernel
theorem dX0_total_16 : decode cX0_total 16 = .ok (.if_icmp .ge 33, 3) := by decide +kernel
theorem dX0_total_19 : decode cX0_total 19 = .ok (.aload_n 0, 1) := by decide +kernel
theorem dX0_total_20 : decode cX0_total 20 = .ok (.getfield 66, 3) := by decide +kernel
theorem dX0_total_23 : decode cX0_total 23 = .ok (.aload_n 0, 1) := by decide +kernel
theorem dX0_total_24 : decode cX0_total 24 = .ok (.getfield 9, 3) := by decide +kernel
theorem dX0_total_27 : decode cX0_total 27 = .ok (.iand, 1) := by decide +kernel
theorem dX0_total_28 : decode cX0_total 28 = .ok (.iload_n 2, 1) := by decide +kernel
theorem dX0_total_29 : decode cX0_total 29 = .ok (.invokestatic 69, 3) := by decide +kernel
theorem dX0_total_32 : decode cX0_total 32 = .ok (.ifCond .eq 11, 3) := by decide +kernel
theorem dX0_total_35 : decode cX0_total 35 = .ok (.iload_n 1, 1) := by decide +kernel
theorem dX0_total_36 : decode cX0_total 36 = .ok (.aload_n 0, 1) := by decide +kernel
theorem dX0_total_37 : decode cX0_total 37 = .ok (.iload_n 2, 1) := by decide +kernel
theorem dX0_total_38 : decode cX0_total 38 = .ok (.invokevirtual 73, 3) := by decide +kernel
theorem dX0_total_41 : decode cX0_total 41 = .ok (.iadd, 1) := by decide +kernel
theorem dX0_total_42 : decode cX0_total 42 = .ok (.istore_n 1, 1) := by decide +kernel
theorem dX0_total_43 : decode cX0_total 43 = .ok (.iinc 2 1, 3) := by decide +kernel
theorem dX0_total_46 : decode cX0_total 46 = .ok (.goto (-33), 3) := by decide +kernel
theorem dX0_total_49 : decode cX0_total 49 = .ok (.iload_n 1, 1) := by decide +kernel
theorem dX0_total_50 : decode cX0_total 50 = .ok (.ireturn, 1) := by decide +kernel
set_option maxHeartbeats 4000000 in
set_option maxRecDepth 100000 in
theorem cX0_total_k_26 {l : Launch} {D : va_G} {a : Nat → Nat} {k : Nat → ClassId} {n : Nat} {x0 xz : bq_S} {rz : Int32} (h : fX0_total n  x0 = some (rz, xz)) : bq_M l D bq_cl (bq_ty k) (bq_wC a k) yX0_total cX0_total 3 (some .int) { frames := 4, cells := 0, slots := 0, locals := 94 } [.ref (a 26)] x0 (some rz) xz := by
  refine bq_ofW RX0 [(0, .ref (a 26))] (by decide +kernel) rfl (Nat.le_of_ble_eq_true rfl) rfl (bq_adC a k) ?_
  intro p e s m below meth c A Q ls S hK hD hA hR hS hP hl
  have hx := S.1; have hb := S.2.1; have hml := S.2.2.1; have hown := S.2.2.2.1; have hts := S.2.2.2.2
  have hret : ∀ z, some z = some (rz, xz) → (rz, xz) = z := fun z h => (Option.some.inj h).symm
  unfold fX0_total at h
  refine lv_aload_n hx hb dX0_total_0 rfl (lv_at hl 0 rfl) ?_
  refine bq_get (q0 := 26) S hK hP fl_X0_63_X0_3 rfl rfl rfl dX0_total_1 ?_
  refine lv_if_ne (tgt := 9) hx hb dX0_total_4 (by decide) (fun c1 => ?_) (fun c1 => ?_)
  · replace h := (if_neg c1).symm.trans h
    refine lv_iconst (v := (0 : Int32)) hx hb dX0_total_9 (by decide) ?_
    refine lv_istore_n (lv' := [(1, .int (0 : Int32)), (0, .ref (a 26))]) hx hb dX0_total_10 rfl hl (by decide) rfl (fun ls hl => ?_)
    refine lv_iconst (v := (0 : Int32)) hx hb dX0_total_11 (by decide) ?_
    refine lv_istore_n (lv' := [(2, .int (0 : Int32)), (1, .int (0 : Int32)), (0, .ref (a 26))]) hx hb dX0_total_12 rfl hl (by decide) rfl (fun ls hl => ?_)
    have hl13 : ∀ (kf : Nat) (v2 : Int32) (v3 : Int32) (x4 : bq_S) (eo : Int32 × Int32 × bq_S) (H : Heap) (locs : List Loc) (ls : Array Slot), wh kf (fX0_total_b13 n ) (v2, v3, x4) = some eo → va_P D bq_cl (bq_wC a k x4) H → va_S A s.heap H locs → lv_has ls 3 [(0, .ref (a 26)), (1, .int v2), (2, .int v3)] → (∀ (H : Heap) (locs : List Loc) (ls : Array Slot) (v17 : Int32) (v18 : Int32) (x19 : bq_S), eo = (v17, v18, x19) → va_P D bq_cl (bq_wC a k x19) H → va_S A s.heap H locs → lv_has ls 3 [(1, .int v17)] → W p l e { frames := 4, cells := 0, slots := 0, locals := 94 } s m [.ref (a 26)].toArray below meth c H locs 0 0 Q (F0 m 49 ls [])) → W p l e { frames := 4, cells := 0, slots := 0, locals := 94 } s m [.ref (a 26)].toArray below meth c H locs 0 0 Q (F0 m 13 ls []) := by
      intro  kf
      induction kf with
      | zero => intro v2 v3 x4 eo H locs ls h; cases h
      | succ kf ih =>
        intro v2 v3 x4 eo H locs ls h hP hS hl kx
        obtain ⟨out, h, hw⟩ := wh_s h
        unfold fX0_total_b13 at h
        replace h := un3_e h
        refine lv_iload_n hx hb dX0_total_13 rfl (lv_at hl 2 rfl) ?_
        refine lv_bipush (v := (8 : Int32)) hx hb dX0_total_14 (by decide) ?_
        refine lv_icmp_ge (tgt := 49) hx hb dX0_total_16 (by decide) (fun c5 => ?_) (fun c5 => ?_)
        · replace h := (if_pos c5).symm.trans h
          cases h
          exact kx _ _ _ _ _ _ (Option.some.inj hw).symm hP hS (lv_sub hl [1] rfl)
        · replace h := (if_neg c5).symm.trans h
          refine lv_aload_n hx hb dX0_total_19 rfl (lv_at hl 0 rfl) ?_
          refine bq_get (q0 := 26) S hK hP fl_X0_66_X0_2 rfl rfl rfl dX0_total_20 ?_
          refine lv_aload_n hx hb dX0_total_23 rfl (lv_at hl 0 rfl) ?_
          refine bq_get (q0 := 26) S hK hP fl_X0_9_X0_6 rfl rfl rfl dX0_total_24 ?_
          refine lv_iand hx hb dX0_total_27 ?_
          refine lv_iload_n hx hb dX0_total_28 rfl (lv_at hl 2 rfl) ?_
          obtain ⟨o6, ho6, h⟩ := Option.bind_eq_some_iff.mp h
          obtain ⟨v8, x7⟩ := o6
          replace h := un2_e h
          refine bq_callSNi (As := [.int _, .int _]) S hK hD hA hP hS (cX9_has_k ho6) hd_yX9_has mn_X0_69 st_yX9_has ⟨rfl, rfl⟩ ⟨by decide, by decide⟩ rfl hl.1 rfl (Nat.le_of_ble_eq_true rfl) ⟨Nat.zero_le _, Nat.zero_le _⟩ dX0_total_29 (fun H locs hP hS => ?_)
          refine lv_if_eq (tgt := 43) hx hb dX0_total_32 (by decide) (fun c9 => ?_) (fun c9 => ?_)
          · replace h := (if_pos c9).symm.trans h
            obtain ⟨v10, hv10, h⟩ := bq_b h
            refine lv_iinc (v := v10) (lv' := [(2, .int v10), (0, .ref (a 26)), (1, .int v2)]) hx hb dX0_total_43 hl (k := 2) rfl (by rw [hv10]; rfl) (by decide) rfl (fun ls hl => ?_)
            refine lv_goto (tgt := 13) hx hb dX0_total_46 (by decide) ?_
            cases h
            exact ih _ _ _ _ _ _ _ hw hP hS (lv_sub hl [1, 2, 0] rfl) kx
          · replace h := (if_neg c9).symm.trans h
            refine lv_iload_n hx hb dX0_total_35 rfl (lv_at hl 1 rfl) ?_
            refine lv_aload_n hx hb dX0_total_36 rfl (lv_at hl 0 rfl) ?_
            refine lv_iload_n hx hb dX0_total_37 rfl (lv_at hl 2 rfl) ?_
            obtain ⟨o11, ho11, h⟩ := Option.bind_eq_some_iff.mp h
            obtain ⟨v13, x12⟩ := o11
            replace h := un2_e h
            refine bq_callUi (q0 := 26) (owner := "BesideQuotes$Ways") (As := [.int _]) S hK hD hA hP hS (cX8X0_from_k_26 ho11) hd_yX8_from ml_X0_73 in_yX8_from (hts _ sl_X0_X0_yX8_from) sm_X0_from dc_X8_from (by decide +kernel) ⟨rfl, rfl⟩ ⟨by decide, by decide⟩ rfl rfl rfl hl.1 rfl (Nat.le_of_ble_eq_true rfl) ⟨Nat.zero_le _, Nat.zero_le _⟩ dX0_total_38 (fun H locs hP hS => ?_)
            refine lv_iadd hx hb dX0_total_41 ?_
            refine lv_topi (fun v14 hv14 => ?_)
            replace h := bq_bv h hv14
            refine lv_istore_n (lv' := [(1, .int v14), (0, .ref (a 26)), (2, .int v3)]) hx hb dX0_total_42 rfl hl (by decide) rfl (fun ls hl => ?_)
            obtain ⟨v15, hv15, h⟩ := bq_b h
            refine lv_iinc (v := v15) (lv' := [(2, .int v15), (1, .int v14), (0, .ref (a 26))]) hx hb dX0_total_43 hl (k := 2) rfl (by rw [hv15]; rfl) (by decide) rfl (fun ls hl => ?_)
            refine lv_goto (tgt := 13) hx hb dX0_total_46 (by decide) ?_
            cases h
            exact ih _ _ _ _ _ _ _ hw hP hS (lv_sub hl [2, 1, 0] rfl) kx
    obtain ⟨e16, he16, h⟩ := Option.bind_eq_some_iff.mp h
    refine hl13 n _ _ _ e16 _ _ _ he16 hP hS (lv_sub hl [2, 1, 0] rfl) (fun H locs ls v17 v18 x19 hz hP hS hl => ?_)
    subst hz
    replace h := un3_e h
    refine lv_iload_n hx hb dX0_total_49 rfl (lv_at hl 0 rfl) ?_
    obtain ⟨e1, e2⟩ := Prod.mk.inj (hret _ h)
    exact hR _ _ _ _ _ (congrArg some e1) rfl (by rw [e2]; exact hP) hS dX0_total_50
  · replace h := (if_pos c1).symm.trans h
    refine lv_iconst (v := (1 : Int32)) hx hb dX0_total_7 (by decide) ?_
    obtain ⟨e1, e2⟩ := Prod.mk.inj (hret _ h)
    exact hR _ _ _ _ _ (congrArg some e1) rfl (by rw [e2]; exact hP) hS dX0_total_8
def fX9_rows (n : Nat) (p1 : Int32) (x0 : bq_S) : Option (Int32 × bq_S) :=
  (fX4_isSet 1 p1 x0).bind (fun o1 => un2 o1 (fun v3 x2 =>
  if v3 = 0 then
  some ((-1 : Int32), x2)
  else
  (fX0_askRowsOf p1 x2).bind (fun x6 =>
  (fX0_total n  x6).bind (fun o7 => un2 o7 (fun v9 x8 =>
  some (v9, x8))))))
theorem dX9_rows_0 : decode cX9_rows 0 = .ok (.aload_n 0, 1) := by decide +kernel
theorem dX9_rows_1 : decode cX9_rows 1 = .ok (.getfield 10, 3) := by decide +kernel
theorem dX9_rows_4 : decode cX9_rows 4 = .ok (.iload_n 1, 1) := by decide +kernel
theorem dX9_rows_5 : decode cX9_rows 5 = .ok (.invokevirtual 186, 3) := by decide +kernel
theorem dX9_rows_8 : decode cX9_rows 8 = .ok (.ifCond .ne 5, 3) := by decide +kernel
theorem dX9_rows_11 : decode cX9_rows 11 = .ok (.iconst (-1), 1) := by decide +kernel
theorem dX9_rows_12 : decode cX9_rows 12 = .ok (.ireturn, 1) := by decide +kernel
theorem dX9_rows_13 : decode cX9_rows 13 = .ok (.aload_n 0, 1) := by decide +kernel
theorem dX9_rows_14 : decode cX9_rows 14 = .ok (.getfield 34, 3) := by decide +kernel
theorem dX9_rows_17 : decode cX9_rows 17 = .ok (.iload_n 1, 1) := by decide +kernel
theorem dX9_rows_18 : decode cX9_rows 18 = .ok (.invokevirtual 189, 3) := by decide +kernel
theorem dX9_rows_21 : decode cX9_rows 21 = .ok (.aload_n 0, 1) := by decide +kernel
theorem dX9_rows_22 : decode cX9_rows 22 = .ok (.getfield 34, 3) := by decide +kernel
theorem dX9_rows_25 : decode cX9_rows 25 = .ok (.invokevirtual 193, 3) := by decide +kernel
theorem dX9_rows_28 : decode cX9_rows 28 = .ok (.ireturn, 1) := by decide +kernel
set_option maxHeartbeats 4000000 in
set_option maxRecDepth 100000 in
theorem cX9_rows_k_0 {l : Launch} {D : va_G} {a : Nat → Nat} {k : Nat → ClassId} {n : Nat} {p1 : Int32} {x0 xz : bq_S} {rz : Int32} (h : fX9_rows n p1 x0 = some (rz, xz)) : bq_M l D bq_cl (bq_ty k) (bq_wC a k) yX9_rows cX9_rows 2 (some .int) { frames := 5, cells := 0, slots := 0, locals := 116 } [.ref (a 0), .int p1] x0 (some rz) xz := by
  refine bq_ofW RX9 [(0, .ref (a 0)), (1, .int p1)] (by decide +kernel) rfl (Nat.le_of_ble_eq_true rfl) rfl (bq_adC a k) ?_
  intro p e s m below meth c A Q ls S hK hD hA hR hS hP hl
  have hx := S.1; have hb := S.2.1; have hml := S.2.2.1; have hown := S.2.2.2.1; have hts := S.2.2.2.2
  have hret : ∀ z, some z = some (rz, xz) → (rz, xz) = z := fun z h => (Option.some.inj h).symm
  unfold fX9_rows at h
  refine lv_aload_n hx hb dX9_rows_0 rfl (lv_at hl 0 rfl) ?_
  refine bq_get (q0 := 0) S hK hP fl_X9_10_X9_0 rfl rfl rfl dX9_rows_1 ?_
  refine lv_iload_n hx hb dX9_rows_4 rfl (lv_at hl 1 rfl) ?_
  obtain ⟨o1, ho1, h⟩ := Option.bind_eq_some_iff.mp h
  obtain ⟨v3, x2⟩ := o1
  replace h := un2_e h
  refine bq_callVi (q0 := 1) (As := [.int _]) S hK hD hA hP hS (cX4_isSet_k_1 ho1) hd_yX4_isSet ml_X9_186 in_yX4_isSet (hts _ sl_X4_X4_yX4_isSet) ⟨rfl, rfl⟩ ⟨by decide, by decide⟩ rfl rfl rfl hl.1 rfl (Nat.le_of_ble_eq_true rfl) ⟨Nat.zero_le _, Nat.zero_le _⟩ dX9_rows_5 (fun H locs hP hS => ?_)
  refine lv_if_ne (tgt := 13) hx hb dX9_rows_8 (by decide) (fun c4 => ?_) (fun c4 => ?_)
  · replace h := (if_neg c4).symm.trans h
    refine lv_aload_n hx hb dX9_rows_13 rfl (lv_at hl 0 rfl) ?_
    refine bq_get (q0 := 0) S hK hP fl_X9_34_X9_4 rfl rfl rfl dX9_rows_14 ?_
    refine lv_iload_n hx hb dX9_rows_17 rfl (lv_at hl 1 rfl) ?_
    obtain ⟨x6, ho5, h⟩ := Option.bind_eq_some_iff.mp h
    refine bq_callVv (q0 := 26) (As := [.int _]) S hK hD hA hP hS (cX0_askRowsOf_k_26 ho5) hd_yX0_askRowsOf ml_X9_189 in_yX0_askRowsOf (hts _ sl_X0_X0_yX0_askRowsOf) ⟨rfl, rfl⟩ ⟨by decide, by decide⟩ rfl rfl rfl hl.1 rfl (Nat.le_of_ble_eq_true rfl) ⟨Nat.zero_le _, Nat.zero_le _⟩ dX9_rows_18 (fun H locs hP hS => ?_)
    refine lv_aload_n hx hb dX9_rows_21 rfl (lv_at hl 0 rfl) ?_
    refine bq_get (q0 := 0) S hK hP fl_X9_34_X9_4 rfl rfl rfl dX9_rows_22 ?_
    obtain ⟨o7, ho7, h⟩ := Option.bind_eq_some_iff.mp h
    obtain ⟨v9, x8⟩ := o7
    replace h := un2_e h
    refine bq_callVi (q0 := 26) (As := []) S hK hD hA hP hS (cX0_total_k_26 ho7) hd_yX0_total ml_X9_193 in_yX0_total (hts _ sl_X0_X0_yX0_total) ⟨rfl, rfl⟩ ⟨by decide, by decide⟩ rfl rfl rfl hl.1 rfl (Nat.le_of_ble_eq_true rfl) ⟨Nat.zero_le _, Nat.zero_le _⟩ dX9_rows_25 (fun H locs hP hS => ?_)
    obtain ⟨e1, e2⟩ := Prod.mk.inj (hret _ h)
    exact hR _ _ _ _ _ (congrArg some e1) rfl (by rw [e2]; exact hP) hS dX9_rows_28
  · replace h := (if_pos c4).symm.trans h
    refine lv_iconst (v := (-1 : Int32)) hx hb dX9_rows_11 (by decide) ?_
    obtain ⟨e1, e2⟩ := Prod.mk.inj (hret _ h)
    exact hR _ _ _ _ _ (congrArg some e1) rfl (by rw [e2]; exact hP) hS dX9_rows_12
def fX8X0_onBy (p1 : Int32) (p2 : Int32) (p3 : Int32) (x0 : bq_S) : Option (Int32 × bq_S) :=
  (fX9_bit p3 x0).bind (fun o1 => un2 o1 (fun v3 x2 =>
  (fX8_index (p1 ||| v3) p3 x2).bind (fun o4 => un2 o4 (fun v6 x5 =>
  if ok_i v6 2048 then
  (fX0_ofStep p1 p2 p3 (x5.1 25 v6.toNatClampNeg) x5).bind (fun o8 => un2 o8 (fun v10 x9 =>
  some (v10, x9)))
  else none))))
theorem dX8_onBy_0 : decode cX8_onBy 0 = .ok (.aload_n 0, 1) := by decide +kernel
theorem dX8_onBy_1 : decode cX8_onBy 1 = .ok (.iload_n 1, 1) := by decide +kernel
theorem dX8_onBy_2 : decode cX8_onBy 2 = .ok (.iload_n 2, 1) := by decide +kernel
theorem dX8_onBy_3 : decode cX8_onBy 3 = .ok (.iload_n 3, 1) := by decide +kernel
theorem dX8_onBy_4 : decode cX8_onBy 4 = .ok (.aload_n 0, 1) := by decide +kernel
theorem dX8_onBy_5 : decode cX8_onBy 5 = .ok (.getfield 15, 3) := by decide +kernel
theorem dX8_onBy_8 : decode cX8_onBy 8 = .ok (.iload_n 1, 1) := by decide +kernel
theorem dX8_onBy_9 : decode cX8_onBy 9 = .ok (.iload_n 3, 1) := by decide +kernel
theorem dX8_onBy_10 : decode cX8_onBy 10 = .ok (.invokestatic 53, 3) := by decide +kernel
theorem dX8_onBy_13 : decode cX8_onBy 13 = .ok (.ior, 1) := by decide +kernel
theorem dX8_onBy_14 : decode cX8_onBy 14 = .ok (.iload_n 3, 1) := by decide +kernel
theorem dX8_onBy_15 : decode cX8_onBy 15 = .ok (.invokestatic 43, 3) := by decide +kernel
theorem dX8_onBy_18 : decode cX8_onBy 18 = .ok (.iaload, 1) := by decide +kernel
theorem dX8_onBy_19 : decode cX8_onBy 19 = .ok (.invokevirtual 60, 3) := by decide +kernel
theorem dX8_onBy_22 : decode cX8_onBy 22 = .ok (.ireturn, 1) := by decide +kernel
set_option maxHeartbeats 4000000 in
set_option maxRecDepth 100000 in
theorem cX8X0_onBy_k_26 {l : Launch} {D : va_G} {a : Nat → Nat} {k : Nat → ClassId} {p1 : Int32} {p2 : Int32} {p3 : Int32} {x0 xz : bq_S} {rz : Int32} (h : fX8X0_onBy  p1 p2 p3 x0 = some (rz, xz)) : bq_M l D bq_cl (bq_ty k) (bq_wC a k) yX8_onBy cX8_onBy 4 (some .int) { frames := 2, cells := 0, slots := 0, locals := 46 } [.ref (a 26), .int p1, .int p2, .int p3] x0 (some rz) xz := by
  refine bq_ofW RX8 [(0, .ref (a 26)), (1, .int p1), (2, .int p2), (3, .int p3)] (by decide +kernel) rfl (Nat.le_of_ble_eq_true rfl) rfl (bq_adC a k) ?_
  intro p e s m below meth c A Q ls S hK hD hA hR hS hP hl
  have hx := S.1; have hb := S.2.1; have hml := S.2.2.1; have hown := S.2.2.2.1; have hts := S.2.2.2.2
  have hret : ∀ z, some z = some (rz, xz) → (rz, xz) = z := fun z h => (Option.some.inj h).symm
  unfold fX8X0_onBy at h
  refine lv_aload_n hx hb dX8_onBy_0 rfl (lv_at hl 0 rfl) ?_
  refine lv_iload_n hx hb dX8_onBy_1 rfl (lv_at hl 1 rfl) ?_
  refine lv_iload_n hx hb dX8_onBy_2 rfl (lv_at hl 2 rfl) ?_
  refine lv_iload_n hx hb dX8_onBy_3 rfl (lv_at hl 3 rfl) ?_
  refine lv_aload_n hx hb dX8_onBy_4 rfl (lv_at hl 0 rfl) ?_
  refine bq_get (q0 := 26) S hK hP fl_X8_15_X0_1 rfl rfl rfl dX8_onBy_5 ?_
  refine lv_iload_n hx hb dX8_onBy_8 rfl (lv_at hl 1 rfl) ?_
  refine lv_iload_n hx hb dX8_onBy_9 rfl (lv_at hl 3 rfl) ?_
  obtain ⟨o1, ho1, h⟩ := Option.bind_eq_some_iff.mp h
  obtain ⟨v3, x2⟩ := o1
  replace h := un2_e h
  refine bq_callSNi (As := [.int _]) S hK hD hA hP hS (cX9_bit_k ho1) hd_yX9_bit mn_X8_53 st_yX9_bit ⟨rfl, rfl⟩ ⟨by decide, by decide⟩ rfl hl.1 rfl (Nat.le_of_ble_eq_true rfl) ⟨Nat.zero_le _, Nat.zero_le _⟩ dX8_onBy_10 (fun H locs hP hS => ?_)
  refine lv_ior hx hb dX8_onBy_13 ?_
  refine lv_iload_n hx hb dX8_onBy_14 rfl (lv_at hl 3 rfl) ?_
  obtain ⟨o4, ho4, h⟩ := Option.bind_eq_some_iff.mp h
  obtain ⟨v6, x5⟩ := o4
  replace h := un2_e h
  refine bq_callSi (As := [.int _, .int _]) S hK hD hA hP hS (cX8_index_k ho4) hd_yX8_index ml_X8_43 st_yX8_index ⟨rfl, rfl⟩ ⟨by decide, by decide⟩ rfl hl.1 rfl (Nat.le_of_ble_eq_true rfl) ⟨Nat.zero_le _, Nat.zero_le _⟩ dX8_onBy_15 (fun H locs hP hS => ?_)
  obtain ⟨g7, h⟩ := bq_gd h
  refine va_iald (D := D) hx hb hK hP 25 0 rfl rfl g7 dX8_onBy_18 ?_
  obtain ⟨o8, ho8, h⟩ := Option.bind_eq_some_iff.mp h
  obtain ⟨v10, x9⟩ := o8
  replace h := un2_e h
  refine bq_callUi (q0 := 26) (owner := "BesideQuotes$Ways") (As := [.int _, .int _, .int _, .int _]) S hK hD hA hP hS (cX0_ofStep_k_26 ho8) hd_yX0_ofStep ml_X8_60 in_yX0_ofStep (hts _ sl_X0_X8_yX0_ofStep) sm_X8_ofStep dc_X8_ofStep (by decide +kernel) ⟨rfl, rfl⟩ ⟨by decide, by decide⟩ rfl rfl rfl hl.1 rfl (Nat.le_of_ble_eq_true rfl) ⟨Nat.zero_le _, Nat.zero_le _⟩ dX8_onBy_19 (fun H locs hP hS => ?_)
  obtain ⟨e1, e2⟩ := Prod.mk.inj (hret _ h)
  exact hR _ _ _ _ _ (congrArg some e1) rfl (by rw [e2]; exact hP) hS dX8_onBy_22
def fX0_trace_b33 (n : Nat) (r13 : Nat) (lb14 : Nat) (v16 : Int32) (v17 : Int32) (v : Int32 × Int32 × bq_S) : Option ((Int32 × Int32 × bq_S) ⊕ (Int32 × Int32 × bq_S)) :=
  un3 v (fun v15 v18 x19 =>
  if (8 : Int32) ≤ v18 then
  some (.inr (v15, v18, x19))
  else
  (fX9_has ((x19.1 26 2) &&& (v16 ^^^ (-1 : Int32))) v18 x19).bind (fun o21 => un2 o21 (fun v23 x22 =>
  if v23 = 0 then
  bd (v18 + (1 : Int32)) (fun v25 =>
  some (.inl (v15, v25, x22)))
  else
  if ok_i (v17 - (1 : Int32)) lb14 then
  (fX8X0_onBy v16 (x22.1 r13 (v17 - (1 : Int32)).toNatClampNeg) v18 x22).bind (fun o27 => un2 o27 (fun v29 x28 =>
  if v29 ≤ v15 then
  bd (v15 - v29) (fun v31 =>
  bd (v18 + (1 : Int32)) (fun v32 =>
  some (.inl (v31, v32, x28))))
  else
  if ok_i v17 lb14 then
  bd (bq_sI x28 r13 v17.toNatClampNeg v18) (fun x33 =>
  some (.inr (v15, v18, x33)))
  else none))
  else none)))
def fX0_trace_j99 (n : Nat) (r6 : Nat) (lb7 : Nat) (v39 : Int32) (v40 : Int32) (v41 : Int32) (x42 : bq_S) : Option ((Int32 × Int32 × Int32 × bq_S) ⊕ (Int32 × Int32 × Int32 × bq_S)) :=
  if ok_i v41 lb7 then
  (fX9_bit (x42.1 r6 v41.toNatClampNeg) x42).bind (fun o44 => un2 o44 (fun v46 x45 =>
  bd (v40 ||| v46) (fun v47 =>
  bd (v41 + (1 : Int32)) (fun v48 =>
  some (.inl (v39, v47, v48, x45))))))
  else none
def fX0_trace_b21 (n : Nat) (r6 : Nat) (lb7 : Nat) (v : Int32 × Int32 × Int32 × bq_S) : Option ((Int32 × Int32 × Int32 × bq_S) ⊕ (Int32 × Int32 × Int32 × bq_S)) :=
  un4 v (fun v8 v9 v10 x11 =>
  if (x11.1 26 3) ≤ v10 then
  some (.inr (v8, v9, v10, x11))
  else
  (wh n (fX0_trace_b33 n r6 lb7 v9 v10) (v8, (0 : Int32), x11)).bind (fun e35 => un3 e35 (fun v36 v37 x38 =>
  fX0_trace_j99 n r6 lb7 v36 v9 v10 x38)))
def fX0_trace (n : Nat) (p1 : Int32) (q2 : Nat) (la2 : Nat) (x0 : bq_S) : Option (bq_S) :=
  (fX9_bit (x0.1 26 4) x0).bind (fun o1 => un2 o1 (fun v3 x2 =>
  if ok_i (0 : Int32) la2 then
  bd (bq_sI x2 q2 (0 : Int32).toNatClampNeg (x2.1 26 4)) (fun x4 =>
  (wh n (fX0_trace_b21 n q2 la2) (p1, v3, (1 : Int32), x4)).bind (fun e49 => un4 e49 (fun v50 v51 v52 x53 =>
  some x53)))
  else none))
theorem dX0_trace_0 : decode cX0_trace 0 = .ok (.iload_n 1, 1) := by decide +kernel
theorem dX0_trace_1 : decode cX0_trace 1 = .ok (.istore_n 3, 1) := by decide +kernel
theorem dX0_trace_2 : decode cX0_trace 2 = .ok (.aload_n 0, 1) := by decide +kernel
theorem dX0_trace_3 : decode cX0_trace 3 = .ok (.getfield 80, 3) := by decide +kernel
theorem dX0_trace_6 : decode cX0_trace 6 = .ok (.invokestatic 83, 3) := by decide +kernel
theorem dX0_trace_9 : decode cX0_trace 9 = .ok (.istore 4, 2) := by decide +kernel
theorem dX0_trace_11 : decode cX0_trace 11 = .ok (.aload_n 2, 1) := by decide +kernel
theorem dX0_trace_12 : decode cX0_trace 12 = .ok (.iconst 0, 1) := by decide +kernel
theorem dX0_trace_13 : decode cX0_trace 13 = .ok (.aload_n 0, 1) := by decide +kernel
theorem dX0_trace_14 : decode cX0_trace 14 = .ok (.getfield 80, 3) := by decide +kernel
theorem dX0_trace_17 : decode cX0_trace 17 = .ok (.iastore, 1) := by decide +kernel
theorem dX0_trace_18 : decode cX0_trace 18 = .ok (.iconst 1, 1) := by decide +kernel
theorem dX0_trace_19 : decode cX0_trace 19 = .ok (.istore 5, 2) := by decide +kernel
theorem dX0_trace_21 : decode cX0_trace 21 = .ok (.iload 5, 2) := by decide +kernel
theorem dX0_trace_23 : decode cX0_trace 23 = .ok (.aload_n 0, 1) := by decide +kernel
theorem dX0_trace_24 : decode cX0_trace 24 = .ok (.getfield 63, 3) := by decide +kernel
theorem dX0_trace_27 : decode cX0_trace 27 = .ok (.if_icmp .ge 90, 3) := by decide +kernel
theorem dX0_trace_30 : decode cX0_trace 30 = .ok (.iconst 0, 1) := by decide +kernel
theorem dX0_trace_31 : decode cX0_trace 31 = .ok (.istore 6, 2) := by decide +kernel
theorem dX0_trace_33 : decode cX0_trace 33 = .ok (.iload 6, 2) := by decide +kernel
theorem dX0_trace_35 : decode cX0_trace 35 = .ok (.bipush 8, 2) := by decide +kernel
theorem dX0_trace_37 : decode cX0_trace 37 = .ok (.if_icmp .ge 62, 3) := by decide +kernel
theorem dX0_trace_40 : decode cX0_trace 40 = .ok (.aload_n 0, 1) := by decide +kernel
theorem dX0_trace_41 : decode cX0_trace 41 = .ok (.getfield 66, 3) := by decide +kernel
theorem dX0_trace_44 : decode cX0_trace 44 = .ok (.iload 4, 2) := by decide +kernel
theorem dX0_trace_46 : decode cX0_trace 46 = .ok (.iconst (-1), 1) := by decide +kernel
theorem dX0_trace_47 : decode cX0_trace 47 = .ok (.ixor, 1) := by decide +kernel
theorem dX0_trace_48 : decode cX0_trace 48 = .ok (.iand, 1) := by decide +kernel
theorem dX0_trace_49 : decode cX0_trace 49 = .ok (.iload 6, 2) := by decide +kernel
theorem dX0_trace_51 : decode cX0_trace 51 = .ok (.invokestatic 69, 3) := by decide +kernel
theorem dX0_trace_54 : decode cX0_trace 54 = .ok (.ifCond .eq 39, 3) := by decide +kernel
theorem dX0_trace_57 : decode cX0_trace 57 = .ok (.aload_n 0, 1) := by decide +kernel
theorem dX0_trace_58 : decode cX0_trace 58 = .ok (.iload 4, 2) := by decide +kernel
theorem dX0_trace_60 : decode cX0_trace 60 = .ok (.aload_n 2, 1) := by decide +kernel
theorem dX0_trace_61 : decode cX0_trace 61 = .ok (.iload 5, 2) := by decide +kernel
theorem dX0_trace_63 : decode cX0_trace 63 = .ok (.iconst 1, 1) := by decide +kernel
theorem dX0_trace_64 : decode cX0_trace 64 = .ok (.isub, 1) := by decide +kernel
theorem dX0_trace_65 : decode cX0_trace 65 = .ok (.iaload, 1) := by decide +kernel
theorem dX0_trace_66 : decode cX0_trace 66 = .ok (.iload 6, 2) := by decide +kernel
theorem dX0_trace_68 : decode cX0_trace 68 = .ok (.invokevirtual 86, 3) := by decide +kernel
theorem dX0_trace_71 : decode cX0_trace 71 = .ok (.istore 7, 2) := by decide +kernel
theorem dX0_trace_73 : decode cX0_trace 73 = .ok (.iload_n 3, 1) := by decide +kernel
theorem dX0_trace_74 : decode cX0_trace 74 = .ok (.iload 7, 2) := by decide +kernel
theorem dX0_trace_76 : decode cX0_trace 76 = .ok (.if_icmp .ge 12, 3) := by decide +kernel
theorem dX0_trace_79 : decode cX0_trace 79 = .ok (.aload_n 2, 1) := by decide +kernel
theorem dX0_trace_80 : decode cX0_trace 80 = .ok (.iload 5, 2) := by decide +kernel
theorem dX0_trace_82 : decode cX0_trace 82 = .ok (.iload 6, 2) := by decide +kernel
theorem dX0_trace_84 : decode cX0_trace 84 = .ok (.iastore, 1) := by decide +kernel
theorem dX0_trace_85 : decode cX0_trace 85 = .ok (.goto 14, 3) := by decide +kernel
theorem dX0_trace_88 : decode cX0_trace 88 = .ok (.iload_n 3, 1) := by decide +kernel
theorem dX0_trace_89 : decode cX0_trace 89 = .ok (.iload 7, 2) := by decide +kernel
theorem dX0_trace_91 : decode cX0_trace 91 = .ok (.isub, 1) := by decide +kernel
theorem dX0_trace_92 : decode cX0_trace 92 = .ok (.istore_n 3, 1) := by decide +kernel
theorem dX0_trace_93 : decode cX0_trace 93 = .ok (.iinc 6 1, 3) := by decide +kernel
theorem dX0_trace_96 : decode cX0_trace 96 = .ok (.goto (-63), 3) := by decide +kernel
theorem dX0_trace_99 : decode cX0_trace 99 = .ok (.iload 4, 2) := by decide +kernel
theorem dX0_trace_101 : decode cX0_trace 101 = .ok (.aload_n 2, 1) := by decide +kernel
theorem dX0_trace_102 : decode cX0_trace 102 = .ok (.iload 5, 2) := by decide +kernel
theorem dX0_trace_104 : decode cX0_trace 104 = .ok (.iaload, 1) := by decide +kernel
theorem dX0_trace_105 : decode cX0_trace 105 = .ok (.invokestatic 83, 3) := by decide +kernel
theorem dX0_trace_108 : decode cX0_trace 108 = .ok (.ior, 1) := by decide +kernel
theorem dX0_trace_109 : decode cX0_trace 109 = .ok (.istore 4, 2) := by decide +kernel
theorem dX0_trace_111 : decode cX0_trace 111 = .ok (.iinc 5 1, 3) := by decide +kernel
theorem dX0_trace_114 : decode cX0_trace 114 = .ok (.goto (-93), 3) := by decide +kernel
theorem dX0_trace_117 : decode cX0_trace 117 = .ok (.return_, 1) := by decide +kernel
set_option maxHeartbeats 4000000 in
set_option maxRecDepth 100000 in
theorem cX0_trace_k_26_42 {l : Launch} {D : va_G} {a : Nat → Nat} {k : Nat → ClassId} {n : Nat} {p1 : Int32} {x0 xz : bq_S} (h : fX0_trace n p1 42 8 x0 = some xz) : bq_M l D bq_cl (bq_ty k) (bq_wC a k) yX0_trace cX0_trace 8 none { frames := 3, cells := 0, slots := 0, locals := 69 } [.ref (a 26), .int p1, .ref (a 42)] x0 none xz := by
  refine bq_ofWv RX0 [(0, .ref (a 26)), (1, .int p1), (2, .ref (a 42))] (by decide +kernel) rfl (Nat.le_of_ble_eq_true rfl) rfl (bq_adC a k) ?_
  intro p e s m below meth c A Q ls S hK hD hA hR hS hP hl
  have hx := S.1; have hb := S.2.1; have hml := S.2.2.1; have hown := S.2.2.2.1; have hts := S.2.2.2.2
  have hret : ∀ z, some z = some xz → xz = z := fun z h => (Option.some.inj h).symm
  unfold fX0_trace at h
  refine lv_iload_n hx hb dX0_trace_0 rfl (lv_at hl 1 rfl) ?_
  refine lv_istore_n (lv' := [(3, .int p1), (0, .ref (a 26)), (1, .int p1), (2, .ref (a 42))]) hx hb dX0_trace_1 rfl hl (by decide) rfl (fun ls hl => ?_)
  refine lv_aload_n hx hb dX0_trace_2 rfl (lv_at hl 1 rfl) ?_
  refine bq_get (q0 := 26) S hK hP fl_X0_80_X0_4 rfl rfl rfl dX0_trace_3 ?_
  obtain ⟨o1, ho1, h⟩ := Option.bind_eq_some_iff.mp h
  obtain ⟨v3, x2⟩ := o1
  replace h := un2_e h
  refine bq_callSNi (As := [.int _]) S hK hD hA hP hS (cX9_bit_k ho1) hd_yX9_bit mn_X0_83 st_yX9_bit ⟨rfl, rfl⟩ ⟨by decide, by decide⟩ rfl hl.1 rfl (Nat.le_of_ble_eq_true rfl) ⟨Nat.zero_le _, Nat.zero_le _⟩ dX0_trace_6 (fun H locs hP hS => ?_)
  refine lv_istore (lv' := [(4, .int v3), (3, .int p1), (0, .ref (a 26)), (1, .int p1), (2, .ref (a 42))]) hx hb dX0_trace_9 hl (by decide) rfl (fun ls hl => ?_)
  refine lv_aload_n hx hb dX0_trace_11 rfl (lv_at hl 4 rfl) ?_
  refine lv_iconst (v := (0 : Int32)) hx hb dX0_trace_12 (by decide) ?_
  refine lv_aload_n hx hb dX0_trace_13 rfl (lv_at hl 2 rfl) ?_
  refine bq_get (q0 := 26) S hK hP fl_X0_80_X0_4 rfl rfl rfl dX0_trace_14 ?_
  obtain ⟨g5, h⟩ := bq_gd h
  obtain ⟨x4, hx4, h⟩ := bq_b h
  refine bq_iast (x1 := x4) (q0 := 42) (t0 := 0) S hK hD hP hS rfl rfl g5 (by rw [hx4]; rfl) dX0_trace_17 (fun H locs hP hS => ?_)
  refine lv_iconst (v := (1 : Int32)) hx hb dX0_trace_18 (by decide) ?_
  refine lv_istore (lv' := [(5, .int (1 : Int32)), (4, .int v3), (3, .int p1), (0, .ref (a 26)), (1, .int p1), (2, .ref (a 42))]) hx hb dX0_trace_19 hl (by decide) rfl (fun ls hl => ?_)
  have hl21 : ∀ (kf : Nat) (v8 : Int32) (v9 : Int32) (v10 : Int32) (x11 : bq_S) (eo : Int32 × Int32 × Int32 × bq_S) (H : Heap) (locs : List Loc) (ls : Array Slot), wh kf (fX0_trace_b21 n 42 8) (v8, v9, v10, x11) = some eo → va_P D bq_cl (bq_wC a k x11) H → va_S A s.heap H locs → lv_has ls 8 [(0, .ref (a 26)), (2, .ref (a 42)), (3, .int v8), (4, .int v9), (5, .int v10)] → (∀ (H : Heap) (locs : List Loc) (ls : Array Slot) (v50 : Int32) (v51 : Int32) (v52 : Int32) (x53 : bq_S), eo = (v50, v51, v52, x53) → va_P D bq_cl (bq_wC a k x53) H → va_S A s.heap H locs → lv_has ls 8 [] → W p l e { frames := 3, cells := 0, slots := 0, locals := 69 } s m [.ref (a 26), .int p1, .ref (a 42)].toArray below meth c H locs 0 0 Q (F0 m 117 ls [])) → W p l e { frames := 3, cells := 0, slots := 0, locals := 69 } s m [.ref (a 26), .int p1, .ref (a 42)].toArray below meth c H locs 0 0 Q (F0 m 21 ls []) := by
    intro  kf
    induction kf with
    | zero => intro v8 v9 v10 x11 eo H locs ls h; cases h
    | succ kf ih =>
      intro v8 v9 v10 x11 eo H locs ls h hP hS hl kx
      obtain ⟨out, h, hw⟩ := wh_s h
      unfold fX0_trace_b21 at h
      replace h := un4_e h
      have hj99 : ∀ (v39 : Int32) (v40 : Int32) (v41 : Int32) (x42 : bq_S) (H : Heap) (locs : List Loc) (ls : Array Slot), fX0_trace_j99 n 42 8 v39 v40 v41 x42 = some out → va_P D bq_cl (bq_wC a k x42) H → va_S A s.heap H locs → lv_has ls 8 [(0, .ref (a 26)), (2, .ref (a 42)), (3, .int v39), (4, .int v40), (5, .int v41)] → W p l e { frames := 3, cells := 0, slots := 0, locals := 69 } s m [.ref (a 26), .int p1, .ref (a 42)].toArray below meth c H locs 0 0 Q (F0 m 99 ls []) := by
        intro v39 v40 v41 x42 H locs ls h hP hS hl
        unfold fX0_trace_j99 at h
        refine lv_iload hx hb dX0_trace_99 (lv_at hl 3 rfl) ?_
        refine lv_aload_n hx hb dX0_trace_101 rfl (lv_at hl 1 rfl) ?_
        refine lv_iload hx hb dX0_trace_102 (lv_at hl 4 rfl) ?_
        obtain ⟨g43, h⟩ := bq_gd h
        refine va_iald (D := D) hx hb hK hP 42 0 rfl rfl g43 dX0_trace_104 ?_
        obtain ⟨o44, ho44, h⟩ := Option.bind_eq_some_iff.mp h
        obtain ⟨v46, x45⟩ := o44
        replace h := un2_e h
        refine bq_callSNi (As := [.int _]) S hK hD hA hP hS (cX9_bit_k ho44) hd_yX9_bit mn_X0_83 st_yX9_bit ⟨rfl, rfl⟩ ⟨by decide, by decide⟩ rfl hl.1 rfl (Nat.le_of_ble_eq_true rfl) ⟨Nat.zero_le _, Nat.zero_le _⟩ dX0_trace_105 (fun H locs hP hS => ?_)
        refine lv_ior hx hb dX0_trace_108 ?_
        refine lv_topi (fun v47 hv47 => ?_)
        replace h := bq_bv h hv47
        refine lv_istore (lv' := [(4, .int v47), (0, .ref (a 26)), (2, .ref (a 42)), (3, .int v39), (5, .int v41)]) hx hb dX0_trace_109 hl (by decide) rfl (fun ls hl => ?_)
        obtain ⟨v48, hv48, h⟩ := bq_b h
        refine lv_iinc (v := v48) (lv' := [(5, .int v48), (4, .int v47), (0, .ref (a 26)), (2, .ref (a 42)), (3, .int v39)]) hx hb dX0_trace_111 hl (k := 4) rfl (by rw [hv48]; rfl) (by decide) rfl (fun ls hl => ?_)
        refine lv_goto (tgt := 21) hx hb dX0_trace_114 (by decide) ?_
        cases h
        exact ih _ _ _ _ _ _ _ _ hw hP hS (lv_sub hl [2, 3, 4, 1, 0] rfl) kx
      refine lv_iload hx hb dX0_trace_21 (lv_at hl 4 rfl) ?_
      refine lv_aload_n hx hb dX0_trace_23 rfl (lv_at hl 0 rfl) ?_
      refine bq_get (q0 := 26) S hK hP fl_X0_63_X0_3 rfl rfl rfl dX0_trace_24 ?_
      refine lv_icmp_ge (tgt := 117) hx hb dX0_trace_27 (by decide) (fun c12 => ?_) (fun c12 => ?_)
      · replace h := (if_pos c12).symm.trans h
        cases h
        exact kx _ _ _ _ _ _ _ (Option.some.inj hw).symm hP hS (lv_sub hl [] rfl)
      · replace h := (if_neg c12).symm.trans h
        refine lv_iconst (v := (0 : Int32)) hx hb dX0_trace_30 (by decide) ?_
        refine lv_istore (lv' := [(6, .int (0 : Int32)), (0, .ref (a 26)), (2, .ref (a 42)), (3, .int v8), (4, .int v9), (5, .int v10)]) hx hb dX0_trace_31 hl (by decide) rfl (fun ls hl => ?_)
        have hl33 : ∀ (v16 : Int32) (v17 : Int32) (kf : Nat) (v15 : Int32) (v18 : Int32) (x19 : bq_S) (eo : Int32 × Int32 × bq_S) (H : Heap) (locs : List Loc) (ls : Array Slot), wh kf (fX0_trace_b33 n 42 8 v16 v17) (v15, v18, x19) = some eo → va_P D bq_cl (bq_wC a k x19) H → va_S A s.heap H locs → lv_has ls 8 [(0, .ref (a 26)), (2, .ref (a 42)), (3, .int v15), (4, .int v16), (5, .int v17), (6, .int v18)] → (∀ (H : Heap) (locs : List Loc) (ls : Array Slot) (v36 : Int32) (v37 : Int32) (x38 : bq_S), eo = (v36, v37, x38) → va_P D bq_cl (bq_wC a k x38) H → va_S A s.heap H locs → lv_has ls 8 [(0, .ref (a 26)), (2, .ref (a 42)), (3, .int v36), (4, .int v16), (5, .int v17)] → W p l e { frames := 3, cells := 0, slots := 0, locals := 69 } s m [.ref (a 26), .int p1, .ref (a 42)].toArray below meth c H locs 0 0 Q (F0 m 99 ls [])) → W p l e { frames := 3, cells := 0, slots := 0, locals := 69 } s m [.ref (a 26), .int p1, .ref (a 42)].toArray below meth c H locs 0 0 Q (F0 m 33 ls []) := by
          intro v16 v17 kf
          induction kf with
          | zero => intro v15 v18 x19 eo H locs ls h; cases h
          | succ kf ih =>
            intro v15 v18 x19 eo H locs ls h hP hS hl kx
            obtain ⟨out, h, hw⟩ := wh_s h
            unfold fX0_trace_b33 at h
            replace h := un3_e h
            refine lv_iload hx hb dX0_trace_33 (lv_at hl 5 rfl) ?_
            refine lv_bipush (v := (8 : Int32)) hx hb dX0_trace_35 (by decide) ?_
            refine lv_icmp_ge (tgt := 99) hx hb dX0_trace_37 (by decide) (fun c20 => ?_) (fun c20 => ?_)
            · replace h := (if_pos c20).symm.trans h
              cases h
              exact kx _ _ _ _ _ _ (Option.some.inj hw).symm hP hS (lv_sub hl [0, 1, 2, 3, 4] rfl)
            · replace h := (if_neg c20).symm.trans h
              refine lv_aload_n hx hb dX0_trace_40 rfl (lv_at hl 0 rfl) ?_
              refine bq_get (q0 := 26) S hK hP fl_X0_66_X0_2 rfl rfl rfl dX0_trace_41 ?_
              refine lv_iload hx hb dX0_trace_44 (lv_at hl 3 rfl) ?_
              refine lv_iconst (v := (-1 : Int32)) hx hb dX0_trace_46 (by decide) ?_
              refine lv_ixor hx hb dX0_trace_47 ?_
              refine lv_iand hx hb dX0_trace_48 ?_
              refine lv_iload hx hb dX0_trace_49 (lv_at hl 5 rfl) ?_
              obtain ⟨o21, ho21, h⟩ := Option.bind_eq_some_iff.mp h
              obtain ⟨v23, x22⟩ := o21
              replace h := un2_e h
              refine bq_callSNi (As := [.int _, .int _]) S hK hD hA hP hS (cX9_has_k ho21) hd_yX9_has mn_X0_69 st_yX9_has ⟨rfl, rfl⟩ ⟨by decide, by decide⟩ rfl hl.1 rfl (Nat.le_of_ble_eq_true rfl) ⟨Nat.zero_le _, Nat.zero_le _⟩ dX0_trace_51 (fun H locs hP hS => ?_)
              refine lv_if_eq (tgt := 93) hx hb dX0_trace_54 (by decide) (fun c24 => ?_) (fun c24 => ?_)
              · replace h := (if_pos c24).symm.trans h
                obtain ⟨v25, hv25, h⟩ := bq_b h
                refine lv_iinc (v := v25) (lv' := [(6, .int v25), (0, .ref (a 26)), (2, .ref (a 42)), (3, .int v15), (4, .int v16), (5, .int v17)]) hx hb dX0_trace_93 hl (k := 5) rfl (by rw [hv25]; rfl) (by decide) rfl (fun ls hl => ?_)
                refine lv_goto (tgt := 33) hx hb dX0_trace_96 (by decide) ?_
                cases h
                exact ih _ _ _ _ _ _ _ hw hP hS (lv_sub hl [1, 2, 3, 4, 5, 0] rfl) kx
              · replace h := (if_neg c24).symm.trans h
                refine lv_aload_n hx hb dX0_trace_57 rfl (lv_at hl 0 rfl) ?_
                refine lv_iload hx hb dX0_trace_58 (lv_at hl 3 rfl) ?_
                refine lv_aload_n hx hb dX0_trace_60 rfl (lv_at hl 1 rfl) ?_
                refine lv_iload hx hb dX0_trace_61 (lv_at hl 4 rfl) ?_
                refine lv_iconst (v := (1 : Int32)) hx hb dX0_trace_63 (by decide) ?_
                refine lv_isub hx hb dX0_trace_64 ?_
                obtain ⟨g26, h⟩ := bq_gd h
                refine va_iald (D := D) hx hb hK hP 42 0 rfl rfl g26 dX0_trace_65 ?_
                refine lv_iload hx hb dX0_trace_66 (lv_at hl 5 rfl) ?_
                obtain ⟨o27, ho27, h⟩ := Option.bind_eq_some_iff.mp h
                obtain ⟨v29, x28⟩ := o27
                replace h := un2_e h
                refine bq_callUi (q0 := 26) (owner := "BesideQuotes$Ways") (As := [.int _, .int _, .int _]) S hK hD hA hP hS (cX8X0_onBy_k_26 ho27) hd_yX8_onBy ml_X0_86 in_yX8_onBy (hts _ sl_X0_X0_yX8_onBy) sm_X0_onBy dc_X8_onBy (by decide +kernel) ⟨rfl, rfl⟩ ⟨by decide, by decide⟩ rfl rfl rfl hl.1 rfl (Nat.le_of_ble_eq_true rfl) ⟨Nat.zero_le _, Nat.zero_le _⟩ dX0_trace_68 (fun H locs hP hS => ?_)
                refine lv_istore (lv' := [(7, .int v29), (0, .ref (a 26)), (2, .ref (a 42)), (3, .int v15), (4, .int v16), (5, .int v17), (6, .int v18)]) hx hb dX0_trace_71 hl (by decide) rfl (fun ls hl => ?_)
                refine lv_iload_n hx hb dX0_trace_73 rfl (lv_at hl 3 rfl) ?_
                refine lv_iload hx hb dX0_trace_74 (lv_at hl 0 rfl) ?_
                refine lv_icmp_ge (tgt := 88) hx hb dX0_trace_76 (by decide) (fun c30 => ?_) (fun c30 => ?_)
                · replace h := (if_pos c30).symm.trans h
                  refine lv_iload_n hx hb dX0_trace_88 rfl (lv_at hl 3 rfl) ?_
                  refine lv_iload hx hb dX0_trace_89 (lv_at hl 0 rfl) ?_
                  refine lv_isub hx hb dX0_trace_91 ?_
                  refine lv_topi (fun v31 hv31 => ?_)
                  replace h := bq_bv h hv31
                  refine lv_istore_n (lv' := [(3, .int v31), (7, .int v29), (0, .ref (a 26)), (2, .ref (a 42)), (4, .int v16), (5, .int v17), (6, .int v18)]) hx hb dX0_trace_92 rfl hl (by decide) rfl (fun ls hl => ?_)
                  obtain ⟨v32, hv32, h⟩ := bq_b h
                  refine lv_iinc (v := v32) (lv' := [(6, .int v32), (3, .int v31), (7, .int v29), (0, .ref (a 26)), (2, .ref (a 42)), (4, .int v16), (5, .int v17)]) hx hb dX0_trace_93 hl (k := 6) rfl (by rw [hv32]; rfl) (by decide) rfl (fun ls hl => ?_)
                  refine lv_goto (tgt := 33) hx hb dX0_trace_96 (by decide) ?_
                  cases h
                  exact ih _ _ _ _ _ _ _ hw hP hS (lv_sub hl [3, 4, 1, 5, 6, 0] rfl) kx
                · replace h := (if_neg c30).symm.trans h
                  refine lv_aload_n hx hb dX0_trace_79 rfl (lv_at hl 2 rfl) ?_
                  refine lv_iload hx hb dX0_trace_80 (lv_at hl 5 rfl) ?_
                  refine lv_iload hx hb dX0_trace_82 (lv_at hl 6 rfl) ?_
                  obtain ⟨g34, h⟩ := bq_gd h
                  obtain ⟨x33, hx33, h⟩ := bq_b h
                  refine bq_iast (x1 := x33) (q0 := 42) (t0 := 0) S hK hD hP hS rfl rfl g34 (by rw [hx33]; rfl) dX0_trace_84 (fun H locs hP hS => ?_)
                  refine lv_goto (tgt := 99) hx hb dX0_trace_85 (by decide) ?_
                  cases h
                  exact kx _ _ _ _ _ _ (Option.some.inj hw).symm hP hS (lv_sub hl [1, 2, 3, 4, 5] rfl)
        obtain ⟨e35, he35, h⟩ := Option.bind_eq_some_iff.mp h
        refine hl33 _ _ n _ _ _ e35 _ _ _ he35 hP hS (lv_sub hl [1, 2, 3, 4, 5, 0] rfl) (fun H locs ls v36 v37 x38 hz hP hS hl => ?_)
        subst hz
        replace h := un3_e h
        exact hj99 _ _ _ _ _ _ _ h hP hS (lv_sub hl [0, 1, 2, 3, 4] rfl)
  obtain ⟨e49, he49, h⟩ := Option.bind_eq_some_iff.mp h
  refine hl21 n _ _ _ _ e49 _ _ _ he49 hP hS (lv_sub hl [3, 5, 2, 1, 0] rfl) (fun H locs ls v50 v51 v52 x53 hz hP hS hl => ?_)
  subst hz
  replace h := un4_e h
  have e2 := hret _ h
  exact hR _ _ _ _ rfl (by rw [e2]; exact hP) hS dX0_trace_117
def fX0_find_b5 (n : Nat) (r1 : Nat) (lb2 : Nat) (v : Int32 × Int32 × bq_S) : Option ((Int32 × Int32 × bq_S) ⊕ ((Int32 × Int32 × bq_S) ⊕ (Int32 × bq_S))) :=
  un3 v (fun v3 v4 x5 =>
  if (8 : Int32) ≤ v4 then
  some (.inr (.inl (v3, v4, x5)))
  else
  (fX9_has ((x5.1 26 2) &&& (x5.1 26 6)) v4 x5).bind (fun o7 => un2 o7 (fun v9 x8 =>
  if v9 = 0 then
  bd (v4 + (1 : Int32)) (fun v11 =>
  some (.inl (v3, v11, x8)))
  else
  (fX8X0_from n v4 x8).bind (fun o12 => un2 o12 (fun v14 x13 =>
  if v14 ≤ v3 then
  bd (v3 - v14) (fun v16 =>
  bd (v4 + (1 : Int32)) (fun v17 =>
  some (.inl (v16, v17, x13))))
  else
  (fX0_trace n v3 r1 lb2 x13).bind (fun x19 =>
  some (.inr (.inr ((1 : Int32), x19)))))))))
def fX0_find (n : Nat) (p1 : Int32) (q2 : Nat) (la2 : Nat) (x0 : bq_S) : Option (Int32 × bq_S) :=
  (wh n (fX0_find_b5 n q2 la2) (p1, (0 : Int32), x0)).bind (fun e20 =>
  Sum.elim (fun z => un3 z (fun v21 v22 x23 =>
  some ((0 : Int32), x23))) (fun z => some z) e20)
theorem dX0_find_0 : decode cX0_find 0 = .ok (.iload_n 1, 1) := by decide +kernel
theorem dX0_find_1 : decode cX0_find 1 = .ok (.istore_n 3, 1) := by decide +kernel
theorem dX0_find_2 : decode cX0_find 2 = .ok (.iconst 0, 1) := by decide +kernel
theorem dX0_find_3 : decode cX0_find 3 = .ok (.istore 4, 2) := by decide +kernel
theorem dX0_find_5 : decode cX0_find 5 = .ok (.iload 4, 2) := by decide +kernel
theorem dX0_find_7 : decode cX0_find 7 = .ok (.bipush 8, 2) := by decide +kernel
theorem dX0_find_9 : decode cX0_find 9 = .ok (.if_icmp .ge 53, 3) := by decide +kernel
theorem dX0_find_12 : decode cX0_find 12 = .ok (.aload_n 0, 1) := by decide +kernel
theorem dX0_find_13 : decode cX0_find 13 = .ok (.getfield 66, 3) := by decide +kernel
theorem dX0_find_16 : decode cX0_find 16 = .ok (.aload_n 0, 1) := by decide +kernel
theorem dX0_find_17 : decode cX0_find 17 = .ok (.getfield 9, 3) := by decide +kernel
theorem dX0_find_20 : decode cX0_find 20 = .ok (.iand, 1) := by decide +kernel
theorem dX0_find_21 : decode cX0_find 21 = .ok (.iload 4, 2) := by decide +kernel
theorem dX0_find_23 : decode cX0_find 23 = .ok (.invokestatic 69, 3) := by decide +kernel
theorem dX0_find_26 : decode cX0_find 26 = .ok (.ifCond .eq 30, 3) := by decide +kernel
theorem dX0_find_29 : decode cX0_find 29 = .ok (.aload_n 0, 1) := by decide +kernel
theorem dX0_find_30 : decode cX0_find 30 = .ok (.iload 4, 2) := by decide +kernel
theorem dX0_find_32 : decode cX0_find 32 = .ok (.invokevirtual 73, 3) := by decide +kernel
theorem dX0_find_35 : decode cX0_find 35 = .ok (.istore 5, 2) := by decide +kernel
theorem dX0_find_37 : decode cX0_find 37 = .ok (.iload_n 3, 1) := by decide +kernel
theorem dX0_find_38 : decode cX0_find 38 = .ok (.iload 5, 2) := by decide +kernel
theorem dX0_find_40 : decode cX0_find 40 = .ok (.if_icmp .ge 11, 3) := by decide +kernel
theorem dX0_find_43 : decode cX0_find 43 = .ok (.aload_n 0, 1) := by decide +kernel
theorem dX0_find_44 : decode cX0_find 44 = .ok (.iload_n 3, 1) := by decide +kernel
theorem dX0_find_45 : decode cX0_find 45 = .ok (.aload_n 2, 1) := by decide +kernel
theorem dX0_find_46 : decode cX0_find 46 = .ok (.invokevirtual 76, 3) := by decide +kernel
theorem dX0_find_49 : decode cX0_find 49 = .ok (.iconst 1, 1) := by decide +kernel
theorem dX0_find_50 : decode cX0_find 50 = .ok (.ireturn, 1) := by decide +kernel
theorem dX0_find_51 : decode cX0_find 51 = .ok (.iload_n 3, 1) := by decide +kernel
theorem dX0_find_52 : decode cX0_find 52 = .ok (.iload 5, 2) := by decide +kernel
theorem dX0_find_54 : decode cX0_find 54 = .ok (.isub, 1) := by decide +kernel
theorem dX0_find_55 : decode cX0_find 55 = .ok (.istore_n 3, 1) := by decide +kernel
theorem dX0_find_56 : decode cX0_find 56 = .ok (.iinc 4 1, 3) := by decide +kernel
theorem dX0_find_59 : decode cX0_find 59 = .ok (.goto (-54), 3) := by decide +kernel
theorem dX0_find_62 : decode cX0_find 62 = .ok (.iconst 0, 1) := by decide +kernel
theorem dX0_find_63 : decode cX0_find 63 = .ok (.ireturn, 1) := by decide +kernel
set_option maxHeartbeats 4000000 in
set_option maxRecDepth 100000 in
theorem cX0_find_k_26_42 {l : Launch} {D : va_G} {a : Nat → Nat} {k : Nat → ClassId} {n : Nat} {p1 : Int32} {x0 xz : bq_S} {rz : Int32} (h : fX0_find n p1 42 8 x0 = some (rz, xz)) : bq_M l D bq_cl (bq_ty k) (bq_wC a k) yX0_find cX0_find 6 (some .boolean) { frames := 4, cells := 0, slots := 0, locals := 96 } [.ref (a 26), .int p1, .ref (a 42)] x0 (some rz) xz := by
  refine bq_ofW RX0 [(0, .ref (a 26)), (1, .int p1), (2, .ref (a 42))] (by decide +kernel) rfl (Nat.le_of_ble_eq_true rfl) rfl (bq_adC a k) ?_
  intro p e s m below meth c A Q ls S hK hD hA hR hS hP hl
  have hx := S.1; have hb := S.2.1; have hml := S.2.2.1; have hown := S.2.2.2.1; have hts := S.2.2.2.2
  have hret : ∀ z, some z = some (rz, xz) → (rz, xz) = z := fun z h => (Option.some.inj h).symm
  unfold fX0_find at h
  refine lv_iload_n hx hb dX0_find_0 rfl (lv_at hl 1 rfl) ?_
  refine lv_istore_n (lv' := [(3, .int p1), (0, .ref (a 26)), (1, .int p1), (2, .ref (a 42))]) hx hb dX0_find_1 rfl hl (by decide) rfl (fun ls hl => ?_)
  refine lv_iconst (v := (0 : Int32)) hx hb dX0_find_2 (by decide) ?_
  refine lv_istore (lv' := [(4, .int (0 : Int32)), (3, .int p1), (0, .ref (a 26)), (1, .int p1), (2, .ref (a 42))]) hx hb dX0_find_3 hl (by decide) rfl (fun ls hl => ?_)
  have hl5 : ∀ (kf : Nat) (v3 : Int32) (v4 : Int32) (x5 : bq_S) (eo : (Int32 × Int32 × bq_S) ⊕ (Int32 × bq_S)) (H : Heap) (locs : List Loc) (ls : Array Slot), wh kf (fX0_find_b5 n 42 8) (v3, v4, x5) = some eo → va_P D bq_cl (bq_wC a k x5) H → va_S A s.heap H locs → lv_has ls 6 [(0, .ref (a 26)), (2, .ref (a 42)), (3, .int v3), (4, .int v4)] → (∀ (H : Heap) (locs : List Loc) (ls : Array Slot) (v21 : Int32) (v22 : Int32) (x23 : bq_S), eo = .inl (v21, v22, x23) → va_P D bq_cl (bq_wC a k x23) H → va_S A s.heap H locs → lv_has ls 6 [] → W p l e { frames := 4, cells := 0, slots := 0, locals := 96 } s m [.ref (a 26), .int p1, .ref (a 42)].toArray below meth c H locs 0 0 Q (F0 m 62 ls [])) → (∀ z, eo = .inr z → (rz, xz) = z) → W p l e { frames := 4, cells := 0, slots := 0, locals := 96 } s m [.ref (a 26), .int p1, .ref (a 42)].toArray below meth c H locs 0 0 Q (F0 m 5 ls []) := by
    intro  kf
    induction kf with
    | zero => intro v3 v4 x5 eo H locs ls h; cases h
    | succ kf ih =>
      intro v3 v4 x5 eo H locs ls h hP hS hl kx kr
      obtain ⟨out, h, hw⟩ := wh_s h
      have hret : ∀ z, (some (.inr (.inr z)) : Option ((Int32 × Int32 × bq_S) ⊕ ((Int32 × Int32 × bq_S) ⊕ (Int32 × bq_S)))) = some out → (rz, xz) = z := fun z h => kr z (by cases h; exact (Option.some.inj hw).symm)
      unfold fX0_find_b5 at h
      replace h := un3_e h
      refine lv_iload hx hb dX0_find_5 (lv_at hl 3 rfl) ?_
      refine lv_bipush (v := (8 : Int32)) hx hb dX0_find_7 (by decide) ?_
      refine lv_icmp_ge (tgt := 62) hx hb dX0_find_9 (by decide) (fun c6 => ?_) (fun c6 => ?_)
      · replace h := (if_pos c6).symm.trans h
        cases h
        exact kx _ _ _ _ _ _ (Option.some.inj hw).symm hP hS (lv_sub hl [] rfl)
      · replace h := (if_neg c6).symm.trans h
        refine lv_aload_n hx hb dX0_find_12 rfl (lv_at hl 0 rfl) ?_
        refine bq_get (q0 := 26) S hK hP fl_X0_66_X0_2 rfl rfl rfl dX0_find_13 ?_
        refine lv_aload_n hx hb dX0_find_16 rfl (lv_at hl 0 rfl) ?_
        refine bq_get (q0 := 26) S hK hP fl_X0_9_X0_6 rfl rfl rfl dX0_find_17 ?_
        refine lv_iand hx hb dX0_find_20 ?_
        refine lv_iload hx hb dX0_find_21 (lv_at hl 3 rfl) ?_
        obtain ⟨o7, ho7, h⟩ := Option.bind_eq_some_iff.mp h
        obtain ⟨v9, x8⟩ := o7
        replace h := un2_e h
        refine bq_callSNi (As := [.int _, .int _]) S hK hD hA hP hS (cX9_has_k ho7) hd_yX9_has mn_X0_69 st_yX9_has ⟨rfl, rfl⟩ ⟨by decide, by decide⟩ rfl hl.1 rfl (Nat.le_of_ble_eq_true rfl) ⟨Nat.zero_le _, Nat.zero_le _⟩ dX0_find_23 (fun H locs hP hS => ?_)
        refine lv_if_eq (tgt := 56) hx hb dX0_find_26 (by decide) (fun c10 => ?_) (fun c10 => ?_)
        · replace h := (if_pos c10).symm.trans h
          obtain ⟨v11, hv11, h⟩ := bq_b h
          refine lv_iinc (v := v11) (lv' := [(4, .int v11), (0, .ref (a 26)), (2, .ref (a 42)), (3, .int v3)]) hx hb dX0_find_56 hl (k := 3) rfl (by rw [hv11]; rfl) (by decide) rfl (fun ls hl => ?_)
          refine lv_goto (tgt := 5) hx hb dX0_find_59 (by decide) ?_
          cases h
          exact ih _ _ _ _ _ _ _ hw hP hS (lv_sub hl [1, 2, 3, 0] rfl) kx kr
        · replace h := (if_neg c10).symm.trans h
          refine lv_aload_n hx hb dX0_find_29 rfl (lv_at hl 0 rfl) ?_
          refine lv_iload hx hb dX0_find_30 (lv_at hl 3 rfl) ?_
          obtain ⟨o12, ho12, h⟩ := Option.bind_eq_some_iff.mp h
          obtain ⟨v14, x13⟩ := o12
          replace h := un2_e h
          refine bq_callUi (q0 := 26) (owner := "BesideQuotes$Ways") (As := [.int _]) S hK hD hA hP hS (cX8X0_from_k_26 ho12) hd_yX8_from ml_X0_73 in_yX8_from (hts _ sl_X0_X0_yX8_from) sm_X0_from dc_X8_from (by decide +kernel) ⟨rfl, rfl⟩ ⟨by decide, by decide⟩ rfl rfl rfl hl.1 rfl (Nat.le_of_ble_eq_true rfl) ⟨Nat.zero_le _, Nat.zero_le _⟩ dX0_find_32 (fun H locs hP hS => ?_)
          refine lv_istore (lv' := [(5, .int v14), (0, .ref (a 26)), (2, .ref (a 42)), (3, .int v3), (4, .int v4)]) hx hb dX0_find_35 hl (by decide) rfl (fun ls hl => ?_)
          refine lv_iload_n hx hb dX0_find_37 rfl (lv_at hl 3 rfl) ?_
          refine lv_iload hx hb dX0_find_38 (lv_at hl 0 rfl) ?_
          refine lv_icmp_ge (tgt := 51) hx hb dX0_find_40 (by decide) (fun c15 => ?_) (fun c15 => ?_)
          · replace h := (if_pos c15).symm.trans h
            refine lv_iload_n hx hb dX0_find_51 rfl (lv_at hl 3 rfl) ?_
            refine lv_iload hx hb dX0_find_52 (lv_at hl 0 rfl) ?_
            refine lv_isub hx hb dX0_find_54 ?_
            refine lv_topi (fun v16 hv16 => ?_)
            replace h := bq_bv h hv16
            refine lv_istore_n (lv' := [(3, .int v16), (5, .int v14), (0, .ref (a 26)), (2, .ref (a 42)), (4, .int v4)]) hx hb dX0_find_55 rfl hl (by decide) rfl (fun ls hl => ?_)
            obtain ⟨v17, hv17, h⟩ := bq_b h
            refine lv_iinc (v := v17) (lv' := [(4, .int v17), (3, .int v16), (5, .int v14), (0, .ref (a 26)), (2, .ref (a 42))]) hx hb dX0_find_56 hl (k := 4) rfl (by rw [hv17]; rfl) (by decide) rfl (fun ls hl => ?_)
            refine lv_goto (tgt := 5) hx hb dX0_find_59 (by decide) ?_
            cases h
            exact ih _ _ _ _ _ _ _ hw hP hS (lv_sub hl [3, 4, 1, 0] rfl) kx kr
          · replace h := (if_neg c15).symm.trans h
            refine lv_aload_n hx hb dX0_find_43 rfl (lv_at hl 1 rfl) ?_
            refine lv_iload_n hx hb dX0_find_44 rfl (lv_at hl 3 rfl) ?_
            refine lv_aload_n hx hb dX0_find_45 rfl (lv_at hl 2 rfl) ?_
            obtain ⟨x19, ho18, h⟩ := Option.bind_eq_some_iff.mp h
            refine bq_callVv (q0 := 26) (As := [.int _, .ref (a 42)]) S hK hD hA hP hS (cX0_trace_k_26_42 ho18) hd_yX0_trace ml_X0_76 in_yX0_trace (hts _ sl_X0_X0_yX0_trace) ⟨rfl, rfl⟩ ⟨by decide, by decide⟩ rfl rfl rfl hl.1 rfl (Nat.le_of_ble_eq_true rfl) ⟨Nat.zero_le _, Nat.zero_le _⟩ dX0_find_46 (fun H locs hP hS => ?_)
            refine lv_iconst (v := (1 : Int32)) hx hb dX0_find_49 (by decide) ?_
            obtain ⟨e1, e2⟩ := Prod.mk.inj (hret _ h)
            exact hR _ _ _ _ _ (congrArg some e1) rfl (by rw [e2]; exact hP) hS dX0_find_50
  obtain ⟨e20, he20, h⟩ := Option.bind_eq_some_iff.mp h
  refine hl5 n _ _ _ e20 _ _ _ he20 hP hS (lv_sub hl [2, 4, 1, 0] rfl) (fun H locs ls v21 v22 x23 hz hP hS hl => ?_) (fun z hz => hret z (bq_ir h hz :))
  replace h := bq_il h hz
  replace h := un3_e h
  refine lv_iconst (v := (0 : Int32)) hx hb dX0_find_62 (by decide) ?_
  obtain ⟨e1, e2⟩ := Prod.mk.inj (hret _ h)
  exact hR _ _ _ _ _ (congrArg some e1) rfl (by rw [e2]; exact hP) hS dX0_find_63
def fX9_row (n : Nat) (p1 : Int32) (p2 : Int32) (p3 : Int32) (x0 : bq_S) : Option (Int32 × bq_S) :=
  (fX4_isSet 1 p1 x0).bind (fun o1 => un2 o1 (fun v3 x2 =>
  if v3 = 0 then
  some ((-1 : Int32), x2)
  else
  if p2 < 0 then
  some ((-1 : Int32), x2)
  else
  if p3 < 0 then
  some ((-1 : Int32), x2)
  else
  (fJ6_bitCount p1 x2).bind (fun o7 => un2 o7 (fun v9 x8 =>
  if p3 < v9 then
  (fX0_askRowsOf p1 x8).bind (fun x12 =>
  (fX0_find n p2 42 8 x12).bind (fun o13 => un2 o13 (fun v15 x14 =>
  if v15 = 0 then
  some ((-4 : Int32), x14)
  else
  if ok_i p3 8 then
  some ((x14.1 42 p3.toNatClampNeg), x14)
  else none)))
  else
  some ((-1 : Int32), x8)))))
theorem dX9_row_0 : decode cX9_row 0 = .ok (.aload_n 0, 1) := by decide +kernel
theorem dX9_row_1 : decode cX9_row 1 = .ok (.getfield 10, 3) := by decide +kernel
theorem dX9_row_4 : decode cX9_row 4 = .ok (.iload_n 1, 1) := by decide +kernel
theorem dX9_row_5 : decode cX9_row 5 = .ok (.invokevirtual 186, 3) := by decide +kernel
theorem dX9_row_8 : decode cX9_row 8 = .ok (.ifCond .eq 19, 3) := by decide +kernel
theorem dX9_row_11 : decode cX9_row 11 = .ok (.iload_n 2, 1) := by decide +kernel
theorem dX9_row_12 : decode cX9_row 12 = .ok (.ifCond .lt 15, 3) := by decide +kernel
theorem dX9_row_15 : decode cX9_row 15 = .ok (.iload_n 3, 1) := by decide +kernel
theorem dX9_row_16 : decode cX9_row 16 = .ok (.ifCond .lt 11, 3) := by decide +kernel
theorem dX9_row_19 : decode cX9_row 19 = .ok (.iload_n 3, 1) := by decide +kernel
theorem dX9_row_20 : decode cX9_row 20 = .ok (.iload_n 1, 1) := by decide +kernel
theorem dX9_row_21 : decode cX9_row 21 = .ok (.invokestatic 196, 3) := by decide +kernel
theorem dX9_row_24 : decode cX9_row 24 = .ok (.if_icmp .lt 5, 3) := by decide +kernel
theorem dX9_row_27 : decode cX9_row 27 = .ok (.iconst (-1), 1) := by decide +kernel
theorem dX9_row_28 : decode cX9_row 28 = .ok (.ireturn, 1) := by decide +kernel
theorem dX9_row_29 : decode cX9_row 29 = .ok (.aload_n 0, 1) := by decide +kernel
theorem dX9_row_30 : decode cX9_row 30 = .ok (.getfield 34, 3) := by decide +kernel
theorem dX9_row_33 : decode cX9_row 33 = .ok (.iload_n 1, 1) := by decide +kernel
theorem dX9_row_34 : decode cX9_row 34 = .ok (.invokevirtual 189, 3) := by decide +kernel
theorem dX9_row_37 : decode cX9_row 37 = .ok (.aload_n 0, 1) := by decide +kernel
theorem dX9_row_38 : decode cX9_row 38 = .ok (.getfield 34, 3) := by decide +kernel
theorem dX9_row_41 : decode cX9_row 41 = .ok (.iload_n 2, 1) := by decide +kernel
theorem dX9_row_42 : decode cX9_row 42 = .ok (.aload_n 0, 1) := by decide +kernel
theorem dX9_row_43 : decode cX9_row 43 = .ok (.getfield 75, 3) := by decide +kernel
theorem dX9_row_46 : decode cX9_row 46 = .ok (.invokevirtual 201, 3) := by decide +kernel
theorem dX9_row_49 : decode cX9_row 49 = .ok (.ifCond .eq 12, 3) := by decide +kernel
theorem dX9_row_52 : decode cX9_row 52 = .ok (.aload_n 0, 1) := by decide +kernel
theorem dX9_row_53 : decode cX9_row 53 = .ok (.getfield 75, 3) := by decide +kernel
theorem dX9_row_56 : decode cX9_row 56 = .ok (.iload_n 3, 1) := by decide +kernel
theorem dX9_row_57 : decode cX9_row 57 = .ok (.iaload, 1) := by decide +kernel
theorem dX9_row_58 : decode cX9_row 58 = .ok (.goto 5, 3) := by decide +kernel
theorem dX9_row_61 : decode cX9_row 61 = .ok (.bipush (-4), 2) := by decide +kernel
theorem dX9_row_63 : decode cX9_row 63 = .ok (.ireturn, 1) := by decide +kernel
set_option maxHeartbeats 4000000 in
set_option maxRecDepth 100000 in
theorem cX9_row_k_0 {l : Launch} {D : va_G} {a : Nat → Nat} {k : Nat → ClassId} {n : Nat} {p1 : Int32} {p2 : Int32} {p3 : Int32} {x0 xz : bq_S} {rz : Int32} (h : fX9_row n p1 p2 p3 x0 = some (rz, xz)) : bq_M l D bq_cl (bq_ty k) (bq_wC a k) yX9_row cX9_row 4 (some .int) { frames := 5, cells := 0, slots := 0, locals := 121 } [.ref (a 0), .int p1, .int p2, .int p3] x0 (some rz) xz := by
  refine bq_ofW RX9 [(0, .ref (a 0)), (1, .int p1), (2, .int p2), (3, .int p3)] (by decide +kernel) rfl (Nat.le_of_ble_eq_true rfl) rfl (bq_adC a k) ?_
  intro p e s m below meth c A Q ls S hK hD hA hR hS hP hl
  have hx := S.1; have hb := S.2.1; have hml := S.2.2.1; have hown := S.2.2.2.1; have hts := S.2.2.2.2
  have hret : ∀ z, some z = some (rz, xz) → (rz, xz) = z := fun z h => (Option.some.inj h).symm
  unfold fX9_row at h
  refine lv_aload_n hx hb dX9_row_0 rfl (lv_at hl 0 rfl) ?_
  refine bq_get (q0 := 0) S hK hP fl_X9_10_X9_0 rfl rfl rfl dX9_row_1 ?_
  refine lv_iload_n hx hb dX9_row_4 rfl (lv_at hl 1 rfl) ?_
  obtain ⟨o1, ho1, h⟩ := Option.bind_eq_some_iff.mp h
  obtain ⟨v3, x2⟩ := o1
  replace h := un2_e h
  refine bq_callVi (q0 := 1) (As := [.int _]) S hK hD hA hP hS (cX4_isSet_k_1 ho1) hd_yX4_isSet ml_X9_186 in_yX4_isSet (hts _ sl_X4_X4_yX4_isSet) ⟨rfl, rfl⟩ ⟨by decide, by decide⟩ rfl rfl rfl hl.1 rfl (Nat.le_of_ble_eq_true rfl) ⟨Nat.zero_le _, Nat.zero_le _⟩ dX9_row_5 (fun H locs hP hS => ?_)
  refine lv_if_eq (tgt := 27) hx hb dX9_row_8 (by decide) (fun c4 => ?_) (fun c4 => ?_)
  · replace h := (if_pos c4).symm.trans h
    refine lv_iconst (v := (-1 : Int32)) hx hb dX9_row_27 (by decide) ?_
    obtain ⟨e1, e2⟩ := Prod.mk.inj (hret _ h)
    exact hR _ _ _ _ _ (congrArg some e1) rfl (by rw [e2]; exact hP) hS dX9_row_28
  · replace h := (if_neg c4).symm.trans h
    refine lv_iload_n hx hb dX9_row_11 rfl (lv_at hl 2 rfl) ?_
    refine lv_if_lt (tgt := 27) hx hb dX9_row_12 (by decide) (fun c5 => ?_) (fun c5 => ?_)
    · replace h := (if_pos c5).symm.trans h
      refine lv_iconst (v := (-1 : Int32)) hx hb dX9_row_27 (by decide) ?_
      obtain ⟨e1, e2⟩ := Prod.mk.inj (hret _ h)
      exact hR _ _ _ _ _ (congrArg some e1) rfl (by rw [e2]; exact hP) hS dX9_row_28
    · replace h := (if_neg c5).symm.trans h
      refine lv_iload_n hx hb dX9_row_15 rfl (lv_at hl 3 rfl) ?_
      refine lv_if_lt (tgt := 27) hx hb dX9_row_16 (by decide) (fun c6 => ?_) (fun c6 => ?_)
      · replace h := (if_pos c6).symm.trans h
        refine lv_iconst (v := (-1 : Int32)) hx hb dX9_row_27 (by decide) ?_
        obtain ⟨e1, e2⟩ := Prod.mk.inj (hret _ h)
        exact hR _ _ _ _ _ (congrArg some e1) rfl (by rw [e2]; exact hP) hS dX9_row_28
      · replace h := (if_neg c6).symm.trans h
        refine lv_iload_n hx hb dX9_row_19 rfl (lv_at hl 3 rfl) ?_
        refine lv_iload_n hx hb dX9_row_20 rfl (lv_at hl 1 rfl) ?_
        obtain ⟨o7, ho7, h⟩ := Option.bind_eq_some_iff.mp h
        obtain ⟨v9, x8⟩ := o7
        replace h := un2_e h
        refine bq_callSi (As := [.int _]) S hK hD hA hP hS (cJ6_bitCount_k ho7) hd_yJ6_bitCount_0f7a4 ml_X9_196 st_yJ6_bitCount_0f7a4 ⟨rfl, rfl⟩ ⟨by decide, by decide⟩ rfl hl.1 rfl (Nat.le_of_ble_eq_true rfl) ⟨Nat.zero_le _, Nat.zero_le _⟩ dX9_row_21 (fun H locs hP hS => ?_)
        refine lv_icmp_lt (tgt := 29) hx hb dX9_row_24 (by decide) (fun c10 => ?_) (fun c10 => ?_)
        · replace h := (if_pos c10).symm.trans h
          refine lv_aload_n hx hb dX9_row_29 rfl (lv_at hl 0 rfl) ?_
          refine bq_get (q0 := 0) S hK hP fl_X9_34_X9_4 rfl rfl rfl dX9_row_30 ?_
          refine lv_iload_n hx hb dX9_row_33 rfl (lv_at hl 1 rfl) ?_
          obtain ⟨x12, ho11, h⟩ := Option.bind_eq_some_iff.mp h
          refine bq_callVv (q0 := 26) (As := [.int _]) S hK hD hA hP hS (cX0_askRowsOf_k_26 ho11) hd_yX0_askRowsOf ml_X9_189 in_yX0_askRowsOf (hts _ sl_X0_X0_yX0_askRowsOf) ⟨rfl, rfl⟩ ⟨by decide, by decide⟩ rfl rfl rfl hl.1 rfl (Nat.le_of_ble_eq_true rfl) ⟨Nat.zero_le _, Nat.zero_le _⟩ dX9_row_34 (fun H locs hP hS => ?_)
          refine lv_aload_n hx hb dX9_row_37 rfl (lv_at hl 0 rfl) ?_
          refine bq_get (q0 := 0) S hK hP fl_X9_34_X9_4 rfl rfl rfl dX9_row_38 ?_
          refine lv_iload_n hx hb dX9_row_41 rfl (lv_at hl 2 rfl) ?_
          refine lv_aload_n hx hb dX9_row_42 rfl (lv_at hl 0 rfl) ?_
          refine bq_get (q0 := 0) S hK hP fl_X9_75_X9_10 rfl rfl rfl dX9_row_43 ?_
          obtain ⟨o13, ho13, h⟩ := Option.bind_eq_some_iff.mp h
          obtain ⟨v15, x14⟩ := o13
          replace h := un2_e h
          refine bq_callVi (q0 := 26) (As := [.int _, .ref (a 42)]) S hK hD hA hP hS (cX0_find_k_26_42 ho13) hd_yX0_find ml_X9_201 in_yX0_find (hts _ sl_X0_X0_yX0_find) ⟨rfl, rfl⟩ ⟨by decide, by decide⟩ rfl rfl rfl hl.1 rfl (Nat.le_of_ble_eq_true rfl) ⟨Nat.zero_le _, Nat.zero_le _⟩ dX9_row_46 (fun H locs hP hS => ?_)
          refine lv_if_eq (tgt := 61) hx hb dX9_row_49 (by decide) (fun c16 => ?_) (fun c16 => ?_)
          · replace h := (if_pos c16).symm.trans h
            refine lv_bipush (v := (-4 : Int32)) hx hb dX9_row_61 (by decide) ?_
            obtain ⟨e1, e2⟩ := Prod.mk.inj (hret _ h)
            exact hR _ _ _ _ _ (congrArg some e1) rfl (by rw [e2]; exact hP) hS dX9_row_63
          · replace h := (if_neg c16).symm.trans h
            refine lv_aload_n hx hb dX9_row_52 rfl (lv_at hl 0 rfl) ?_
            refine bq_get (q0 := 0) S hK hP fl_X9_75_X9_10 rfl rfl rfl dX9_row_53 ?_
            refine lv_iload_n hx hb dX9_row_56 rfl (lv_at hl 3 rfl) ?_
            obtain ⟨g17, h⟩ := bq_gd h
            refine va_iald (D := D) hx hb hK hP 42 0 rfl rfl g17 dX9_row_57 ?_
            refine lv_goto (tgt := 63) hx hb dX9_row_58 (by decide) ?_
            obtain ⟨e1, e2⟩ := Prod.mk.inj (hret _ h)
            exact hR _ _ _ _ _ (congrArg some e1) rfl (by rw [e2]; exact hP) hS dX9_row_63
        · replace h := (if_neg c10).symm.trans h
          refine lv_iconst (v := (-1 : Int32)) hx hb dX9_row_27 (by decide) ?_
          obtain ⟨e1, e2⟩ := Prod.mk.inj (hret _ h)
          exact hR _ _ _ _ _ (congrArg some e1) rfl (by rw [e2]; exact hP) hS dX9_row_28
def fX1_partOf_b21 (n : Nat) (v9 : Int32) (v10 : Int32) (v11 : Int32) (v : Int32 × Int32 × bq_S) : Option ((Int32 × Int32 × bq_S) ⊕ (Int32 × Int32 × bq_S)) :=
  un3 v (fun v12 v13 x14 =>
  if (8 : Int32) ≤ v13 then
  some (.inr (v12, v13, x14))
  else
  (fX9_has v10 v13 x14).bind (fun o16 => un2 o16 (fun v18 x17 =>
  if v18 = 0 then
  bd (v12 ||| (0 : Int32)) (fun v20 =>
  bd (v13 + (1 : Int32)) (fun v21 =>
  some (.inl (v20, v21, x17))))
  else
  if ok_i v13 8 then
  bd (v12 ||| ((x17.1 7 v13.toNatClampNeg) &&& v9)) (fun v23 =>
  bd (v13 + (1 : Int32)) (fun v24 =>
  some (.inl (v23, v24, x17))))
  else none)))
def fX1_partOf_b8 (n : Nat) (v4 : Int32) (v : Int32 × Int32 × bq_S) : Option ((Int32 × Int32 × bq_S) ⊕ (Int32 × Int32 × bq_S)) :=
  un3 v (fun v5 v6 x7 =>
  if (8 : Int32) ≤ v6 then
  some (.inr (v5, v6, x7))
  else
  (wh n (fX1_partOf_b21 n v4 v5 v6) (v5, (0 : Int32), x7)).bind (fun e25 => un3 e25 (fun v26 v27 x28 =>
  if v26 = v5 then
  some (.inr (v5, v6, x28))
  else
  bd (v6 + (1 : Int32)) (fun v30 =>
  some (.inl (v26, v30, x28))))))
def fX1_partOf (n : Nat) (p1 : Int32) (p2 : Int32) (x0 : bq_S) : Option (Int32 × bq_S) :=
  (fX9_bit p1 x0).bind (fun o1 => un2 o1 (fun v3 x2 =>
  (wh n (fX1_partOf_b8 n p2) (v3, (0 : Int32), x2)).bind (fun e31 => un3 e31 (fun v32 v33 x34 =>
  some (v32, x34)))))
theorem dX1_partOf_0 : decode cX1_partOf 0 = .ok (.iload_n 1, 1) := by decide +kernel
theorem dX1_partOf_1 : decode cX1_partOf 1 = .ok (.invokestatic 38, 3) := by decide +kernel
theorem dX1_partOf_4 : decode cX1_partOf 4 = .ok (.istore_n 3, 1) := by decide +kernel
theorem dX1_partOf_5 : decode cX1_partOf 5 = .ok (.iconst 0, 1) := by decide +kernel
theorem dX1_partOf_6 : decode cX1_partOf 6 = .ok (.istore 4, 2) := by decide +kernel
theorem dX1_partOf_8 : decode cX1_partOf 8 = .ok (.iload 4, 2) := by decide +kernel
theorem dX1_partOf_10 : decode cX1_partOf 10 = .ok (.bipush 8, 2) := by decide +kernel
theorem dX1_partOf_12 : decode cX1_partOf 12 = .ok (.if_icmp .ge 70, 3) := by decide +kernel
theorem dX1_partOf_15 : decode cX1_partOf 15 = .ok (.iload_n 3, 1) := by decide +kernel
theorem dX1_partOf_16 : decode cX1_partOf 16 = .ok (.istore 5, 2) := by decide +kernel
theorem dX1_partOf_18 : decode cX1_partOf 18 = .ok (.iconst 0, 1) := by decide +kernel
theorem dX1_partOf_19 : decode cX1_partOf 19 = .ok (.istore 6, 2) := by decide +kernel
theorem dX1_partOf_21 : decode cX1_partOf 21 = .ok (.iload 6, 2) := by decide +kernel
theorem dX1_partOf_23 : decode cX1_partOf 23 = .ok (.bipush 8, 2) := by decide +kernel
theorem dX1_partOf_25 : decode cX1_partOf 25 = .ok (.if_icmp .ge 39, 3) := by decide +kernel
theorem dX1_partOf_28 : decode cX1_partOf 28 = .ok (.iload 5, 2) := by decide +kernel
theorem dX1_partOf_30 : decode cX1_partOf 30 = .ok (.iload_n 3, 1) := by decide +kernel
theorem dX1_partOf_31 : decode cX1_partOf 31 = .ok (.iload 6, 2) := by decide +kernel
theorem dX1_partOf_33 : decode cX1_partOf 33 = .ok (.invokestatic 30, 3) := by decide +kernel
theorem dX1_partOf_36 : decode cX1_partOf 36 = .ok (.ifCond .eq 18, 3) := by decide +kernel
theorem dX1_partOf_39 : decode cX1_partOf 39 = .ok (.aload_n 0, 1) := by decide +kernel
theorem dX1_partOf_40 : decode cX1_partOf 40 = .ok (.getfield 9, 3) := by decide +kernel
theorem dX1_partOf_43 : decode cX1_partOf 43 = .ok (.getfield 41, 3) := by decide +kernel
theorem dX1_partOf_46 : decode cX1_partOf 46 = .ok (.iload 6, 2) := by decide +kernel
theorem dX1_partOf_48 : decode cX1_partOf 48 = .ok (.iaload, 1) := by decide +kernel
theorem dX1_partOf_49 : decode cX1_partOf 49 = .ok (.iload_n 2, 1) := by decide +kernel
theorem dX1_partOf_50 : decode cX1_partOf 50 = .ok (.iand, 1) := by decide +kernel
theorem dX1_partOf_51 : decode cX1_partOf 51 = .ok (.goto 4, 3) := by decide +kernel
theorem dX1_partOf_54 : decode cX1_partOf 54 = .ok (.iconst 0, 1) := by decide +kernel
theorem dX1_partOf_55 : decode cX1_partOf 55 = .ok (.ior, 1) := by decide +kernel
theorem dX1_partOf_56 : decode cX1_partOf 56 = .ok (.istore 5, 2) := by decide +kernel
theorem dX1_partOf_58 : decode cX1_partOf 58 = .ok (.iinc 6 1, 3) := by decide +kernel
theorem dX1_partOf_61 : decode cX1_partOf 61 = .ok (.goto (-40), 3) := by decide +kernel
theorem dX1_partOf_64 : decode cX1_partOf 64 = .ok (.iload 5, 2) := by decide +kernel
theorem dX1_partOf_66 : decode cX1_partOf 66 = .ok (.iload_n 3, 1) := by decide +kernel
theorem dX1_partOf_67 : decode cX1_partOf 67 = .ok (.if_icmp .ne 6, 3) := by decide +kernel
theorem dX1_partOf_70 : decode cX1_partOf 70 = .ok (.goto 12, 3) := by decide +kernel
theorem dX1_partOf_73 : decode cX1_partOf 73 = .ok (.iload 5, 2) := by decide +kernel
theorem dX1_partOf_75 : decode cX1_partOf 75 = .ok (.istore_n 3, 1) := by decide +kernel
theorem dX1_partOf_76 : decode cX1_partOf 76 = .ok (.iinc 4 1, 3) := by decide +kernel
theorem dX1_partOf_79 : decode cX1_partOf 79 = .ok (.goto (-71), 3) := by decide +kernel
theorem dX1_partOf_82 : decode cX1_partOf 82 = .ok (.iload_n 3, 1) := by decide +kernel
theorem dX1_partOf_83 : decode cX1_partOf 83 = .ok (.ireturn, 1) := by decide +kernel
set_option maxHeartbeats 4000000 in
set_option maxRecDepth 100000 in
theorem cX1_partOf_k_32 {l : Launch} {D : va_G} {a : Nat → Nat} {k : Nat → ClassId} {n : Nat} {p1 : Int32} {p2 : Int32} {x0 xz : bq_S} {rz : Int32} (h : fX1_partOf n p1 p2 x0 = some (rz, xz)) : bq_M l D bq_cl (bq_ty k) (bq_wC a k) yX1_partOf cX1_partOf 7 (some .int) { frames := 1, cells := 0, slots := 0, locals := 21 } [.ref (a 32), .int p1, .int p2] x0 (some rz) xz := by
  refine bq_ofW RX1 [(0, .ref (a 32)), (1, .int p1), (2, .int p2)] (by decide +kernel) rfl (Nat.le_of_ble_eq_true rfl) rfl (bq_adC a k) ?_
  intro p e s m below meth c A Q ls S hK hD hA hR hS hP hl
  have hx := S.1; have hb := S.2.1; have hml := S.2.2.1; have hown := S.2.2.2.1; have hts := S.2.2.2.2
  have hret : ∀ z, some z = some (rz, xz) → (rz, xz) = z := fun z h => (Option.some.inj h).symm
  unfold fX1_partOf at h
  refine lv_iload_n hx hb dX1_partOf_0 rfl (lv_at hl 1 rfl) ?_
  obtain ⟨o1, ho1, h⟩ := Option.bind_eq_some_iff.mp h
  obtain ⟨v3, x2⟩ := o1
  replace h := un2_e h
  refine bq_callSNi (As := [.int _]) S hK hD hA hP hS (cX9_bit_k ho1) hd_yX9_bit mn_X1_38 st_yX9_bit ⟨rfl, rfl⟩ ⟨by decide, by decide⟩ rfl hl.1 rfl (Nat.le_of_ble_eq_true rfl) ⟨Nat.zero_le _, Nat.zero_le _⟩ dX1_partOf_1 (fun H locs hP hS => ?_)
  refine lv_istore_n (lv' := [(3, .int v3), (0, .ref (a 32)), (1, .int p1), (2, .int p2)]) hx hb dX1_partOf_4 rfl hl (by decide) rfl (fun ls hl => ?_)
  refine lv_iconst (v := (0 : Int32)) hx hb dX1_partOf_5 (by decide) ?_
  refine lv_istore (lv' := [(4, .int (0 : Int32)), (3, .int v3), (0, .ref (a 32)), (1, .int p1), (2, .int p2)]) hx hb dX1_partOf_6 hl (by decide) rfl (fun ls hl => ?_)
  have hl8 : ∀ (v4 : Int32) (kf : Nat) (v5 : Int32) (v6 : Int32) (x7 : bq_S) (eo : Int32 × Int32 × bq_S) (H : Heap) (locs : List Loc) (ls : Array Slot), wh kf (fX1_partOf_b8 n v4) (v5, v6, x7) = some eo → va_P D bq_cl (bq_wC a k x7) H → va_S A s.heap H locs → lv_has ls 7 [(0, .ref (a 32)), (2, .int v4), (3, .int v5), (4, .int v6)] → (∀ (H : Heap) (locs : List Loc) (ls : Array Slot) (v32 : Int32) (v33 : Int32) (x34 : bq_S), eo = (v32, v33, x34) → va_P D bq_cl (bq_wC a k x34) H → va_S A s.heap H locs → lv_has ls 7 [(3, .int v32)] → W p l e { frames := 1, cells := 0, slots := 0, locals := 21 } s m [.ref (a 32), .int p1, .int p2].toArray below meth c H locs 0 0 Q (F0 m 82 ls [])) → W p l e { frames := 1, cells := 0, slots := 0, locals := 21 } s m [.ref (a 32), .int p1, .int p2].toArray below meth c H locs 0 0 Q (F0 m 8 ls []) := by
    intro v4 kf
    induction kf with
    | zero => intro v5 v6 x7 eo H locs ls h; cases h
    | succ kf ih =>
      intro v5 v6 x7 eo H locs ls h hP hS hl kx
      obtain ⟨out, h, hw⟩ := wh_s h
      unfold fX1_partOf_b8 at h
      replace h := un3_e h
      refine lv_iload hx hb dX1_partOf_8 (lv_at hl 3 rfl) ?_
      refine lv_bipush (v := (8 : Int32)) hx hb dX1_partOf_10 (by decide) ?_
      refine lv_icmp_ge (tgt := 82) hx hb dX1_partOf_12 (by decide) (fun c8 => ?_) (fun c8 => ?_)
      · replace h := (if_pos c8).symm.trans h
        cases h
        exact kx _ _ _ _ _ _ (Option.some.inj hw).symm hP hS (lv_sub hl [2] rfl)
      · replace h := (if_neg c8).symm.trans h
        refine lv_iload_n hx hb dX1_partOf_15 rfl (lv_at hl 2 rfl) ?_
        refine lv_istore (lv' := [(5, .int v5), (0, .ref (a 32)), (2, .int v4), (3, .int v5), (4, .int v6)]) hx hb dX1_partOf_16 hl (by decide) rfl (fun ls hl => ?_)
        refine lv_iconst (v := (0 : Int32)) hx hb dX1_partOf_18 (by decide) ?_
        refine lv_istore (lv' := [(6, .int (0 : Int32)), (5, .int v5), (0, .ref (a 32)), (2, .int v4), (3, .int v5), (4, .int v6)]) hx hb dX1_partOf_19 hl (by decide) rfl (fun ls hl => ?_)
        have hl21 : ∀ (v9 : Int32) (v10 : Int32) (v11 : Int32) (kf : Nat) (v12 : Int32) (v13 : Int32) (x14 : bq_S) (eo : Int32 × Int32 × bq_S) (H : Heap) (locs : List Loc) (ls : Array Slot), wh kf (fX1_partOf_b21 n v9 v10 v11) (v12, v13, x14) = some eo → va_P D bq_cl (bq_wC a k x14) H → va_S A s.heap H locs → lv_has ls 7 [(0, .ref (a 32)), (2, .int v9), (3, .int v10), (4, .int v11), (5, .int v12), (6, .int v13)] → (∀ (H : Heap) (locs : List Loc) (ls : Array Slot) (v26 : Int32) (v27 : Int32) (x28 : bq_S), eo = (v26, v27, x28) → va_P D bq_cl (bq_wC a k x28) H → va_S A s.heap H locs → lv_has ls 7 [(0, .ref (a 32)), (2, .int v9), (3, .int v10), (4, .int v11), (5, .int v26)] → W p l e { frames := 1, cells := 0, slots := 0, locals := 21 } s m [.ref (a 32), .int p1, .int p2].toArray below meth c H locs 0 0 Q (F0 m 64 ls [])) → W p l e { frames := 1, cells := 0, slots := 0, locals := 21 } s m [.ref (a 32), .int p1, .int p2].toArray below meth c H locs 0 0 Q (F0 m 21 ls []) := by
          intro v9 v10 v11 kf
          induction kf with
          | zero => intro v12 v13 x14 eo H locs ls h; cases h
          | succ kf ih =>
            intro v12 v13 x14 eo H locs ls h hP hS hl kx
            obtain ⟨out, h, hw⟩ := wh_s h
            unfold fX1_partOf_b21 at h
            replace h := un3_e h
            refine lv_iload hx hb dX1_partOf_21 (lv_at hl 5 rfl) ?_
            refine lv_bipush (v := (8 : Int32)) hx hb dX1_partOf_23 (by decide) ?_
            refine lv_icmp_ge (tgt := 64) hx hb dX1_partOf_25 (by decide) (fun c15 => ?_) (fun c15 => ?_)
            · replace h := (if_pos c15).symm.trans h
              cases h
              exact kx _ _ _ _ _ _ (Option.some.inj hw).symm hP hS (lv_sub hl [0, 1, 2, 3, 4] rfl)
            · replace h := (if_neg c15).symm.trans h
              refine lv_iload hx hb dX1_partOf_28 (lv_at hl 4 rfl) ?_
              refine lv_iload_n hx hb dX1_partOf_30 rfl (lv_at hl 2 rfl) ?_
              refine lv_iload hx hb dX1_partOf_31 (lv_at hl 5 rfl) ?_
              obtain ⟨o16, ho16, h⟩ := Option.bind_eq_some_iff.mp h
              obtain ⟨v18, x17⟩ := o16
              replace h := un2_e h
              refine bq_callSNi (As := [.int _, .int _]) S hK hD hA hP hS (cX9_has_k ho16) hd_yX9_has mn_X1_30 st_yX9_has ⟨rfl, rfl⟩ ⟨by decide, by decide⟩ rfl hl.1 rfl (Nat.le_of_ble_eq_true rfl) ⟨Nat.zero_le _, Nat.zero_le _⟩ dX1_partOf_33 (fun H locs hP hS => ?_)
              refine lv_if_eq (tgt := 54) hx hb dX1_partOf_36 (by decide) (fun c19 => ?_) (fun c19 => ?_)
              · replace h := (if_pos c19).symm.trans h
                refine lv_iconst (v := (0 : Int32)) hx hb dX1_partOf_54 (by decide) ?_
                refine lv_ior hx hb dX1_partOf_55 ?_
                refine lv_topi (fun v20 hv20 => ?_)
                replace h := bq_bv h hv20
                refine lv_istore (lv' := [(5, .int v20), (0, .ref (a 32)), (2, .int v9), (3, .int v10), (4, .int v11), (6, .int v13)]) hx hb dX1_partOf_56 hl (by decide) rfl (fun ls hl => ?_)
                obtain ⟨v21, hv21, h⟩ := bq_b h
                refine lv_iinc (v := v21) (lv' := [(6, .int v21), (5, .int v20), (0, .ref (a 32)), (2, .int v9), (3, .int v10), (4, .int v11)]) hx hb dX1_partOf_58 hl (k := 5) rfl (by rw [hv21]; rfl) (by decide) rfl (fun ls hl => ?_)
                refine lv_goto (tgt := 21) hx hb dX1_partOf_61 (by decide) ?_
                cases h
                exact ih _ _ _ _ _ _ _ hw hP hS (lv_sub hl [2, 3, 4, 5, 1, 0] rfl) kx
              · replace h := (if_neg c19).symm.trans h
                refine lv_aload_n hx hb dX1_partOf_39 rfl (lv_at hl 0 rfl) ?_
                refine bq_get (q0 := 32) S hK hP fl_X1_9_X1_0 rfl rfl rfl dX1_partOf_40 ?_
                refine bq_get (q0 := 1) S hK hP fl_X1_41_X4_8 rfl rfl rfl dX1_partOf_43 ?_
                refine lv_iload hx hb dX1_partOf_46 (lv_at hl 5 rfl) ?_
                obtain ⟨g22, h⟩ := bq_gd h
                refine va_iald (D := D) hx hb hK hP 7 0 rfl rfl g22 dX1_partOf_48 ?_
                refine lv_iload_n hx hb dX1_partOf_49 rfl (lv_at hl 1 rfl) ?_
                refine lv_iand hx hb dX1_partOf_50 ?_
                refine lv_goto (tgt := 55) hx hb dX1_partOf_51 (by decide) ?_
                refine lv_ior hx hb dX1_partOf_55 ?_
                refine lv_topi (fun v23 hv23 => ?_)
                replace h := bq_bv h hv23
                refine lv_istore (lv' := [(5, .int v23), (0, .ref (a 32)), (2, .int v9), (3, .int v10), (4, .int v11), (6, .int v13)]) hx hb dX1_partOf_56 hl (by decide) rfl (fun ls hl => ?_)
                obtain ⟨v24, hv24, h⟩ := bq_b h
                refine lv_iinc (v := v24) (lv' := [(6, .int v24), (5, .int v23), (0, .ref (a 32)), (2, .int v9), (3, .int v10), (4, .int v11)]) hx hb dX1_partOf_58 hl (k := 5) rfl (by rw [hv24]; rfl) (by decide) rfl (fun ls hl => ?_)
                refine lv_goto (tgt := 21) hx hb dX1_partOf_61 (by decide) ?_
                cases h
                exact ih _ _ _ _ _ _ _ hw hP hS (lv_sub hl [2, 3, 4, 5, 1, 0] rfl) kx
        obtain ⟨e25, he25, h⟩ := Option.bind_eq_some_iff.mp h
        refine hl21 _ _ _ n _ _ _ e25 _ _ _ he25 hP hS (lv_sub hl [2, 3, 4, 5, 1, 0] rfl) (fun H locs ls v26 v27 x28 hz hP hS hl => ?_)
        subst hz
        replace h := un3_e h
        refine lv_iload hx hb dX1_partOf_64 (lv_at hl 4 rfl) ?_
        refine lv_iload_n hx hb dX1_partOf_66 rfl (lv_at hl 2 rfl) ?_
        refine lv_icmp_ne (tgt := 73) hx hb dX1_partOf_67 (by decide) (fun c29 => ?_) (fun c29 => ?_)
        · replace h := (if_neg c29).symm.trans h
          refine lv_iload hx hb dX1_partOf_73 (lv_at hl 4 rfl) ?_
          refine lv_istore_n (lv' := [(3, .int v26), (0, .ref (a 32)), (2, .int v4), (4, .int v6), (5, .int v26)]) hx hb dX1_partOf_75 rfl hl (by decide) rfl (fun ls hl => ?_)
          obtain ⟨v30, hv30, h⟩ := bq_b h
          refine lv_iinc (v := v30) (lv' := [(4, .int v30), (3, .int v26), (0, .ref (a 32)), (2, .int v4), (5, .int v26)]) hx hb dX1_partOf_76 hl (k := 3) rfl (by rw [hv30]; rfl) (by decide) rfl (fun ls hl => ?_)
          refine lv_goto (tgt := 8) hx hb dX1_partOf_79 (by decide) ?_
          cases h
          exact ih _ _ _ _ _ _ _ hw hP hS (lv_sub hl [2, 3, 1, 0] rfl) kx
        · replace h := (if_pos c29).symm.trans h
          refine lv_goto (tgt := 82) hx hb dX1_partOf_70 (by decide) ?_
          cases h
          exact kx _ _ _ _ _ _ (Option.some.inj hw).symm hP hS (lv_sub hl [2] rfl)
  obtain ⟨e31, he31, h⟩ := Option.bind_eq_some_iff.mp h
  refine hl8 _ n _ _ _ e31 _ _ _ he31 hP hS (lv_sub hl [2, 4, 1, 0] rfl) (fun H locs ls v32 v33 x34 hz hP hS hl => ?_)
  subst hz
  replace h := un3_e h
  refine lv_iload_n hx hb dX1_partOf_82 rfl (lv_at hl 0 rfl) ?_
  obtain ⟨e1, e2⟩ := Prod.mk.inj (hret _ h)
  exact hR _ _ _ _ _ (congrArg some e1) rfl (by rw [e2]; exact hP) hS dX1_partOf_83
def fX1_partsOf_b7 (n : Nat) (v1 : Int32) (v : Int32 × Int32 × Int32 × bq_S) : Option ((Int32 × Int32 × Int32 × bq_S) ⊕ (Int32 × Int32 × Int32 × bq_S)) :=
  un4 v (fun v2 v3 v4 x5 =>
  if (8 : Int32) ≤ v4 then
  some (.inr (v2, v3, v4, x5))
  else
  (fX9_has v3 v4 x5).bind (fun o7 => un2 o7 (fun v9 x8 =>
  if v9 = 0 then
  bd (v4 + (1 : Int32)) (fun v11 =>
  some (.inl (v2, v3, v11, x8)))
  else
  bd (v2 + (1 : Int32)) (fun v12 =>
  (fX1_partOf n v4 v1 x8).bind (fun o13 => un2 o13 (fun v15 x14 =>
  bd (v3 &&& (v15 ^^^ (-1 : Int32))) (fun v16 =>
  bd (v4 + (1 : Int32)) (fun v17 =>
  some (.inl (v12, v16, v17, x14))))))))))
def fX1_partsOf (n : Nat) (p1 : Int32) (x0 : bq_S) : Option (Int32 × bq_S) :=
  (wh n (fX1_partsOf_b7 n p1) ((0 : Int32), p1, (0 : Int32), x0)).bind (fun e18 => un4 e18 (fun v19 v20 v21 x22 =>
  some (v19, x22)))
theorem dX1_partsOf_0 : decode cX1_partsOf 0 = .ok (.iconst 0, 1) := by decide +kernel
theorem dX1_partsOf_1 : decode cX1_partsOf 1 = .ok (.istore_n 2, 1) := by decide +kernel
theorem dX1_partsOf_2 : decode cX1_partsOf 2 = .ok (.iload_n 1, 1) := by decide +kernel
theorem dX1_partsOf_3 : decode cX1_partsOf 3 = .ok (.istore_n 3, 1) := by decide +kernel
theorem dX1_partsOf_4 : decode cX1_partsOf 4 = .ok (.iconst 0, 1) := by decide +kernel
theorem dX1_partsOf_5 : decode cX1_partsOf 5 = .ok (.istore 4, 2) := by decide +kernel
theorem dX1_partsOf_7 : decode cX1_partsOf 7 = .ok (.iload 4, 2) := by decide +kernel
theorem dX1_partsOf_9 : decode cX1_partsOf 9 = .ok (.bipush 8, 2) := by decide +kernel
theorem dX1_partsOf_11 : decode cX1_partsOf 11 = .ok (.if_icmp .ge 33, 3) := by decide +kernel
theorem dX1_partsOf_14 : decode cX1_partsOf 14 = .ok (.iload_n 3, 1) := by decide +kernel
theorem dX1_partsOf_15 : decode cX1_partsOf 15 = .ok (.iload 4, 2) := by decide +kernel
theorem dX1_partsOf_17 : decode cX1_partsOf 17 = .ok (.invokestatic 30, 3) := by decide +kernel
theorem dX1_partsOf_20 : decode cX1_partsOf 20 = .ok (.ifCond .eq 18, 3) := by decide +kernel
theorem dX1_partsOf_23 : decode cX1_partsOf 23 = .ok (.iinc 2 1, 3) := by decide +kernel
theorem dX1_partsOf_26 : decode cX1_partsOf 26 = .ok (.iload_n 3, 1) := by decide +kernel
theorem dX1_partsOf_27 : decode cX1_partsOf 27 = .ok (.aload_n 0, 1) := by decide +kernel
theorem dX1_partsOf_28 : decode cX1_partsOf 28 = .ok (.iload 4, 2) := by decide +kernel
theorem dX1_partsOf_30 : decode cX1_partsOf 30 = .ok (.iload_n 1, 1) := by decide +kernel
theorem dX1_partsOf_31 : decode cX1_partsOf 31 = .ok (.invokevirtual 34, 3) := by decide +kernel
theorem dX1_partsOf_34 : decode cX1_partsOf 34 = .ok (.iconst (-1), 1) := by decide +kernel
theorem dX1_partsOf_35 : decode cX1_partsOf 35 = .ok (.ixor, 1) := by decide +kernel
theorem dX1_partsOf_36 : decode cX1_partsOf 36 = .ok (.iand, 1) := by decide +kernel
theorem dX1_partsOf_37 : decode cX1_partsOf 37 = .ok (.istore_n 3, 1) := by decide +kernel
theorem dX1_partsOf_38 : decode cX1_partsOf 38 = .ok (.iinc 4 1, 3) := by decide +kernel
theorem dX1_partsOf_41 : decode cX1_partsOf 41 = .ok (.goto (-34), 3) := by decide +kernel
theorem dX1_partsOf_44 : decode cX1_partsOf 44 = .ok (.iload_n 2, 1) := by decide +kernel
theorem dX1_partsOf_45 : decode cX1_partsOf 45 = .ok (.ireturn, 1) := by decide +kernel
set_option maxHeartbeats 4000000 in
set_option maxRecDepth 100000 in
theorem cX1_partsOf_k_32 {l : Launch} {D : va_G} {a : Nat → Nat} {k : Nat → ClassId} {n : Nat} {p1 : Int32} {x0 xz : bq_S} {rz : Int32} (h : fX1_partsOf n p1 x0 = some (rz, xz)) : bq_M l D bq_cl (bq_ty k) (bq_wC a k) yX1_partsOf cX1_partsOf 5 (some .int) { frames := 2, cells := 0, slots := 0, locals := 47 } [.ref (a 32), .int p1] x0 (some rz) xz := by
  refine bq_ofW RX1 [(0, .ref (a 32)), (1, .int p1)] (by decide +kernel) rfl (Nat.le_of_ble_eq_true rfl) rfl (bq_adC a k) ?_
  intro p e s m below meth c A Q ls S hK hD hA hR hS hP hl
  have hx := S.1; have hb := S.2.1; have hml := S.2.2.1; have hown := S.2.2.2.1; have hts := S.2.2.2.2
  have hret : ∀ z, some z = some (rz, xz) → (rz, xz) = z := fun z h => (Option.some.inj h).symm
  unfold fX1_partsOf at h
  refine lv_iconst (v := (0 : Int32)) hx hb dX1_partsOf_0 (by decide) ?_
  refine lv_istore_n (lv' := [(2, .int (0 : Int32)), (0, .ref (a 32)), (1, .int p1)]) hx hb dX1_partsOf_1 rfl hl (by decide) rfl (fun ls hl => ?_)
  refine lv_iload_n hx hb dX1_partsOf_2 rfl (lv_at hl 2 rfl) ?_
  refine lv_istore_n (lv' := [(3, .int p1), (2, .int (0 : Int32)), (0, .ref (a 32)), (1, .int p1)]) hx hb dX1_partsOf_3 rfl hl (by decide) rfl (fun ls hl => ?_)
  refine lv_iconst (v := (0 : Int32)) hx hb dX1_partsOf_4 (by decide) ?_
  refine lv_istore (lv' := [(4, .int (0 : Int32)), (3, .int p1), (2, .int (0 : Int32)), (0, .ref (a 32)), (1, .int p1)]) hx hb dX1_partsOf_5 hl (by decide) rfl (fun ls hl => ?_)
  have hl7 : ∀ (v1 : Int32) (kf : Nat) (v2 : Int32) (v3 : Int32) (v4 : Int32) (x5 : bq_S) (eo : Int32 × Int32 × Int32 × bq_S) (H : Heap) (locs : List Loc) (ls : Array Slot), wh kf (fX1_partsOf_b7 n v1) (v2, v3, v4, x5) = some eo → va_P D bq_cl (bq_wC a k x5) H → va_S A s.heap H locs → lv_has ls 5 [(0, .ref (a 32)), (1, .int v1), (2, .int v2), (3, .int v3), (4, .int v4)] → (∀ (H : Heap) (locs : List Loc) (ls : Array Slot) (v19 : Int32) (v20 : Int32) (v21 : Int32) (x22 : bq_S), eo = (v19, v20, v21, x22) → va_P D bq_cl (bq_wC a k x22) H → va_S A s.heap H locs → lv_has ls 5 [(2, .int v19)] → W p l e { frames := 2, cells := 0, slots := 0, locals := 47 } s m [.ref (a 32), .int p1].toArray below meth c H locs 0 0 Q (F0 m 44 ls [])) → W p l e { frames := 2, cells := 0, slots := 0, locals := 47 } s m [.ref (a 32), .int p1].toArray below meth c H locs 0 0 Q (F0 m 7 ls []) := by
    intro v1 kf
    induction kf with
    | zero => intro v2 v3 v4 x5 eo H locs ls h; cases h
    | succ kf ih =>
      intro v2 v3 v4 x5 eo H locs ls h hP hS hl kx
      obtain ⟨out, h, hw⟩ := wh_s h
      unfold fX1_partsOf_b7 at h
      replace h := un4_e h
      refine lv_iload hx hb dX1_partsOf_7 (lv_at hl 4 rfl) ?_
      refine lv_bipush (v := (8 : Int32)) hx hb dX1_partsOf_9 (by decide) ?_
      refine lv_icmp_ge (tgt := 44) hx hb dX1_partsOf_11 (by decide) (fun c6 => ?_) (fun c6 => ?_)
      · replace h := (if_pos c6).symm.trans h
        cases h
        exact kx _ _ _ _ _ _ _ (Option.some.inj hw).symm hP hS (lv_sub hl [2] rfl)
      · replace h := (if_neg c6).symm.trans h
        refine lv_iload_n hx hb dX1_partsOf_14 rfl (lv_at hl 3 rfl) ?_
        refine lv_iload hx hb dX1_partsOf_15 (lv_at hl 4 rfl) ?_
        obtain ⟨o7, ho7, h⟩ := Option.bind_eq_some_iff.mp h
        obtain ⟨v9, x8⟩ := o7
        replace h := un2_e h
        refine bq_callSNi (As := [.int _, .int _]) S hK hD hA hP hS (cX9_has_k ho7) hd_yX9_has mn_X1_30 st_yX9_has ⟨rfl, rfl⟩ ⟨by decide, by decide⟩ rfl hl.1 rfl (Nat.le_of_ble_eq_true rfl) ⟨Nat.zero_le _, Nat.zero_le _⟩ dX1_partsOf_17 (fun H locs hP hS => ?_)
        refine lv_if_eq (tgt := 38) hx hb dX1_partsOf_20 (by decide) (fun c10 => ?_) (fun c10 => ?_)
        · replace h := (if_pos c10).symm.trans h
          obtain ⟨v11, hv11, h⟩ := bq_b h
          refine lv_iinc (v := v11) (lv' := [(4, .int v11), (0, .ref (a 32)), (1, .int v1), (2, .int v2), (3, .int v3)]) hx hb dX1_partsOf_38 hl (k := 4) rfl (by rw [hv11]; rfl) (by decide) rfl (fun ls hl => ?_)
          refine lv_goto (tgt := 7) hx hb dX1_partsOf_41 (by decide) ?_
          cases h
          exact ih _ _ _ _ _ _ _ _ hw hP hS (lv_sub hl [1, 2, 3, 4, 0] rfl) kx
        · replace h := (if_neg c10).symm.trans h
          obtain ⟨v12, hv12, h⟩ := bq_b h
          refine lv_iinc (v := v12) (lv' := [(2, .int v12), (0, .ref (a 32)), (1, .int v1), (3, .int v3), (4, .int v4)]) hx hb dX1_partsOf_23 hl (k := 2) rfl (by rw [hv12]; rfl) (by decide) rfl (fun ls hl => ?_)
          refine lv_iload_n hx hb dX1_partsOf_26 rfl (lv_at hl 3 rfl) ?_
          refine lv_aload_n hx hb dX1_partsOf_27 rfl (lv_at hl 1 rfl) ?_
          refine lv_iload hx hb dX1_partsOf_28 (lv_at hl 4 rfl) ?_
          refine lv_iload_n hx hb dX1_partsOf_30 rfl (lv_at hl 2 rfl) ?_
          obtain ⟨o13, ho13, h⟩ := Option.bind_eq_some_iff.mp h
          obtain ⟨v15, x14⟩ := o13
          replace h := un2_e h
          refine bq_callVi (q0 := 32) (As := [.int _, .int _]) S hK hD hA hP hS (cX1_partOf_k_32 ho13) hd_yX1_partOf ml_X1_34 in_yX1_partOf (hts _ sl_X1_X1_yX1_partOf) ⟨rfl, rfl⟩ ⟨by decide, by decide⟩ rfl rfl rfl hl.1 rfl (Nat.le_of_ble_eq_true rfl) ⟨Nat.zero_le _, Nat.zero_le _⟩ dX1_partsOf_31 (fun H locs hP hS => ?_)
          refine lv_iconst (v := (-1 : Int32)) hx hb dX1_partsOf_34 (by decide) ?_
          refine lv_ixor hx hb dX1_partsOf_35 ?_
          refine lv_iand hx hb dX1_partsOf_36 ?_
          refine lv_topi (fun v16 hv16 => ?_)
          replace h := bq_bv h hv16
          refine lv_istore_n (lv' := [(3, .int v16), (2, .int v12), (0, .ref (a 32)), (1, .int v1), (4, .int v4)]) hx hb dX1_partsOf_37 rfl hl (by decide) rfl (fun ls hl => ?_)
          obtain ⟨v17, hv17, h⟩ := bq_b h
          refine lv_iinc (v := v17) (lv' := [(4, .int v17), (3, .int v16), (2, .int v12), (0, .ref (a 32)), (1, .int v1)]) hx hb dX1_partsOf_38 hl (k := 4) rfl (by rw [hv17]; rfl) (by decide) rfl (fun ls hl => ?_)
          refine lv_goto (tgt := 7) hx hb dX1_partsOf_41 (by decide) ?_
          cases h
          exact ih _ _ _ _ _ _ _ _ hw hP hS (lv_sub hl [3, 4, 2, 1, 0] rfl) kx
  obtain ⟨e18, he18, h⟩ := Option.bind_eq_some_iff.mp h
  refine hl7 _ n _ _ _ _ e18 _ _ _ he18 hP hS (lv_sub hl [3, 4, 2, 1, 0] rfl) (fun H locs ls v19 v20 v21 x22 hz hP hS hl => ?_)
  subst hz
  replace h := un4_e h
  refine lv_iload_n hx hb dX1_partsOf_44 rfl (lv_at hl 0 rfl) ?_
  obtain ⟨e1, e2⟩ := Prod.mk.inj (hret _ h)
  exact hR _ _ _ _ _ (congrArg some e1) rfl (by rw [e2]; exact hP) hS dX1_partsOf_45
def fX1_least_j73 (n : Nat) (v21 : Int32) (v22 : Int32) (v23 : Int32) (v24 : Int32) (v29 : Int32) (v30 : Int32) (x31 : bq_S) : Option ((Int32 × bq_S) ⊕ ((Int32 × bq_S) ⊕ (Int32 × bq_S))) :=
  if v30 = 0 then
  bd (v29 + (1 : Int32)) (fun v33 =>
  some (.inl (v33, x31)))
  else
  (fX1_partsOf n (v21 &&& (v29 ^^^ (-1 : Int32))) x31).bind (fun o34 => un2 o34 (fun v36 x35 =>
  if v36 ≤ v24 then
  bd (v29 + (1 : Int32)) (fun v38 =>
  some (.inl (v38, x35)))
  else
  some (.inr (.inr (v29, x35)))))
def fX1_least_b44 (n : Nat) (v21 : Int32) (v22 : Int32) (v23 : Int32) (v24 : Int32) (v : Int32 × bq_S) : Option ((Int32 × bq_S) ⊕ ((Int32 × bq_S) ⊕ (Int32 × bq_S))) :=
  un2 v (fun v25 x26 =>
  if v21 < v25 then
  some (.inr (.inl (v25, x26)))
  else
  if (v25 &&& (v21 ^^^ (-1 : Int32))) = 0 then
  (fJ6_bitCount v25 x26).bind (fun o39 => un2 o39 (fun v41 x40 =>
  if v41 = v23 then
  fX1_least_j73 n v21 v22 v23 v24 v25 (1 : Int32) x40
  else
  fX1_least_j73 n v21 v22 v23 v24 v25 (0 : Int32) x40))
  else
  fX1_least_j73 n v21 v22 v23 v24 v25 (0 : Int32) x26)
def fX1_least_j39 (n : Nat) (v12 : Int32) (v13 : Int32) (v18 : Int32) (v19 : Int32) (x20 : bq_S) : Option ((Int32 × bq_S) ⊕ ((Int32 × bq_S) ⊕ (Int32 × bq_S))) :=
  (wh n (fX1_least_b44 n v12 v13 v18 v19) ((0 : Int32), x20)).bind (fun e43 =>
  Sum.elim (fun z => un2 z (fun v44 x45 =>
  bd (v18 + (1 : Int32)) (fun v46 =>
  some (.inl (v46, x45))))) (fun z => some (.inr (.inr z))) e43)
def fX1_least_b22 (n : Nat) (v12 : Int32) (v13 : Int32) (v : Int32 × bq_S) : Option ((Int32 × bq_S) ⊕ ((Int32 × bq_S) ⊕ (Int32 × bq_S))) :=
  un2 v (fun v14 x15 =>
  if (8 : Int32) ≤ v14 then
  some (.inr (.inl (v14, x15)))
  else
  if v13 = 0 then
  fX1_least_j39 n v12 v13 v14 (v14 + (1 : Int32)) x15
  else
  fX1_least_j39 n v12 v13 v14 v14 x15)
def fX1_least_j21 (n : Nat) (v8 : Int32) (v9 : Int32) (v10 : Int32) (x11 : bq_S) : Option (Int32 × bq_S) :=
  (wh n (fX1_least_b22 n v8 v9) (v10, x11)).bind (fun e47 =>
  Sum.elim (fun z => un2 z (fun v48 x49 =>
  some ((-4 : Int32), x49))) (fun z => some z) e47)
def fX1_least (n : Nat) (p1 : Int32) (x0 : bq_S) : Option (Int32 × bq_S) :=
  (fJ6_bitCount p1 x0).bind (fun o1 => un2 o1 (fun v3 x2 =>
  (fX4_closes 1 v3 x2).bind (fun o4 => un2 o4 (fun v6 x5 =>
  if v6 = 0 then
  fX1_least_j21 n p1 v6 (0 : Int32) x5
  else
  fX1_least_j21 n p1 v6 (1 : Int32) x5))))
theorem dX1_least_0 : decode cX1_least 0 = .ok (.aload_n 0, 1) := by decide +kernel
theorem dX1_least_1 : decode cX1_least 1 = .ok (.getfield 9, 3) := by decide +kernel
theorem dX1_least_4 : decode cX1_least 4 = .ok (.iload_n 1, 1) := by decide +kernel
theorem dX1_least_5 : decode cX1_least 5 = .ok (.invokestatic 15, 3) := by decide +kernel
theorem dX1_least_8 : decode cX1_least 8 = .ok (.invokevirtual 21, 3) := by decide +kernel
theorem dX1_least_11 : decode cX1_least 11 = .ok (.istore_n 2, 1) := by decide +kernel
theorem dX1_least_12 : decode cX1_least 12 = .ok (.iload_n 2, 1) := by decide +kernel
theorem dX1_least_13 : decode cX1_least 13 = .ok (.ifCond .eq 7, 3) := by decide +kernel
theorem dX1_least_16 : decode cX1_least 16 = .ok (.iconst 1, 1) := by decide +kernel
theorem dX1_least_17 : decode cX1_least 17 = .ok (.goto 4, 3) := by decide +kernel
theorem dX1_least_20 : decode cX1_least 20 = .ok (.iconst 0, 1) := by decide +kernel
theorem dX1_least_21 : decode cX1_least 21 = .ok (.istore_n 3, 1) := by decide +kernel
theorem dX1_least_22 : decode cX1_least 22 = .ok (.iload_n 3, 1) := by decide +kernel
theorem dX1_least_23 : decode cX1_least 23 = .ok (.bipush 8, 2) := by decide +kernel
theorem dX1_least_25 : decode cX1_least 25 = .ok (.if_icmp .ge 85, 3) := by decide +kernel
theorem dX1_least_28 : decode cX1_least 28 = .ok (.iload_n 2, 1) := by decide +kernel
theorem dX1_least_29 : decode cX1_least 29 = .ok (.ifCond .eq 7, 3) := by decide +kernel
theorem dX1_least_32 : decode cX1_least 32 = .ok (.iload_n 3, 1) := by decide +kernel
theorem dX1_least_33 : decode cX1_least 33 = .ok (.goto 6, 3) := by decide +kernel
theorem dX1_least_36 : decode cX1_least 36 = .ok (.iload_n 3, 1) := by decide +kernel
theorem dX1_least_37 : decode cX1_least 37 = .ok (.iconst 1, 1) := by decide +kernel
theorem dX1_least_38 : decode cX1_least 38 = .ok (.iadd, 1) := by decide +kernel
theorem dX1_least_39 : decode cX1_least 39 = .ok (.istore 4, 2) := by decide +kernel
theorem dX1_least_41 : decode cX1_least 41 = .ok (.iconst 0, 1) := by decide +kernel
theorem dX1_least_42 : decode cX1_least 42 = .ok (.istore 5, 2) := by decide +kernel
theorem dX1_least_44 : decode cX1_least 44 = .ok (.iload 5, 2) := by decide +kernel
theorem dX1_least_46 : decode cX1_least 46 = .ok (.iload_n 1, 1) := by decide +kernel
theorem dX1_least_47 : decode cX1_least 47 = .ok (.if_icmp .gt 57, 3) := by decide +kernel
theorem dX1_least_50 : decode cX1_least 50 = .ok (.iload 5, 2) := by decide +kernel
theorem dX1_least_52 : decode cX1_least 52 = .ok (.iload_n 1, 1) := by decide +kernel
theorem dX1_least_53 : decode cX1_least 53 = .ok (.iconst (-1), 1) := by decide +kernel
theorem dX1_least_54 : decode cX1_least 54 = .ok (.ixor, 1) := by decide +kernel
theorem dX1_least_55 : decode cX1_least 55 = .ok (.iand, 1) := by decide +kernel
theorem dX1_least_56 : decode cX1_least 56 = .ok (.ifCond .ne 16, 3) := by decide +kernel
theorem dX1_least_59 : decode cX1_least 59 = .ok (.iload 5, 2) := by decide +kernel
theorem dX1_least_61 : decode cX1_least 61 = .ok (.invokestatic 15, 3) := by decide +kernel
theorem dX1_least_64 : decode cX1_least 64 = .ok (.iload_n 3, 1) := by decide +kernel
theorem dX1_least_65 : decode cX1_least 65 = .ok (.if_icmp .ne 7, 3) := by decide +kernel
theorem dX1_least_68 : decode cX1_least 68 = .ok (.iconst 1, 1) := by decide +kernel
theorem dX1_least_69 : decode cX1_least 69 = .ok (.goto 4, 3) := by decide +kernel
theorem dX1_least_72 : decode cX1_least 72 = .ok (.iconst 0, 1) := by decide +kernel
theorem dX1_least_73 : decode cX1_least 73 = .ok (.istore 6, 2) := by decide +kernel
theorem dX1_least_75 : decode cX1_least 75 = .ok (.iload 6, 2) := by decide +kernel
theorem dX1_least_77 : decode cX1_least 77 = .ok (.ifCond .eq 21, 3) := by decide +kernel
theorem dX1_least_80 : decode cX1_least 80 = .ok (.aload_n 0, 1) := by decide +kernel
theorem dX1_least_81 : decode cX1_least 81 = .ok (.iload_n 1, 1) := by decide +kernel
theorem dX1_least_82 : decode cX1_least 82 = .ok (.iload 5, 2) := by decide +kernel
theorem dX1_least_84 : decode cX1_least 84 = .ok (.iconst (-1), 1) := by decide +kernel
theorem dX1_least_85 : decode cX1_least 85 = .ok (.ixor, 1) := by decide +kernel
theorem dX1_least_86 : decode cX1_least 86 = .ok (.iand, 1) := by decide +kernel
theorem dX1_least_87 : decode cX1_least 87 = .ok (.invokevirtual 27, 3) := by decide +kernel
theorem dX1_least_90 : decode cX1_least 90 = .ok (.iload 4, 2) := by decide +kernel
theorem dX1_least_92 : decode cX1_least 92 = .ok (.if_icmp .le 6, 3) := by decide +kernel
theorem dX1_least_95 : decode cX1_least 95 = .ok (.iload 5, 2) := by decide +kernel
theorem dX1_least_97 : decode cX1_least 97 = .ok (.ireturn, 1) := by decide +kernel
theorem dX1_least_98 : decode cX1_least 98 = .ok (.iinc 5 1, 3) := by decide +kernel
theorem dX1_least_101 : decode cX1_least 101 = .ok (.goto (-57), 3) := by decide +kernel
theorem dX1_least_104 : decode cX1_least 104 = .ok (.iinc 3 1, 3) := by decide +kernel
theorem dX1_least_107 : decode cX1_least 107 = .ok (.goto (-85), 3) := by decide +kernel
theorem dX1_least_110 : decode cX1_least 110 = .ok (.bipush (-4), 2) := by decide +kernel
theorem dX1_least_112 : decode cX1_least 112 = .ok (.ireturn, 1) := by decide +kernel
set_option maxHeartbeats 4000000 in
set_option maxRecDepth 100000 in
theorem cX1_least_k_32 {l : Launch} {D : va_G} {a : Nat → Nat} {k : Nat → ClassId} {n : Nat} {p1 : Int32} {x0 xz : bq_S} {rz : Int32} (h : fX1_least n p1 x0 = some (rz, xz)) : bq_M l D bq_cl (bq_ty k) (bq_wC a k) yX1_least cX1_least 7 (some .int) { frames := 3, cells := 0, slots := 0, locals := 71 } [.ref (a 32), .int p1] x0 (some rz) xz := by
  refine bq_ofW RX1 [(0, .ref (a 32)), (1, .int p1)] (by decide +kernel) rfl (Nat.le_of_ble_eq_true rfl) rfl (bq_adC a k) ?_
  intro p e s m below meth c A Q ls S hK hD hA hR hS hP hl
  have hx := S.1; have hb := S.2.1; have hml := S.2.2.1; have hown := S.2.2.2.1; have hts := S.2.2.2.2
  have hret : ∀ z, some z = some (rz, xz) → (rz, xz) = z := fun z h => (Option.some.inj h).symm
  unfold fX1_least at h
  have hj21 : ∀ (v8 : Int32) (v9 : Int32) (v10 : Int32) (x11 : bq_S) (H : Heap) (locs : List Loc) (ls : Array Slot), fX1_least_j21 n v8 v9 v10 x11 = some (rz, xz) → va_P D bq_cl (bq_wC a k x11) H → va_S A s.heap H locs → lv_has ls 7 [(0, .ref (a 32)), (1, .int v8), (2, .int v9)] → W p l e { frames := 3, cells := 0, slots := 0, locals := 71 } s m [.ref (a 32), .int p1].toArray below meth c H locs 0 0 Q (F0 m 21 ls [.int v10]) := by
    intro v8 v9 v10 x11 H locs ls h hP hS hl
    unfold fX1_least_j21 at h
    refine lv_istore_n (lv' := [(3, .int v10), (0, .ref (a 32)), (1, .int v8), (2, .int v9)]) hx hb dX1_least_21 rfl hl (by decide) rfl (fun ls hl => ?_)
    have hl22 : ∀ (v12 : Int32) (v13 : Int32) (kf : Nat) (v14 : Int32) (x15 : bq_S) (eo : (Int32 × bq_S) ⊕ (Int32 × bq_S)) (H : Heap) (locs : List Loc) (ls : Array Slot), wh kf (fX1_least_b22 n v12 v13) (v14, x15) = some eo → va_P D bq_cl (bq_wC a k x15) H → va_S A s.heap H locs → lv_has ls 7 [(0, .ref (a 32)), (1, .int v12), (2, .int v13), (3, .int v14)] → (∀ (H : Heap) (locs : List Loc) (ls : Array Slot) (v48 : Int32) (x49 : bq_S), eo = .inl (v48, x49) → va_P D bq_cl (bq_wC a k x49) H → va_S A s.heap H locs → lv_has ls 7 [] → W p l e { frames := 3, cells := 0, slots := 0, locals := 71 } s m [.ref (a 32), .int p1].toArray below meth c H locs 0 0 Q (F0 m 110 ls [])) → (∀ z, eo = .inr z → (rz, xz) = z) → W p l e { frames := 3, cells := 0, slots := 0, locals := 71 } s m [.ref (a 32), .int p1].toArray below meth c H locs 0 0 Q (F0 m 22 ls []) := by
      intro v12 v13 kf
      induction kf with
      | zero => intro v14 x15 eo H locs ls h; cases h
      | succ kf ih =>
        intro v14 x15 eo H locs ls h hP hS hl kx kr
        obtain ⟨out, h, hw⟩ := wh_s h
        have hret : ∀ z, (some (.inr (.inr z)) : Option ((Int32 × bq_S) ⊕ ((Int32 × bq_S) ⊕ (Int32 × bq_S)))) = some out → (rz, xz) = z := fun z h => kr z (by cases h; exact (Option.some.inj hw).symm)
        unfold fX1_least_b22 at h
        replace h := un2_e h
        have hj39 : ∀ (v18 : Int32) (v19 : Int32) (x20 : bq_S) (H : Heap) (locs : List Loc) (ls : Array Slot), fX1_least_j39 n v12 v13 v18 v19 x20 = some out → va_P D bq_cl (bq_wC a k x20) H → va_S A s.heap H locs → lv_has ls 7 [(0, .ref (a 32)), (1, .int v12), (2, .int v13), (3, .int v18)] → W p l e { frames := 3, cells := 0, slots := 0, locals := 71 } s m [.ref (a 32), .int p1].toArray below meth c H locs 0 0 Q (F0 m 39 ls [.int v19]) := by
          intro v18 v19 x20 H locs ls h hP hS hl
          unfold fX1_least_j39 at h
          refine lv_istore (lv' := [(4, .int v19), (0, .ref (a 32)), (1, .int v12), (2, .int v13), (3, .int v18)]) hx hb dX1_least_39 hl (by decide) rfl (fun ls hl => ?_)
          refine lv_iconst (v := (0 : Int32)) hx hb dX1_least_41 (by decide) ?_
          refine lv_istore (lv' := [(5, .int (0 : Int32)), (4, .int v19), (0, .ref (a 32)), (1, .int v12), (2, .int v13), (3, .int v18)]) hx hb dX1_least_42 hl (by decide) rfl (fun ls hl => ?_)
          have hl44 : ∀ (v21 : Int32) (v22 : Int32) (v23 : Int32) (v24 : Int32) (kf : Nat) (v25 : Int32) (x26 : bq_S) (eo : (Int32 × bq_S) ⊕ (Int32 × bq_S)) (H : Heap) (locs : List Loc) (ls : Array Slot), wh kf (fX1_least_b44 n v21 v22 v23 v24) (v25, x26) = some eo → va_P D bq_cl (bq_wC a k x26) H → va_S A s.heap H locs → lv_has ls 7 [(0, .ref (a 32)), (1, .int v21), (2, .int v22), (3, .int v23), (4, .int v24), (5, .int v25)] → (∀ (H : Heap) (locs : List Loc) (ls : Array Slot) (v44 : Int32) (x45 : bq_S), eo = .inl (v44, x45) → va_P D bq_cl (bq_wC a k x45) H → va_S A s.heap H locs → lv_has ls 7 [(0, .ref (a 32)), (1, .int v21), (2, .int v22), (3, .int v23)] → W p l e { frames := 3, cells := 0, slots := 0, locals := 71 } s m [.ref (a 32), .int p1].toArray below meth c H locs 0 0 Q (F0 m 104 ls [])) → (∀ z, eo = .inr z → (rz, xz) = z) → W p l e { frames := 3, cells := 0, slots := 0, locals := 71 } s m [.ref (a 32), .int p1].toArray below meth c H locs 0 0 Q (F0 m 44 ls []) := by
            intro v21 v22 v23 v24 kf
            induction kf with
            | zero => intro v25 x26 eo H locs ls h; cases h
            | succ kf ih =>
              intro v25 x26 eo H locs ls h hP hS hl kx kr
              obtain ⟨out, h, hw⟩ := wh_s h
              have hret : ∀ z, (some (.inr (.inr z)) : Option ((Int32 × bq_S) ⊕ ((Int32 × bq_S) ⊕ (Int32 × bq_S)))) = some out → (rz, xz) = z := fun z h => kr z (by cases h; exact (Option.some.inj hw).symm)
              unfold fX1_least_b44 at h
              replace h := un2_e h
              have hj73 : ∀ (v29 : Int32) (v30 : Int32) (x31 : bq_S) (H : Heap) (locs : List Loc) (ls : Array Slot), fX1_least_j73 n v21 v22 v23 v24 v29 v30 x31 = some out → va_P D bq_cl (bq_wC a k x31) H → va_S A s.heap H locs → lv_has ls 7 [(0, .ref (a 32)), (1, .int v21), (2, .int v22), (3, .int v23), (4, .int v24), (5, .int v29)] → W p l e { frames := 3, cells := 0, slots := 0, locals := 71 } s m [.ref (a 32), .int p1].toArray below meth c H locs 0 0 Q (F0 m 73 ls [.int v30]) := by
                intro v29 v30 x31 H locs ls h hP hS hl
                unfold fX1_least_j73 at h
                refine lv_istore (lv' := [(6, .int v30), (0, .ref (a 32)), (1, .int v21), (2, .int v22), (3, .int v23), (4, .int v24), (5, .int v29)]) hx hb dX1_least_73 hl (by decide) rfl (fun ls hl => ?_)
                refine lv_iload hx hb dX1_least_75 (lv_at hl 0 rfl) ?_
                refine lv_if_eq (tgt := 98) hx hb dX1_least_77 (by decide) (fun c32 => ?_) (fun c32 => ?_)
                · replace h := (if_pos c32).symm.trans h
                  obtain ⟨v33, hv33, h⟩ := bq_b h
                  refine lv_iinc (v := v33) (lv' := [(5, .int v33), (6, .int v30), (0, .ref (a 32)), (1, .int v21), (2, .int v22), (3, .int v23), (4, .int v24)]) hx hb dX1_least_98 hl (k := 6) rfl (by rw [hv33]; rfl) (by decide) rfl (fun ls hl => ?_)
                  refine lv_goto (tgt := 44) hx hb dX1_least_101 (by decide) ?_
                  cases h
                  exact ih _ _ _ _ _ _ hw hP hS (lv_sub hl [2, 3, 4, 5, 6, 0] rfl) kx kr
                · replace h := (if_neg c32).symm.trans h
                  refine lv_aload_n hx hb dX1_least_80 rfl (lv_at hl 1 rfl) ?_
                  refine lv_iload_n hx hb dX1_least_81 rfl (lv_at hl 2 rfl) ?_
                  refine lv_iload hx hb dX1_least_82 (lv_at hl 6 rfl) ?_
                  refine lv_iconst (v := (-1 : Int32)) hx hb dX1_least_84 (by decide) ?_
                  refine lv_ixor hx hb dX1_least_85 ?_
                  refine lv_iand hx hb dX1_least_86 ?_
                  obtain ⟨o34, ho34, h⟩ := Option.bind_eq_some_iff.mp h
                  obtain ⟨v36, x35⟩ := o34
                  replace h := un2_e h
                  refine bq_callVi (q0 := 32) (As := [.int _]) S hK hD hA hP hS (cX1_partsOf_k_32 ho34) hd_yX1_partsOf ml_X1_27 in_yX1_partsOf (hts _ sl_X1_X1_yX1_partsOf) ⟨rfl, rfl⟩ ⟨by decide, by decide⟩ rfl rfl rfl hl.1 rfl (Nat.le_of_ble_eq_true rfl) ⟨Nat.zero_le _, Nat.zero_le _⟩ dX1_least_87 (fun H locs hP hS => ?_)
                  refine lv_iload hx hb dX1_least_90 (lv_at hl 5 rfl) ?_
                  refine lv_icmp_le (tgt := 98) hx hb dX1_least_92 (by decide) (fun c37 => ?_) (fun c37 => ?_)
                  · replace h := (if_pos c37).symm.trans h
                    obtain ⟨v38, hv38, h⟩ := bq_b h
                    refine lv_iinc (v := v38) (lv' := [(5, .int v38), (6, .int v30), (0, .ref (a 32)), (1, .int v21), (2, .int v22), (3, .int v23), (4, .int v24)]) hx hb dX1_least_98 hl (k := 6) rfl (by rw [hv38]; rfl) (by decide) rfl (fun ls hl => ?_)
                    refine lv_goto (tgt := 44) hx hb dX1_least_101 (by decide) ?_
                    cases h
                    exact ih _ _ _ _ _ _ hw hP hS (lv_sub hl [2, 3, 4, 5, 6, 0] rfl) kx kr
                  · replace h := (if_neg c37).symm.trans h
                    refine lv_iload hx hb dX1_least_95 (lv_at hl 6 rfl) ?_
                    obtain ⟨e1, e2⟩ := Prod.mk.inj (hret _ h)
                    exact hR _ _ _ _ _ (congrArg some e1) rfl (by rw [e2]; exact hP) hS dX1_least_97
              refine lv_iload hx hb dX1_least_44 (lv_at hl 5 rfl) ?_
              refine lv_iload_n hx hb dX1_least_46 rfl (lv_at hl 1 rfl) ?_
              refine lv_icmp_gt (tgt := 104) hx hb dX1_least_47 (by decide) (fun c27 => ?_) (fun c27 => ?_)
              · replace h := (if_pos c27).symm.trans h
                cases h
                exact kx _ _ _ _ _ (Option.some.inj hw).symm hP hS (lv_sub hl [0, 1, 2, 3] rfl)
              · replace h := (if_neg c27).symm.trans h
                refine lv_iload hx hb dX1_least_50 (lv_at hl 5 rfl) ?_
                refine lv_iload_n hx hb dX1_least_52 rfl (lv_at hl 1 rfl) ?_
                refine lv_iconst (v := (-1 : Int32)) hx hb dX1_least_53 (by decide) ?_
                refine lv_ixor hx hb dX1_least_54 ?_
                refine lv_iand hx hb dX1_least_55 ?_
                refine lv_if_ne (tgt := 72) hx hb dX1_least_56 (by decide) (fun c28 => ?_) (fun c28 => ?_)
                · replace h := (if_neg c28).symm.trans h
                  refine lv_iconst (v := (0 : Int32)) hx hb dX1_least_72 (by decide) ?_
                  exact hj73 _ _ _ _ _ _ h hP hS (lv_sub hl [0, 1, 2, 3, 4, 5] rfl)
                · replace h := (if_pos c28).symm.trans h
                  refine lv_iload hx hb dX1_least_59 (lv_at hl 5 rfl) ?_
                  obtain ⟨o39, ho39, h⟩ := Option.bind_eq_some_iff.mp h
                  obtain ⟨v41, x40⟩ := o39
                  replace h := un2_e h
                  refine bq_callSi (As := [.int _]) S hK hD hA hP hS (cJ6_bitCount_k ho39) hd_yJ6_bitCount_0f7a4 ml_X1_15 st_yJ6_bitCount_0f7a4 ⟨rfl, rfl⟩ ⟨by decide, by decide⟩ rfl hl.1 rfl (Nat.le_of_ble_eq_true rfl) ⟨Nat.zero_le _, Nat.zero_le _⟩ dX1_least_61 (fun H locs hP hS => ?_)
                  refine lv_iload_n hx hb dX1_least_64 rfl (lv_at hl 3 rfl) ?_
                  refine lv_icmp_ne (tgt := 72) hx hb dX1_least_65 (by decide) (fun c42 => ?_) (fun c42 => ?_)
                  · replace h := (if_neg c42).symm.trans h
                    refine lv_iconst (v := (0 : Int32)) hx hb dX1_least_72 (by decide) ?_
                    exact hj73 _ _ _ _ _ _ h hP hS (lv_sub hl [0, 1, 2, 3, 4, 5] rfl)
                  · replace h := (if_pos c42).symm.trans h
                    refine lv_iconst (v := (1 : Int32)) hx hb dX1_least_68 (by decide) ?_
                    refine lv_goto (tgt := 73) hx hb dX1_least_69 (by decide) ?_
                    exact hj73 _ _ _ _ _ _ h hP hS (lv_sub hl [0, 1, 2, 3, 4, 5] rfl)
          obtain ⟨e43, he43, h⟩ := Option.bind_eq_some_iff.mp h
          refine hl44 _ _ _ _ n _ _ e43 _ _ _ he43 hP hS (lv_sub hl [2, 3, 4, 5, 1, 0] rfl) (fun H locs ls v44 x45 hz hP hS hl => ?_) (fun z hz => hret z (bq_ir h hz :))
          replace h := bq_il h hz
          replace h := un2_e h
          obtain ⟨v46, hv46, h⟩ := bq_b h
          refine lv_iinc (v := v46) (lv' := [(3, .int v46), (0, .ref (a 32)), (1, .int v12), (2, .int v13)]) hx hb dX1_least_104 hl (k := 3) rfl (by rw [hv46]; rfl) (by decide) rfl (fun ls hl => ?_)
          refine lv_goto (tgt := 22) hx hb dX1_least_107 (by decide) ?_
          cases h
          exact ih _ _ _ _ _ _ hw hP hS (lv_sub hl [1, 2, 3, 0] rfl) kx kr
        refine lv_iload_n hx hb dX1_least_22 rfl (lv_at hl 3 rfl) ?_
        refine lv_bipush (v := (8 : Int32)) hx hb dX1_least_23 (by decide) ?_
        refine lv_icmp_ge (tgt := 110) hx hb dX1_least_25 (by decide) (fun c16 => ?_) (fun c16 => ?_)
        · replace h := (if_pos c16).symm.trans h
          cases h
          exact kx _ _ _ _ _ (Option.some.inj hw).symm hP hS (lv_sub hl [] rfl)
        · replace h := (if_neg c16).symm.trans h
          refine lv_iload_n hx hb dX1_least_28 rfl (lv_at hl 2 rfl) ?_
          refine lv_if_eq (tgt := 36) hx hb dX1_least_29 (by decide) (fun c17 => ?_) (fun c17 => ?_)
          · replace h := (if_pos c17).symm.trans h
            refine lv_iload_n hx hb dX1_least_36 rfl (lv_at hl 3 rfl) ?_
            refine lv_iconst (v := (1 : Int32)) hx hb dX1_least_37 (by decide) ?_
            refine lv_iadd hx hb dX1_least_38 ?_
            exact hj39 _ _ _ _ _ _ h hP hS (lv_sub hl [0, 1, 2, 3] rfl)
          · replace h := (if_neg c17).symm.trans h
            refine lv_iload_n hx hb dX1_least_32 rfl (lv_at hl 3 rfl) ?_
            refine lv_goto (tgt := 39) hx hb dX1_least_33 (by decide) ?_
            exact hj39 _ _ _ _ _ _ h hP hS (lv_sub hl [0, 1, 2, 3] rfl)
    obtain ⟨e47, he47, h⟩ := Option.bind_eq_some_iff.mp h
    refine hl22 _ _ n _ _ e47 _ _ _ he47 hP hS (lv_sub hl [1, 2, 3, 0] rfl) (fun H locs ls v48 x49 hz hP hS hl => ?_) (fun z hz => hret z (bq_ir h hz :))
    replace h := bq_il h hz
    replace h := un2_e h
    refine lv_bipush (v := (-4 : Int32)) hx hb dX1_least_110 (by decide) ?_
    obtain ⟨e1, e2⟩ := Prod.mk.inj (hret _ h)
    exact hR _ _ _ _ _ (congrArg some e1) rfl (by rw [e2]; exact hP) hS dX1_least_112
  refine lv_aload_n hx hb dX1_least_0 rfl (lv_at hl 0 rfl) ?_
  refine bq_get (q0 := 32) S hK hP fl_X1_9_X1_0 rfl rfl rfl dX1_least_1 ?_
  refine lv_iload_n hx hb dX1_least_4 rfl (lv_at hl 1 rfl) ?_
  obtain ⟨o1, ho1, h⟩ := Option.bind_eq_some_iff.mp h
  obtain ⟨v3, x2⟩ := o1
  replace h := un2_e h
  refine bq_callSi (As := [.int _]) S hK hD hA hP hS (cJ6_bitCount_k ho1) hd_yJ6_bitCount_0f7a4 ml_X1_15 st_yJ6_bitCount_0f7a4 ⟨rfl, rfl⟩ ⟨by decide, by decide⟩ rfl hl.1 rfl (Nat.le_of_ble_eq_true rfl) ⟨Nat.zero_le _, Nat.zero_le _⟩ dX1_least_5 (fun H locs hP hS => ?_)
  obtain ⟨o4, ho4, h⟩ := Option.bind_eq_some_iff.mp h
  obtain ⟨v6, x5⟩ := o4
  replace h := un2_e h
  refine bq_callVi (q0 := 1) (As := [.int _]) S hK hD hA hP hS (cX4_closes_k_1 ho4) hd_yX4_closes ml_X1_21 in_yX4_closes (hts _ sl_X4_X4_yX4_closes) ⟨rfl, rfl⟩ ⟨by decide, by decide⟩ rfl rfl rfl hl.1 rfl (Nat.le_of_ble_eq_true rfl) ⟨Nat.zero_le _, Nat.zero_le _⟩ dX1_least_8 (fun H locs hP hS => ?_)
  refine lv_istore_n (lv' := [(2, .int v6), (0, .ref (a 32)), (1, .int p1)]) hx hb dX1_least_11 rfl hl (by decide) rfl (fun ls hl => ?_)
  refine lv_iload_n hx hb dX1_least_12 rfl (lv_at hl 0 rfl) ?_
  refine lv_if_eq (tgt := 20) hx hb dX1_least_13 (by decide) (fun c7 => ?_) (fun c7 => ?_)
  · replace h := (if_pos c7).symm.trans h
    refine lv_iconst (v := (0 : Int32)) hx hb dX1_least_20 (by decide) ?_
    exact hj21 _ _ _ _ _ _ _ h hP hS (lv_sub hl [1, 2, 0] rfl)
  · replace h := (if_neg c7).symm.trans h
    refine lv_iconst (v := (1 : Int32)) hx hb dX1_least_16 (by decide) ?_
    refine lv_goto (tgt := 21) hx hb dX1_least_17 (by decide) ?_
    exact hj21 _ _ _ _ _ _ _ h hP hS (lv_sub hl [1, 2, 0] rfl)
def fX9_cut (n : Nat) (p1 : Int32) (x0 : bq_S) : Option (Int32 × bq_S) :=
  (fX4_isSet 1 p1 x0).bind (fun o1 => un2 o1 (fun v3 x2 =>
  if v3 = 0 then
  some ((-1 : Int32), x2)
  else
  (fX1_least n p1 x2).bind (fun o5 => un2 o5 (fun v7 x6 =>
  some (v7, x6)))))
theorem dX9_cut_0 : decode cX9_cut 0 = .ok (.aload_n 0, 1) := by decide +kernel
theorem dX9_cut_1 : decode cX9_cut 1 = .ok (.getfield 10, 3) := by decide +kernel
theorem dX9_cut_4 : decode cX9_cut 4 = .ok (.iload_n 1, 1) := by decide +kernel
theorem dX9_cut_5 : decode cX9_cut 5 = .ok (.invokevirtual 186, 3) := by decide +kernel
theorem dX9_cut_8 : decode cX9_cut 8 = .ok (.ifCond .eq 14, 3) := by decide +kernel
theorem dX9_cut_11 : decode cX9_cut 11 = .ok (.aload_n 0, 1) := by decide +kernel
theorem dX9_cut_12 : decode cX9_cut 12 = .ok (.getfield 64, 3) := by decide +kernel
theorem dX9_cut_15 : decode cX9_cut 15 = .ok (.iload_n 1, 1) := by decide +kernel
theorem dX9_cut_16 : decode cX9_cut 16 = .ok (.invokevirtual 205, 3) := by decide +kernel
theorem dX9_cut_19 : decode cX9_cut 19 = .ok (.goto 4, 3) := by decide +kernel
theorem dX9_cut_22 : decode cX9_cut 22 = .ok (.iconst (-1), 1) := by decide +kernel
theorem dX9_cut_23 : decode cX9_cut 23 = .ok (.ireturn, 1) := by decide +kernel
set_option maxHeartbeats 4000000 in
set_option maxRecDepth 100000 in
theorem cX9_cut_k_0 {l : Launch} {D : va_G} {a : Nat → Nat} {k : Nat → ClassId} {n : Nat} {p1 : Int32} {x0 xz : bq_S} {rz : Int32} (h : fX9_cut n p1 x0 = some (rz, xz)) : bq_M l D bq_cl (bq_ty k) (bq_wC a k) yX9_cut cX9_cut 2 (some .int) { frames := 4, cells := 0, slots := 0, locals := 97 } [.ref (a 0), .int p1] x0 (some rz) xz := by
  refine bq_ofW RX9 [(0, .ref (a 0)), (1, .int p1)] (by decide +kernel) rfl (Nat.le_of_ble_eq_true rfl) rfl (bq_adC a k) ?_
  intro p e s m below meth c A Q ls S hK hD hA hR hS hP hl
  have hx := S.1; have hb := S.2.1; have hml := S.2.2.1; have hown := S.2.2.2.1; have hts := S.2.2.2.2
  have hret : ∀ z, some z = some (rz, xz) → (rz, xz) = z := fun z h => (Option.some.inj h).symm
  unfold fX9_cut at h
  refine lv_aload_n hx hb dX9_cut_0 rfl (lv_at hl 0 rfl) ?_
  refine bq_get (q0 := 0) S hK hP fl_X9_10_X9_0 rfl rfl rfl dX9_cut_1 ?_
  refine lv_iload_n hx hb dX9_cut_4 rfl (lv_at hl 1 rfl) ?_
  obtain ⟨o1, ho1, h⟩ := Option.bind_eq_some_iff.mp h
  obtain ⟨v3, x2⟩ := o1
  replace h := un2_e h
  refine bq_callVi (q0 := 1) (As := [.int _]) S hK hD hA hP hS (cX4_isSet_k_1 ho1) hd_yX4_isSet ml_X9_186 in_yX4_isSet (hts _ sl_X4_X4_yX4_isSet) ⟨rfl, rfl⟩ ⟨by decide, by decide⟩ rfl rfl rfl hl.1 rfl (Nat.le_of_ble_eq_true rfl) ⟨Nat.zero_le _, Nat.zero_le _⟩ dX9_cut_5 (fun H locs hP hS => ?_)
  refine lv_if_eq (tgt := 22) hx hb dX9_cut_8 (by decide) (fun c4 => ?_) (fun c4 => ?_)
  · replace h := (if_pos c4).symm.trans h
    refine lv_iconst (v := (-1 : Int32)) hx hb dX9_cut_22 (by decide) ?_
    obtain ⟨e1, e2⟩ := Prod.mk.inj (hret _ h)
    exact hR _ _ _ _ _ (congrArg some e1) rfl (by rw [e2]; exact hP) hS dX9_cut_23
  · replace h := (if_neg c4).symm.trans h
    refine lv_aload_n hx hb dX9_cut_11 rfl (lv_at hl 0 rfl) ?_
    refine bq_get (q0 := 0) S hK hP fl_X9_64_X9_8 rfl rfl rfl dX9_cut_12 ?_
    refine lv_iload_n hx hb dX9_cut_15 rfl (lv_at hl 1 rfl) ?_
    obtain ⟨o5, ho5, h⟩ := Option.bind_eq_some_iff.mp h
    obtain ⟨v7, x6⟩ := o5
    replace h := un2_e h
    refine bq_callVi (q0 := 32) (As := [.int _]) S hK hD hA hP hS (cX1_least_k_32 ho5) hd_yX1_least ml_X9_205 in_yX1_least (hts _ sl_X1_X1_yX1_least) ⟨rfl, rfl⟩ ⟨by decide, by decide⟩ rfl rfl rfl hl.1 rfl (Nat.le_of_ble_eq_true rfl) ⟨Nat.zero_le _, Nat.zero_le _⟩ dX9_cut_16 (fun H locs hP hS => ?_)
    refine lv_goto (tgt := 23) hx hb dX9_cut_19 (by decide) ?_
    obtain ⟨e1, e2⟩ := Prod.mk.inj (hret _ h)
    exact hR _ _ _ _ _ (congrArg some e1) rfl (by rw [e2]; exact hP) hS dX9_cut_23
