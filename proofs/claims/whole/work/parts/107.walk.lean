set_option maxHeartbeats 4000000 in
set_option maxRecDepth 100000 in
theorem cX6_holds_k_36 {l : Launch} {D : va_G} {a : Nat → Nat} {k : Nat → ClassId} {p1 : Int32} {p2 : Int32} {x0 xz : bq_S} {rz : Int32} (h : fX6_holds  36 p1 p2 x0 = some (rz, xz)) : bq_M l D bq_cl (bq_ty k) (bq_wC a k) yX6_holds cX6_holds 3 (some .boolean) { frames := 0, cells := 0, slots := 0, locals := 0 } [.ref (a 36), .int p1, .int p2] x0 (some rz) xz := by
  refine bq_ofW RX6 [(0, .ref (a 36)), (1, .int p1), (2, .int p2)] (by decide +kernel) rfl (Nat.le_of_ble_eq_true rfl) rfl (bq_adC a k) ?_
  intro p e s m below meth c A Q ls S hK hD hA hR hS hP hl
  have hx := S.1; have hb := S.2.1; have hml := S.2.2.1; have hown := S.2.2.2.1; have hts := S.2.2.2.2
  have hret : ∀ z, some z = some (rz, xz) → (rz, xz) = z := fun z h => (Option.some.inj h).symm
  unfold fX6_holds at h
  refine lv_iload_n hx hb dX6_holds_0 rfl (lv_at hl 1 rfl) ?_
  refine lv_if_lt (tgt := 22) hx hb dX6_holds_1 (by decide) (fun c1 => ?_) (fun c1 => ?_)
  · replace h := (if_pos c1).symm.trans h
    refine lv_iconst (v := (0 : Int32)) hx hb dX6_holds_22 (by decide) ?_
    obtain ⟨e1, e2⟩ := Prod.mk.inj (hret _ h)
    exact hR _ _ _ _ _ (congrArg some e1) rfl (by rw [e2]; exact hP) hS dX6_holds_23
  · replace h := (if_neg c1).symm.trans h
    refine lv_iload_n hx hb dX6_holds_4 rfl (lv_at hl 2 rfl) ?_
    refine lv_if_lt (tgt := 22) hx hb dX6_holds_5 (by decide) (fun c2 => ?_) (fun c2 => ?_)
    · replace h := (if_pos c2).symm.trans h
      refine lv_iconst (v := (0 : Int32)) hx hb dX6_holds_22 (by decide) ?_
      obtain ⟨e1, e2⟩ := Prod.mk.inj (hret _ h)
      exact hR _ _ _ _ _ (congrArg some e1) rfl (by rw [e2]; exact hP) hS dX6_holds_23
    · replace h := (if_neg c2).symm.trans h
      refine lv_iload_n hx hb dX6_holds_8 rfl (lv_at hl 1 rfl) ?_
      refine lv_aload_n hx hb dX6_holds_9 rfl (lv_at hl 0 rfl) ?_
      refine bq_get (q0 := 36) S hK hP fl_X6_19_X6_2 rfl rfl rfl dX6_holds_10 ?_
      refine lv_iload_n hx hb dX6_holds_13 rfl (lv_at hl 2 rfl) ?_
      refine lv_isub hx hb dX6_holds_14 ?_
      refine lv_icmp_gt (tgt := 22) hx hb dX6_holds_15 (by decide) (fun c3 => ?_) (fun c3 => ?_)
      · replace h := (if_pos c3).symm.trans h
        refine lv_iconst (v := (0 : Int32)) hx hb dX6_holds_22 (by decide) ?_
        obtain ⟨e1, e2⟩ := Prod.mk.inj (hret _ h)
        exact hR _ _ _ _ _ (congrArg some e1) rfl (by rw [e2]; exact hP) hS dX6_holds_23
      · replace h := (if_neg c3).symm.trans h
        refine lv_iconst (v := (1 : Int32)) hx hb dX6_holds_18 (by decide) ?_
        refine lv_goto (tgt := 23) hx hb dX6_holds_19 (by decide) ?_
        obtain ⟨e1, e2⟩ := Prod.mk.inj (hret _ h)
        exact hR _ _ _ _ _ (congrArg some e1) rfl (by rw [e2]; exact hP) hS dX6_holds_23
set_option maxHeartbeats 4000000 in
set_option maxRecDepth 100000 in
theorem cX9_refusalOf_k_0_s1 {l : Launch} {D : va_G} {a : Nat → Nat} {k : Nat → ClassId} {p1 : Int32} {p2 : Int32} {p3 : Int32} {p4 : Int32} {x0 xz : bq_S} {rz : Int32} (hkp1 : p1.toNatClampNeg = 1) (h : fX9_refusalOf  p1 p2 p3 p4 x0 = some (rz, xz)) : bq_M l D bq_cl (bq_ty k) (bq_wC a k) yX9_refusalOf cX9_refusalOf 6 (some .int) { frames := 1, cells := 0, slots := 0, locals := 22 } [.ref (a 0), .int p1, .int p2, .int p3, .int p4] x0 (some rz) xz := by
  refine bq_ofW RX9 [(0, .ref (a 0)), (1, .int p1), (2, .int p2), (3, .int p3), (4, .int p4)] (by decide +kernel) rfl (Nat.le_of_ble_eq_true rfl) rfl (bq_adC a k) ?_
  intro p e s m below meth c A Q ls S hK hD hA hR hS hP hl
  have hx := S.1; have hb := S.2.1; have hml := S.2.2.1; have hown := S.2.2.2.1; have hts := S.2.2.2.2
  have hret : ∀ z, some z = some (rz, xz) → (rz, xz) = z := fun z h => (Option.some.inj h).symm
  unfold fX9_refusalOf at h
  refine lv_iload_n hx hb dX9_refusalOf_0 rfl (lv_at hl 1 rfl) ?_
  obtain ⟨o1, ho1, h⟩ := Option.bind_eq_some_iff.mp h
  obtain ⟨v3, x2⟩ := o1
  replace h := un2_e h
  refine bq_callSi (As := [.int _]) S hK hD hA hP hS (cX9_isSheet_k ho1) hd_yX9_isSheet ml_X9_252 st_yX9_isSheet ⟨rfl, rfl⟩ ⟨by decide, by decide⟩ rfl hl.1 rfl (Nat.le_of_ble_eq_true rfl) ⟨Nat.zero_le _, Nat.zero_le _⟩ dX9_refusalOf_1 (fun H locs hP hS => ?_)
  refine lv_if_eq (tgt := 14) hx hb dX9_refusalOf_4 (by decide) (fun c4 => ?_) (fun c4 => ?_)
  · replace h := (if_pos c4).symm.trans h
    refine lv_iconst (v := (-1 : Int32)) hx hb dX9_refusalOf_14 (by decide) ?_
    obtain ⟨e1, e2⟩ := Prod.mk.inj (hret _ h)
    exact hR _ _ _ _ _ (congrArg some e1) rfl (by rw [e2]; exact hP) hS dX9_refusalOf_15
  · replace h := (if_neg c4).symm.trans h
    refine lv_iload_n hx hb dX9_refusalOf_7 rfl (lv_at hl 2 rfl) ?_
    obtain ⟨o5, ho5, h⟩ := Option.bind_eq_some_iff.mp h
    obtain ⟨v7, x6⟩ := o5
    replace h := un2_e h
    refine bq_callSi (As := [.int _]) S hK hD hA hP hS (cX9_isLane_k ho5) hd_yX9_isLane ml_X9_255 st_yX9_isLane ⟨rfl, rfl⟩ ⟨by decide, by decide⟩ rfl hl.1 rfl (Nat.le_of_ble_eq_true rfl) ⟨Nat.zero_le _, Nat.zero_le _⟩ dX9_refusalOf_8 (fun H locs hP hS => ?_)
    refine lv_if_ne (tgt := 16) hx hb dX9_refusalOf_11 (by decide) (fun c8 => ?_) (fun c8 => ?_)
    · replace h := (if_neg c8).symm.trans h
      refine lv_aload_n hx hb dX9_refusalOf_16 rfl (lv_at hl 0 rfl) ?_
      refine bq_get (q0 := 0) S hK hP fl_X9_70_X9_9 rfl rfl rfl dX9_refusalOf_17 ?_
      refine lv_iload_n hx hb dX9_refusalOf_20 rfl (lv_at hl 1 rfl) ?_
      obtain ⟨g9, h⟩ := bq_gd h
      refine va_aldq (D := D) hx hb hK hP 33 3 rfl rfl g9 dX9_refusalOf_21 ?_
      rw [hkp1]
      try rw [hkp1] at h
      refine W.eq (g2 := F0 m 22 ls [.ref (a 36)]) rfl ?_
      refine lv_astore (lv' := [(5, .ref (a 36)), (0, .ref (a 0)), (1, .int p1), (2, .int p2), (3, .int p3), (4, .int p4)]) hx hb dX9_refusalOf_22 hl (by decide) rfl (fun ls hl => ?_)
      refine lv_aload hx hb dX9_refusalOf_24 (lv_at hl 0 rfl) ?_
      refine bq_get (q0 := 36) S hK hP fl_X9_262_X6_1 rfl rfl rfl dX9_refusalOf_26 ?_
      refine lv_iconst (v := (-1 : Int32)) hx hb dX9_refusalOf_29 (by decide) ?_
      refine lv_icmp_ne (tgt := 36) hx hb dX9_refusalOf_30 (by decide) (fun c10 => ?_) (fun c10 => ?_)
      · replace h := (if_neg c10).symm.trans h
        refine lv_aload hx hb dX9_refusalOf_36 (lv_at hl 0 rfl) ?_
        refine bq_get (q0 := 36) S hK hP fl_X9_262_X6_1 rfl rfl rfl dX9_refusalOf_38 ?_
        refine lv_iload_n hx hb dX9_refusalOf_41 rfl (lv_at hl 3 rfl) ?_
        refine lv_icmp_eq (tgt := 48) hx hb dX9_refusalOf_42 (by decide) (fun c11 => ?_) (fun c11 => ?_)
        · replace h := (if_pos c11).symm.trans h
          refine lv_aload hx hb dX9_refusalOf_48 (lv_at hl 0 rfl) ?_
          refine lv_iload_n hx hb dX9_refusalOf_50 rfl (lv_at hl 4 rfl) ?_
          refine lv_iload hx hb dX9_refusalOf_51 (lv_at hl 5 rfl) ?_
          obtain ⟨o12, ho12, h⟩ := Option.bind_eq_some_iff.mp h
          obtain ⟨v14, x13⟩ := o12
          replace h := un2_e h
          refine bq_callVi (q0 := 36) (As := [.int _, .int _]) S hK hD hA hP hS (cX6_holds_k_36 ho12) hd_yX6_holds ml_X9_270 in_yX6_holds (hts _ sl_X6_X6_yX6_holds) ⟨rfl, rfl⟩ ⟨by decide, by decide⟩ rfl rfl rfl hl.1 rfl (Nat.le_of_ble_eq_true rfl) ⟨Nat.zero_le _, Nat.zero_le _⟩ dX9_refusalOf_53 (fun H locs hP hS => ?_)
          refine lv_if_eq (tgt := 63) hx hb dX9_refusalOf_56 (by decide) (fun c15 => ?_) (fun c15 => ?_)
          · replace h := (if_pos c15).symm.trans h
            refine lv_bipush (v := (-13 : Int32)) hx hb dX9_refusalOf_63 (by decide) ?_
            obtain ⟨e1, e2⟩ := Prod.mk.inj (hret _ h)
            exact hR _ _ _ _ _ (congrArg some e1) rfl (by rw [e2]; exact hP) hS dX9_refusalOf_65
          · replace h := (if_neg c15).symm.trans h
            refine lv_iconst (v := (0 : Int32)) hx hb dX9_refusalOf_59 (by decide) ?_
            refine lv_goto (tgt := 65) hx hb dX9_refusalOf_60 (by decide) ?_
            obtain ⟨e1, e2⟩ := Prod.mk.inj (hret _ h)
            exact hR _ _ _ _ _ (congrArg some e1) rfl (by rw [e2]; exact hP) hS dX9_refusalOf_65
        · replace h := (if_neg c11).symm.trans h
          refine lv_bipush (v := (-12 : Int32)) hx hb dX9_refusalOf_45 (by decide) ?_
          obtain ⟨e1, e2⟩ := Prod.mk.inj (hret _ h)
          exact hR _ _ _ _ _ (congrArg some e1) rfl (by rw [e2]; exact hP) hS dX9_refusalOf_47
      · replace h := (if_pos c10).symm.trans h
        refine lv_bipush (v := (-11 : Int32)) hx hb dX9_refusalOf_33 (by decide) ?_
        obtain ⟨e1, e2⟩ := Prod.mk.inj (hret _ h)
        exact hR _ _ _ _ _ (congrArg some e1) rfl (by rw [e2]; exact hP) hS dX9_refusalOf_35
    · replace h := (if_pos c8).symm.trans h
      refine lv_iconst (v := (-1 : Int32)) hx hb dX9_refusalOf_14 (by decide) ?_
      obtain ⟨e1, e2⟩ := Prod.mk.inj (hret _ h)
      exact hR _ _ _ _ _ (congrArg some e1) rfl (by rw [e2]; exact hP) hS dX9_refusalOf_15
set_option maxHeartbeats 4000000 in
set_option maxRecDepth 100000 in
theorem cX6_holds_k_38 {l : Launch} {D : va_G} {a : Nat → Nat} {k : Nat → ClassId} {p1 : Int32} {p2 : Int32} {x0 xz : bq_S} {rz : Int32} (h : fX6_holds  38 p1 p2 x0 = some (rz, xz)) : bq_M l D bq_cl (bq_ty k) (bq_wC a k) yX6_holds cX6_holds 3 (some .boolean) { frames := 0, cells := 0, slots := 0, locals := 0 } [.ref (a 38), .int p1, .int p2] x0 (some rz) xz := by
  refine bq_ofW RX6 [(0, .ref (a 38)), (1, .int p1), (2, .int p2)] (by decide +kernel) rfl (Nat.le_of_ble_eq_true rfl) rfl (bq_adC a k) ?_
  intro p e s m below meth c A Q ls S hK hD hA hR hS hP hl
  have hx := S.1; have hb := S.2.1; have hml := S.2.2.1; have hown := S.2.2.2.1; have hts := S.2.2.2.2
  have hret : ∀ z, some z = some (rz, xz) → (rz, xz) = z := fun z h => (Option.some.inj h).symm
  unfold fX6_holds at h
  refine lv_iload_n hx hb dX6_holds_0 rfl (lv_at hl 1 rfl) ?_
  refine lv_if_lt (tgt := 22) hx hb dX6_holds_1 (by decide) (fun c1 => ?_) (fun c1 => ?_)
  · replace h := (if_pos c1).symm.trans h
    refine lv_iconst (v := (0 : Int32)) hx hb dX6_holds_22 (by decide) ?_
    obtain ⟨e1, e2⟩ := Prod.mk.inj (hret _ h)
    exact hR _ _ _ _ _ (congrArg some e1) rfl (by rw [e2]; exact hP) hS dX6_holds_23
  · replace h := (if_neg c1).symm.trans h
    refine lv_iload_n hx hb dX6_holds_4 rfl (lv_at hl 2 rfl) ?_
    refine lv_if_lt (tgt := 22) hx hb dX6_holds_5 (by decide) (fun c2 => ?_) (fun c2 => ?_)
    · replace h := (if_pos c2).symm.trans h
      refine lv_iconst (v := (0 : Int32)) hx hb dX6_holds_22 (by decide) ?_
      obtain ⟨e1, e2⟩ := Prod.mk.inj (hret _ h)
      exact hR _ _ _ _ _ (congrArg some e1) rfl (by rw [e2]; exact hP) hS dX6_holds_23
    · replace h := (if_neg c2).symm.trans h
      refine lv_iload_n hx hb dX6_holds_8 rfl (lv_at hl 1 rfl) ?_
      refine lv_aload_n hx hb dX6_holds_9 rfl (lv_at hl 0 rfl) ?_
      refine bq_get (q0 := 38) S hK hP fl_X6_19_X6_2 rfl rfl rfl dX6_holds_10 ?_
      refine lv_iload_n hx hb dX6_holds_13 rfl (lv_at hl 2 rfl) ?_
      refine lv_isub hx hb dX6_holds_14 ?_
      refine lv_icmp_gt (tgt := 22) hx hb dX6_holds_15 (by decide) (fun c3 => ?_) (fun c3 => ?_)
      · replace h := (if_pos c3).symm.trans h
        refine lv_iconst (v := (0 : Int32)) hx hb dX6_holds_22 (by decide) ?_
        obtain ⟨e1, e2⟩ := Prod.mk.inj (hret _ h)
        exact hR _ _ _ _ _ (congrArg some e1) rfl (by rw [e2]; exact hP) hS dX6_holds_23
      · replace h := (if_neg c3).symm.trans h
        refine lv_iconst (v := (1 : Int32)) hx hb dX6_holds_18 (by decide) ?_
        refine lv_goto (tgt := 23) hx hb dX6_holds_19 (by decide) ?_
        obtain ⟨e1, e2⟩ := Prod.mk.inj (hret _ h)
        exact hR _ _ _ _ _ (congrArg some e1) rfl (by rw [e2]; exact hP) hS dX6_holds_23
set_option maxHeartbeats 4000000 in
set_option maxRecDepth 100000 in
theorem cX9_refusalOf_k_0_s2 {l : Launch} {D : va_G} {a : Nat → Nat} {k : Nat → ClassId} {p1 : Int32} {p2 : Int32} {p3 : Int32} {p4 : Int32} {x0 xz : bq_S} {rz : Int32} (hkp1 : p1.toNatClampNeg = 2) (h : fX9_refusalOf  p1 p2 p3 p4 x0 = some (rz, xz)) : bq_M l D bq_cl (bq_ty k) (bq_wC a k) yX9_refusalOf cX9_refusalOf 6 (some .int) { frames := 1, cells := 0, slots := 0, locals := 22 } [.ref (a 0), .int p1, .int p2, .int p3, .int p4] x0 (some rz) xz := by
  refine bq_ofW RX9 [(0, .ref (a 0)), (1, .int p1), (2, .int p2), (3, .int p3), (4, .int p4)] (by decide +kernel) rfl (Nat.le_of_ble_eq_true rfl) rfl (bq_adC a k) ?_
  intro p e s m below meth c A Q ls S hK hD hA hR hS hP hl
  have hx := S.1; have hb := S.2.1; have hml := S.2.2.1; have hown := S.2.2.2.1; have hts := S.2.2.2.2
  have hret : ∀ z, some z = some (rz, xz) → (rz, xz) = z := fun z h => (Option.some.inj h).symm
  unfold fX9_refusalOf at h
  refine lv_iload_n hx hb dX9_refusalOf_0 rfl (lv_at hl 1 rfl) ?_
  obtain ⟨o1, ho1, h⟩ := Option.bind_eq_some_iff.mp h
  obtain ⟨v3, x2⟩ := o1
  replace h := un2_e h
  refine bq_callSi (As := [.int _]) S hK hD hA hP hS (cX9_isSheet_k ho1) hd_yX9_isSheet ml_X9_252 st_yX9_isSheet ⟨rfl, rfl⟩ ⟨by decide, by decide⟩ rfl hl.1 rfl (Nat.le_of_ble_eq_true rfl) ⟨Nat.zero_le _, Nat.zero_le _⟩ dX9_refusalOf_1 (fun H locs hP hS => ?_)
  refine lv_if_eq (tgt := 14) hx hb dX9_refusalOf_4 (by decide) (fun c4 => ?_) (fun c4 => ?_)
  · replace h := (if_pos c4).symm.trans h
    refine lv_iconst (v := (-1 : Int32)) hx hb dX9_refusalOf_14 (by decide) ?_
    obtain ⟨e1, e2⟩ := Prod.mk.inj (hret _ h)
    exact hR _ _ _ _ _ (congrArg some e1) rfl (by rw [e2]; exact hP) hS dX9_refusalOf_15
  · replace h := (if_neg c4).symm.trans h
    refine lv_iload_n hx hb dX9_refusalOf_7 rfl (lv_at hl 2 rfl) ?_
    obtain ⟨o5, ho5, h⟩ := Option.bind_eq_some_iff.mp h
    obtain ⟨v7, x6⟩ := o5
    replace h := un2_e h
    refine bq_callSi (As := [.int _]) S hK hD hA hP hS (cX9_isLane_k ho5) hd_yX9_isLane ml_X9_255 st_yX9_isLane ⟨rfl, rfl⟩ ⟨by decide, by decide⟩ rfl hl.1 rfl (Nat.le_of_ble_eq_true rfl) ⟨Nat.zero_le _, Nat.zero_le _⟩ dX9_refusalOf_8 (fun H locs hP hS => ?_)
    refine lv_if_ne (tgt := 16) hx hb dX9_refusalOf_11 (by decide) (fun c8 => ?_) (fun c8 => ?_)
    · replace h := (if_neg c8).symm.trans h
      refine lv_aload_n hx hb dX9_refusalOf_16 rfl (lv_at hl 0 rfl) ?_
      refine bq_get (q0 := 0) S hK hP fl_X9_70_X9_9 rfl rfl rfl dX9_refusalOf_17 ?_
      refine lv_iload_n hx hb dX9_refusalOf_20 rfl (lv_at hl 1 rfl) ?_
      obtain ⟨g9, h⟩ := bq_gd h
      refine va_aldq (D := D) hx hb hK hP 33 3 rfl rfl g9 dX9_refusalOf_21 ?_
      rw [hkp1]
      try rw [hkp1] at h
      refine W.eq (g2 := F0 m 22 ls [.ref (a 38)]) rfl ?_
      refine lv_astore (lv' := [(5, .ref (a 38)), (0, .ref (a 0)), (1, .int p1), (2, .int p2), (3, .int p3), (4, .int p4)]) hx hb dX9_refusalOf_22 hl (by decide) rfl (fun ls hl => ?_)
      refine lv_aload hx hb dX9_refusalOf_24 (lv_at hl 0 rfl) ?_
      refine bq_get (q0 := 38) S hK hP fl_X9_262_X6_1 rfl rfl rfl dX9_refusalOf_26 ?_
      refine lv_iconst (v := (-1 : Int32)) hx hb dX9_refusalOf_29 (by decide) ?_
      refine lv_icmp_ne (tgt := 36) hx hb dX9_refusalOf_30 (by decide) (fun c10 => ?_) (fun c10 => ?_)
      · replace h := (if_neg c10).symm.trans h
        refine lv_aload hx hb dX9_refusalOf_36 (lv_at hl 0 rfl) ?_
        refine bq_get (q0 := 38) S hK hP fl_X9_262_X6_1 rfl rfl rfl dX9_refusalOf_38 ?_
        refine lv_iload_n hx hb dX9_refusalOf_41 rfl (lv_at hl 3 rfl) ?_
        refine lv_icmp_eq (tgt := 48) hx hb dX9_refusalOf_42 (by decide) (fun c11 => ?_) (fun c11 => ?_)
        · replace h := (if_pos c11).symm.trans h
          refine lv_aload hx hb dX9_refusalOf_48 (lv_at hl 0 rfl) ?_
          refine lv_iload_n hx hb dX9_refusalOf_50 rfl (lv_at hl 4 rfl) ?_
          refine lv_iload hx hb dX9_refusalOf_51 (lv_at hl 5 rfl) ?_
          obtain ⟨o12, ho12, h⟩ := Option.bind_eq_some_iff.mp h
          obtain ⟨v14, x13⟩ := o12
          replace h := un2_e h
          refine bq_callVi (q0 := 38) (As := [.int _, .int _]) S hK hD hA hP hS (cX6_holds_k_38 ho12) hd_yX6_holds ml_X9_270 in_yX6_holds (hts _ sl_X6_X6_yX6_holds) ⟨rfl, rfl⟩ ⟨by decide, by decide⟩ rfl rfl rfl hl.1 rfl (Nat.le_of_ble_eq_true rfl) ⟨Nat.zero_le _, Nat.zero_le _⟩ dX9_refusalOf_53 (fun H locs hP hS => ?_)
          refine lv_if_eq (tgt := 63) hx hb dX9_refusalOf_56 (by decide) (fun c15 => ?_) (fun c15 => ?_)
          · replace h := (if_pos c15).symm.trans h
            refine lv_bipush (v := (-13 : Int32)) hx hb dX9_refusalOf_63 (by decide) ?_
            obtain ⟨e1, e2⟩ := Prod.mk.inj (hret _ h)
            exact hR _ _ _ _ _ (congrArg some e1) rfl (by rw [e2]; exact hP) hS dX9_refusalOf_65
          · replace h := (if_neg c15).symm.trans h
            refine lv_iconst (v := (0 : Int32)) hx hb dX9_refusalOf_59 (by decide) ?_
            refine lv_goto (tgt := 65) hx hb dX9_refusalOf_60 (by decide) ?_
            obtain ⟨e1, e2⟩ := Prod.mk.inj (hret _ h)
            exact hR _ _ _ _ _ (congrArg some e1) rfl (by rw [e2]; exact hP) hS dX9_refusalOf_65
        · replace h := (if_neg c11).symm.trans h
          refine lv_bipush (v := (-12 : Int32)) hx hb dX9_refusalOf_45 (by decide) ?_
          obtain ⟨e1, e2⟩ := Prod.mk.inj (hret _ h)
          exact hR _ _ _ _ _ (congrArg some e1) rfl (by rw [e2]; exact hP) hS dX9_refusalOf_47
      · replace h := (if_pos c10).symm.trans h
        refine lv_bipush (v := (-11 : Int32)) hx hb dX9_refusalOf_33 (by decide) ?_
        obtain ⟨e1, e2⟩ := Prod.mk.inj (hret _ h)
        exact hR _ _ _ _ _ (congrArg some e1) rfl (by rw [e2]; exact hP) hS dX9_refusalOf_35
    · replace h := (if_pos c8).symm.trans h
      refine lv_iconst (v := (-1 : Int32)) hx hb dX9_refusalOf_14 (by decide) ?_
      obtain ⟨e1, e2⟩ := Prod.mk.inj (hret _ h)
      exact hR _ _ _ _ _ (congrArg some e1) rfl (by rw [e2]; exact hP) hS dX9_refusalOf_15
set_option maxHeartbeats 4000000 in
set_option maxRecDepth 100000 in
theorem cX6_holds_k_40 {l : Launch} {D : va_G} {a : Nat → Nat} {k : Nat → ClassId} {p1 : Int32} {p2 : Int32} {x0 xz : bq_S} {rz : Int32} (h : fX6_holds  40 p1 p2 x0 = some (rz, xz)) : bq_M l D bq_cl (bq_ty k) (bq_wC a k) yX6_holds cX6_holds 3 (some .boolean) { frames := 0, cells := 0, slots := 0, locals := 0 } [.ref (a 40), .int p1, .int p2] x0 (some rz) xz := by
  refine bq_ofW RX6 [(0, .ref (a 40)), (1, .int p1), (2, .int p2)] (by decide +kernel) rfl (Nat.le_of_ble_eq_true rfl) rfl (bq_adC a k) ?_
  intro p e s m below meth c A Q ls S hK hD hA hR hS hP hl
  have hx := S.1; have hb := S.2.1; have hml := S.2.2.1; have hown := S.2.2.2.1; have hts := S.2.2.2.2
  have hret : ∀ z, some z = some (rz, xz) → (rz, xz) = z := fun z h => (Option.some.inj h).symm
  unfold fX6_holds at h
  refine lv_iload_n hx hb dX6_holds_0 rfl (lv_at hl 1 rfl) ?_
  refine lv_if_lt (tgt := 22) hx hb dX6_holds_1 (by decide) (fun c1 => ?_) (fun c1 => ?_)
  · replace h := (if_pos c1).symm.trans h
    refine lv_iconst (v := (0 : Int32)) hx hb dX6_holds_22 (by decide) ?_
    obtain ⟨e1, e2⟩ := Prod.mk.inj (hret _ h)
    exact hR _ _ _ _ _ (congrArg some e1) rfl (by rw [e2]; exact hP) hS dX6_holds_23
  · replace h := (if_neg c1).symm.trans h
    refine lv_iload_n hx hb dX6_holds_4 rfl (lv_at hl 2 rfl) ?_
    refine lv_if_lt (tgt := 22) hx hb dX6_holds_5 (by decide) (fun c2 => ?_) (fun c2 => ?_)
    · replace h := (if_pos c2).symm.trans h
      refine lv_iconst (v := (0 : Int32)) hx hb dX6_holds_22 (by decide) ?_
      obtain ⟨e1, e2⟩ := Prod.mk.inj (hret _ h)
      exact hR _ _ _ _ _ (congrArg some e1) rfl (by rw [e2]; exact hP) hS dX6_holds_23
    · replace h := (if_neg c2).symm.trans h
      refine lv_iload_n hx hb dX6_holds_8 rfl (lv_at hl 1 rfl) ?_
      refine lv_aload_n hx hb dX6_holds_9 rfl (lv_at hl 0 rfl) ?_
      refine bq_get (q0 := 40) S hK hP fl_X6_19_X6_2 rfl rfl rfl dX6_holds_10 ?_
      refine lv_iload_n hx hb dX6_holds_13 rfl (lv_at hl 2 rfl) ?_
      refine lv_isub hx hb dX6_holds_14 ?_
      refine lv_icmp_gt (tgt := 22) hx hb dX6_holds_15 (by decide) (fun c3 => ?_) (fun c3 => ?_)
      · replace h := (if_pos c3).symm.trans h
        refine lv_iconst (v := (0 : Int32)) hx hb dX6_holds_22 (by decide) ?_
        obtain ⟨e1, e2⟩ := Prod.mk.inj (hret _ h)
        exact hR _ _ _ _ _ (congrArg some e1) rfl (by rw [e2]; exact hP) hS dX6_holds_23
      · replace h := (if_neg c3).symm.trans h
        refine lv_iconst (v := (1 : Int32)) hx hb dX6_holds_18 (by decide) ?_
        refine lv_goto (tgt := 23) hx hb dX6_holds_19 (by decide) ?_
        obtain ⟨e1, e2⟩ := Prod.mk.inj (hret _ h)
        exact hR _ _ _ _ _ (congrArg some e1) rfl (by rw [e2]; exact hP) hS dX6_holds_23
set_option maxHeartbeats 4000000 in
set_option maxRecDepth 100000 in
theorem cX9_refusalOf_k_0_s3 {l : Launch} {D : va_G} {a : Nat → Nat} {k : Nat → ClassId} {p1 : Int32} {p2 : Int32} {p3 : Int32} {p4 : Int32} {x0 xz : bq_S} {rz : Int32} (hkp1 : p1.toNatClampNeg = 3) (h : fX9_refusalOf  p1 p2 p3 p4 x0 = some (rz, xz)) : bq_M l D bq_cl (bq_ty k) (bq_wC a k) yX9_refusalOf cX9_refusalOf 6 (some .int) { frames := 1, cells := 0, slots := 0, locals := 22 } [.ref (a 0), .int p1, .int p2, .int p3, .int p4] x0 (some rz) xz := by
  refine bq_ofW RX9 [(0, .ref (a 0)), (1, .int p1), (2, .int p2), (3, .int p3), (4, .int p4)] (by decide +kernel) rfl (Nat.le_of_ble_eq_true rfl) rfl (bq_adC a k) ?_
  intro p e s m below meth c A Q ls S hK hD hA hR hS hP hl
  have hx := S.1; have hb := S.2.1; have hml := S.2.2.1; have hown := S.2.2.2.1; have hts := S.2.2.2.2
  have hret : ∀ z, some z = some (rz, xz) → (rz, xz) = z := fun z h => (Option.some.inj h).symm
  unfold fX9_refusalOf at h
  refine lv_iload_n hx hb dX9_refusalOf_0 rfl (lv_at hl 1 rfl) ?_
  obtain ⟨o1, ho1, h⟩ := Option.bind_eq_some_iff.mp h
  obtain ⟨v3, x2⟩ := o1
  replace h := un2_e h
  refine bq_callSi (As := [.int _]) S hK hD hA hP hS (cX9_isSheet_k ho1) hd_yX9_isSheet ml_X9_252 st_yX9_isSheet ⟨rfl, rfl⟩ ⟨by decide, by decide⟩ rfl hl.1 rfl (Nat.le_of_ble_eq_true rfl) ⟨Nat.zero_le _, Nat.zero_le _⟩ dX9_refusalOf_1 (fun H locs hP hS => ?_)
  refine lv_if_eq (tgt := 14) hx hb dX9_refusalOf_4 (by decide) (fun c4 => ?_) (fun c4 => ?_)
  · replace h := (if_pos c4).symm.trans h
    refine lv_iconst (v := (-1 : Int32)) hx hb dX9_refusalOf_14 (by decide) ?_
    obtain ⟨e1, e2⟩ := Prod.mk.inj (hret _ h)
    exact hR _ _ _ _ _ (congrArg some e1) rfl (by rw [e2]; exact hP) hS dX9_refusalOf_15
  · replace h := (if_neg c4).symm.trans h
    refine lv_iload_n hx hb dX9_refusalOf_7 rfl (lv_at hl 2 rfl) ?_
    obtain ⟨o5, ho5, h⟩ := Option.bind_eq_some_iff.mp h
    obtain ⟨v7, x6⟩ := o5
    replace h := un2_e h
    refine bq_callSi (As := [.int _]) S hK hD hA hP hS (cX9_isLane_k ho5) hd_yX9_isLane ml_X9_255 st_yX9_isLane ⟨rfl, rfl⟩ ⟨by decide, by decide⟩ rfl hl.1 rfl (Nat.le_of_ble_eq_true rfl) ⟨Nat.zero_le _, Nat.zero_le _⟩ dX9_refusalOf_8 (fun H locs hP hS => ?_)
    refine lv_if_ne (tgt := 16) hx hb dX9_refusalOf_11 (by decide) (fun c8 => ?_) (fun c8 => ?_)
    · replace h := (if_neg c8).symm.trans h
      refine lv_aload_n hx hb dX9_refusalOf_16 rfl (lv_at hl 0 rfl) ?_
      refine bq_get (q0 := 0) S hK hP fl_X9_70_X9_9 rfl rfl rfl dX9_refusalOf_17 ?_
      refine lv_iload_n hx hb dX9_refusalOf_20 rfl (lv_at hl 1 rfl) ?_
      obtain ⟨g9, h⟩ := bq_gd h
      refine va_aldq (D := D) hx hb hK hP 33 3 rfl rfl g9 dX9_refusalOf_21 ?_
      rw [hkp1]
      try rw [hkp1] at h
      refine W.eq (g2 := F0 m 22 ls [.ref (a 40)]) rfl ?_
      refine lv_astore (lv' := [(5, .ref (a 40)), (0, .ref (a 0)), (1, .int p1), (2, .int p2), (3, .int p3), (4, .int p4)]) hx hb dX9_refusalOf_22 hl (by decide) rfl (fun ls hl => ?_)
      refine lv_aload hx hb dX9_refusalOf_24 (lv_at hl 0 rfl) ?_
      refine bq_get (q0 := 40) S hK hP fl_X9_262_X6_1 rfl rfl rfl dX9_refusalOf_26 ?_
      refine lv_iconst (v := (-1 : Int32)) hx hb dX9_refusalOf_29 (by decide) ?_
      refine lv_icmp_ne (tgt := 36) hx hb dX9_refusalOf_30 (by decide) (fun c10 => ?_) (fun c10 => ?_)
      · replace h := (if_neg c10).symm.trans h
        refine lv_aload hx hb dX9_refusalOf_36 (lv_at hl 0 rfl) ?_
        refine bq_get (q0 := 40) S hK hP fl_X9_262_X6_1 rfl rfl rfl dX9_refusalOf_38 ?_
        refine lv_iload_n hx hb dX9_refusalOf_41 rfl (lv_at hl 3 rfl) ?_
        refine lv_icmp_eq (tgt := 48) hx hb dX9_refusalOf_42 (by decide) (fun c11 => ?_) (fun c11 => ?_)
        · replace h := (if_pos c11).symm.trans h
          refine lv_aload hx hb dX9_refusalOf_48 (lv_at hl 0 rfl) ?_
          refine lv_iload_n hx hb dX9_refusalOf_50 rfl (lv_at hl 4 rfl) ?_
          refine lv_iload hx hb dX9_refusalOf_51 (lv_at hl 5 rfl) ?_
          obtain ⟨o12, ho12, h⟩ := Option.bind_eq_some_iff.mp h
          obtain ⟨v14, x13⟩ := o12
          replace h := un2_e h
          refine bq_callVi (q0 := 40) (As := [.int _, .int _]) S hK hD hA hP hS (cX6_holds_k_40 ho12) hd_yX6_holds ml_X9_270 in_yX6_holds (hts _ sl_X6_X6_yX6_holds) ⟨rfl, rfl⟩ ⟨by decide, by decide⟩ rfl rfl rfl hl.1 rfl (Nat.le_of_ble_eq_true rfl) ⟨Nat.zero_le _, Nat.zero_le _⟩ dX9_refusalOf_53 (fun H locs hP hS => ?_)
          refine lv_if_eq (tgt := 63) hx hb dX9_refusalOf_56 (by decide) (fun c15 => ?_) (fun c15 => ?_)
          · replace h := (if_pos c15).symm.trans h
            refine lv_bipush (v := (-13 : Int32)) hx hb dX9_refusalOf_63 (by decide) ?_
            obtain ⟨e1, e2⟩ := Prod.mk.inj (hret _ h)
            exact hR _ _ _ _ _ (congrArg some e1) rfl (by rw [e2]; exact hP) hS dX9_refusalOf_65
          · replace h := (if_neg c15).symm.trans h
            refine lv_iconst (v := (0 : Int32)) hx hb dX9_refusalOf_59 (by decide) ?_
            refine lv_goto (tgt := 65) hx hb dX9_refusalOf_60 (by decide) ?_
            obtain ⟨e1, e2⟩ := Prod.mk.inj (hret _ h)
            exact hR _ _ _ _ _ (congrArg some e1) rfl (by rw [e2]; exact hP) hS dX9_refusalOf_65
        · replace h := (if_neg c11).symm.trans h
          refine lv_bipush (v := (-12 : Int32)) hx hb dX9_refusalOf_45 (by decide) ?_
          obtain ⟨e1, e2⟩ := Prod.mk.inj (hret _ h)
          exact hR _ _ _ _ _ (congrArg some e1) rfl (by rw [e2]; exact hP) hS dX9_refusalOf_47
      · replace h := (if_pos c10).symm.trans h
        refine lv_bipush (v := (-11 : Int32)) hx hb dX9_refusalOf_33 (by decide) ?_
        obtain ⟨e1, e2⟩ := Prod.mk.inj (hret _ h)
        exact hR _ _ _ _ _ (congrArg some e1) rfl (by rw [e2]; exact hP) hS dX9_refusalOf_35
    · replace h := (if_pos c8).symm.trans h
      refine lv_iconst (v := (-1 : Int32)) hx hb dX9_refusalOf_14 (by decide) ?_
      obtain ⟨e1, e2⟩ := Prod.mk.inj (hret _ h)
      exact hR _ _ _ _ _ (congrArg some e1) rfl (by rw [e2]; exact hP) hS dX9_refusalOf_15
set_option maxHeartbeats 4000000 in
set_option maxRecDepth 100000 in
theorem cX9_refusalOf_k_0_sb {l : Launch} {D : va_G} {a : Nat → Nat} {k : Nat → ClassId} {p1 : Int32} {p2 : Int32} {p3 : Int32} {p4 : Int32} {x0 xz : bq_S} {rz : Int32} (hkp1 : ¬ p1.toNatClampNeg < 4) (h : fX9_refusalOf  p1 p2 p3 p4 x0 = some (rz, xz)) : bq_M l D bq_cl (bq_ty k) (bq_wC a k) yX9_refusalOf cX9_refusalOf 6 (some .int) { frames := 1, cells := 0, slots := 0, locals := 22 } [.ref (a 0), .int p1, .int p2, .int p3, .int p4] x0 (some rz) xz := by
  refine bq_ofW RX9 [(0, .ref (a 0)), (1, .int p1), (2, .int p2), (3, .int p3), (4, .int p4)] (by decide +kernel) rfl (Nat.le_of_ble_eq_true rfl) rfl (bq_adC a k) ?_
  intro p e s m below meth c A Q ls S hK hD hA hR hS hP hl
  have hx := S.1; have hb := S.2.1; have hml := S.2.2.1; have hown := S.2.2.2.1; have hts := S.2.2.2.2
  have hret : ∀ z, some z = some (rz, xz) → (rz, xz) = z := fun z h => (Option.some.inj h).symm
  unfold fX9_refusalOf at h
  refine lv_iload_n hx hb dX9_refusalOf_0 rfl (lv_at hl 1 rfl) ?_
  obtain ⟨o1, ho1, h⟩ := Option.bind_eq_some_iff.mp h
  obtain ⟨v3, x2⟩ := o1
  replace h := un2_e h
  refine bq_callSi (As := [.int _]) S hK hD hA hP hS (cX9_isSheet_k ho1) hd_yX9_isSheet ml_X9_252 st_yX9_isSheet ⟨rfl, rfl⟩ ⟨by decide, by decide⟩ rfl hl.1 rfl (Nat.le_of_ble_eq_true rfl) ⟨Nat.zero_le _, Nat.zero_le _⟩ dX9_refusalOf_1 (fun H locs hP hS => ?_)
  refine lv_if_eq (tgt := 14) hx hb dX9_refusalOf_4 (by decide) (fun c4 => ?_) (fun c4 => ?_)
  · replace h := (if_pos c4).symm.trans h
    refine lv_iconst (v := (-1 : Int32)) hx hb dX9_refusalOf_14 (by decide) ?_
    obtain ⟨e1, e2⟩ := Prod.mk.inj (hret _ h)
    exact hR _ _ _ _ _ (congrArg some e1) rfl (by rw [e2]; exact hP) hS dX9_refusalOf_15
  · replace h := (if_neg c4).symm.trans h
    refine lv_iload_n hx hb dX9_refusalOf_7 rfl (lv_at hl 2 rfl) ?_
    obtain ⟨o5, ho5, h⟩ := Option.bind_eq_some_iff.mp h
    obtain ⟨v7, x6⟩ := o5
    replace h := un2_e h
    refine bq_callSi (As := [.int _]) S hK hD hA hP hS (cX9_isLane_k ho5) hd_yX9_isLane ml_X9_255 st_yX9_isLane ⟨rfl, rfl⟩ ⟨by decide, by decide⟩ rfl hl.1 rfl (Nat.le_of_ble_eq_true rfl) ⟨Nat.zero_le _, Nat.zero_le _⟩ dX9_refusalOf_8 (fun H locs hP hS => ?_)
    refine lv_if_ne (tgt := 16) hx hb dX9_refusalOf_11 (by decide) (fun c8 => ?_) (fun c8 => ?_)
    · replace h := (if_neg c8).symm.trans h
      refine lv_aload_n hx hb dX9_refusalOf_16 rfl (lv_at hl 0 rfl) ?_
      refine bq_get (q0 := 0) S hK hP fl_X9_70_X9_9 rfl rfl rfl dX9_refusalOf_17 ?_
      refine lv_iload_n hx hb dX9_refusalOf_20 rfl (lv_at hl 1 rfl) ?_
      obtain ⟨g9, h⟩ := bq_gd h
      exact absurd (bq_lt g9) hkp1
    · replace h := (if_pos c8).symm.trans h
      refine lv_iconst (v := (-1 : Int32)) hx hb dX9_refusalOf_14 (by decide) ?_
      obtain ⟨e1, e2⟩ := Prod.mk.inj (hret _ h)
      exact hR _ _ _ _ _ (congrArg some e1) rfl (by rw [e2]; exact hP) hS dX9_refusalOf_15
theorem cX9_refusalOf_k_0 {l : Launch} {D : va_G} {a : Nat → Nat} {k : Nat → ClassId} {p1 : Int32} {p2 : Int32} {p3 : Int32} {p4 : Int32} {x0 xz : bq_S} {rz : Int32} (h : fX9_refusalOf  p1 p2 p3 p4 x0 = some (rz, xz)) : bq_M l D bq_cl (bq_ty k) (bq_wC a k) yX9_refusalOf cX9_refusalOf 6 (some .int) { frames := 1, cells := 0, slots := 0, locals := 22 } [.ref (a 0), .int p1, .int p2, .int p3, .int p4] x0 (some rz) xz := by
  by_cases k0 : p1.toNatClampNeg < 4
  · rcases (show p1.toNatClampNeg = 0 ∨ p1.toNatClampNeg = 1 ∨ p1.toNatClampNeg = 2 ∨ p1.toNatClampNeg = 3 by omega) with e0 | e0 | e0 | e0
    · skip
      exact cX9_refusalOf_k_0_s0 e0 h
    · skip
      exact cX9_refusalOf_k_0_s1 e0 h
    · skip
      exact cX9_refusalOf_k_0_s2 e0 h
    · skip
      exact cX9_refusalOf_k_0_s3 e0 h
  · skip
    exact cX9_refusalOf_k_0_sb k0 h
def fX4_wayBack_j41 (n : Nat) (r1 : Nat) (v2 : Int32) (v10 : Int32) (v11 : Int32) (v12 : Int32) (x13 : bq_S) : Option ((Int32 × Int32 × Int32 × bq_S) ⊕ (Int32 × Int32 × Int32 × bq_S)) :=
  if ok_i v12 8 then
  if ok_i (x13.1 (r1 + 5) v12.toNatClampNeg) 8 then
  bd (v10 + (x13.1 (r1 + 1) (x13.1 (r1 + 5) v12.toNatClampNeg).toNatClampNeg)) (fun v16 =>
  bd (v11 + (1 : Int32)) (fun v17 =>
  some (.inl (v16, v12, v17, x13))))
  else none
  else none
def fX4_wayBack_b8 (n : Nat) (r1 : Nat) (v2 : Int32) (v : Int32 × Int32 × Int32 × bq_S) : Option ((Int32 × Int32 × Int32 × bq_S) ⊕ (Int32 × Int32 × Int32 × bq_S)) :=
  un4 v (fun v3 v4 v5 x6 =>
  if (x6.1 r1 2) ≤ v5 then
  some (.inr (v3, v4, v5, x6))
  else
  if v4 = v2 then
  some (.inr (v3, v4, v5, x6))
  else
  if v4 ≤ 0 then
  fX4_wayBack_j41 n r1 v2 v3 v5 ((x6.1 r1 2) - (1 : Int32)) x6
  else
  fX4_wayBack_j41 n r1 v2 v3 v5 (v4 - (1 : Int32)) x6)
def fX4_wayBack (n : Nat) (q0 : Nat) (p1 : Int32) (p2 : Int32) (x0 : bq_S) : Option (Int32 × bq_S) :=
  (wh n (fX4_wayBack_b8 n q0 p2) ((0 : Int32), p1, (0 : Int32), x0)).bind (fun e18 => un4 e18 (fun v19 v20 v21 x22 =>
  some (v19, x22)))
theorem dX4_wayBack_0 : decode cX4_wayBack 0 = .ok (.iconst 0, 1) := by decide +kernel
theorem dX4_wayBack_1 : decode cX4_wayBack 1 = .ok (.istore_n 3, 1) := by decide +kernel
theorem dX4_wayBack_2 : decode cX4_wayBack 2 = .ok (.iload_n 1, 1) := by decide +kernel
theorem dX4_wayBack_3 : decode cX4_wayBack 3 = .ok (.istore 4, 2) := by decide +kernel
theorem dX4_wayBack_5 : decode cX4_wayBack 5 = .ok (.iconst 0, 1) := by decide +kernel
theorem dX4_wayBack_6 : decode cX4_wayBack 6 = .ok (.istore 5, 2) := by decide +kernel
theorem dX4_wayBack_8 : decode cX4_wayBack 8 = .ok (.iload 5, 2) := by decide +kernel
theorem dX4_wayBack_10 : decode cX4_wayBack 10 = .ok (.aload_n 0, 1) := by decide +kernel
theorem dX4_wayBack_11 : decode cX4_wayBack 11 = .ok (.getfield 18, 3) := by decide +kernel
theorem dX4_wayBack_14 : decode cX4_wayBack 14 = .ok (.if_icmp .ge 50, 3) := by decide +kernel
theorem dX4_wayBack_17 : decode cX4_wayBack 17 = .ok (.iload 4, 2) := by decide +kernel
theorem dX4_wayBack_19 : decode cX4_wayBack 19 = .ok (.iload_n 2, 1) := by decide +kernel
theorem dX4_wayBack_20 : decode cX4_wayBack 20 = .ok (.if_icmp .eq 44, 3) := by decide +kernel
theorem dX4_wayBack_23 : decode cX4_wayBack 23 = .ok (.iload 4, 2) := by decide +kernel
theorem dX4_wayBack_25 : decode cX4_wayBack 25 = .ok (.ifCond .le 10, 3) := by decide +kernel
theorem dX4_wayBack_28 : decode cX4_wayBack 28 = .ok (.iload 4, 2) := by decide +kernel
theorem dX4_wayBack_30 : decode cX4_wayBack 30 = .ok (.iconst 1, 1) := by decide +kernel
theorem dX4_wayBack_31 : decode cX4_wayBack 31 = .ok (.isub, 1) := by decide +kernel
theorem dX4_wayBack_32 : decode cX4_wayBack 32 = .ok (.goto 9, 3) := by decide +kernel
theorem dX4_wayBack_35 : decode cX4_wayBack 35 = .ok (.aload_n 0, 1) := by decide +kernel
theorem dX4_wayBack_36 : decode cX4_wayBack 36 = .ok (.getfield 18, 3) := by decide +kernel
theorem dX4_wayBack_39 : decode cX4_wayBack 39 = .ok (.iconst 1, 1) := by decide +kernel
theorem dX4_wayBack_40 : decode cX4_wayBack 40 = .ok (.isub, 1) := by decide +kernel
theorem dX4_wayBack_41 : decode cX4_wayBack 41 = .ok (.istore 4, 2) := by decide +kernel
theorem dX4_wayBack_43 : decode cX4_wayBack 43 = .ok (.iload_n 3, 1) := by decide +kernel
theorem dX4_wayBack_44 : decode cX4_wayBack 44 = .ok (.aload_n 0, 1) := by decide +kernel
theorem dX4_wayBack_45 : decode cX4_wayBack 45 = .ok (.getfield 21, 3) := by decide +kernel
theorem dX4_wayBack_48 : decode cX4_wayBack 48 = .ok (.aload_n 0, 1) := by decide +kernel
theorem dX4_wayBack_49 : decode cX4_wayBack 49 = .ok (.getfield 34, 3) := by decide +kernel
theorem dX4_wayBack_52 : decode cX4_wayBack 52 = .ok (.iload 4, 2) := by decide +kernel
theorem dX4_wayBack_54 : decode cX4_wayBack 54 = .ok (.iaload, 1) := by decide +kernel
theorem dX4_wayBack_55 : decode cX4_wayBack 55 = .ok (.iaload, 1) := by decide +kernel
theorem dX4_wayBack_56 : decode cX4_wayBack 56 = .ok (.iadd, 1) := by decide +kernel
theorem dX4_wayBack_57 : decode cX4_wayBack 57 = .ok (.istore_n 3, 1) := by decide +kernel
theorem dX4_wayBack_58 : decode cX4_wayBack 58 = .ok (.iinc 5 1, 3) := by decide +kernel
theorem dX4_wayBack_61 : decode cX4_wayBack 61 = .ok (.goto (-53), 3) := by decide +kernel
theorem dX4_wayBack_64 : decode cX4_wayBack 64 = .ok (.iload_n 3, 1) := by decide +kernel
theorem dX4_wayBack_65 : decode cX4_wayBack 65 = .ok (.ireturn, 1) := by decide +kernel
set_option maxHeartbeats 4000000 in
set_option maxRecDepth 100000 in
theorem cX4_wayBack_k_1 {l : Launch} {D : va_G} {a : Nat → Nat} {k : Nat → ClassId} {n : Nat} {p1 : Int32} {p2 : Int32} {x0 xz : bq_S} {rz : Int32} (h : fX4_wayBack n 1 p1 p2 x0 = some (rz, xz)) : bq_M l D bq_cl (bq_ty k) (bq_wC a k) yX4_wayBack cX4_wayBack 6 (some .int) { frames := 0, cells := 0, slots := 0, locals := 0 } [.ref (a 1), .int p1, .int p2] x0 (some rz) xz := by
  refine bq_ofW RX4 [(0, .ref (a 1)), (1, .int p1), (2, .int p2)] (by decide +kernel) rfl (Nat.le_of_ble_eq_true rfl) rfl (bq_adC a k) ?_
  intro p e s m below meth c A Q ls S hK hD hA hR hS hP hl
  have hx := S.1; have hb := S.2.1; have hml := S.2.2.1; have hown := S.2.2.2.1; have hts := S.2.2.2.2
  have hret : ∀ z, some z = some (rz, xz) → (rz, xz) = z := fun z h => (Option.some.inj h).symm
  unfold fX4_wayBack at h
  refine lv_iconst (v := (0 : Int32)) hx hb dX4_wayBack_0 (by decide) ?_
  refine lv_istore_n (lv' := [(3, .int (0 : Int32)), (0, .ref (a 1)), (1, .int p1), (2, .int p2)]) hx hb dX4_wayBack_1 rfl hl (by decide) rfl (fun ls hl => ?_)
  refine lv_iload_n hx hb dX4_wayBack_2 rfl (lv_at hl 2 rfl) ?_
  refine lv_istore (lv' := [(4, .int p1), (3, .int (0 : Int32)), (0, .ref (a 1)), (1, .int p1), (2, .int p2)]) hx hb dX4_wayBack_3 hl (by decide) rfl (fun ls hl => ?_)
  refine lv_iconst (v := (0 : Int32)) hx hb dX4_wayBack_5 (by decide) ?_
  refine lv_istore (lv' := [(5, .int (0 : Int32)), (4, .int p1), (3, .int (0 : Int32)), (0, .ref (a 1)), (1, .int p1), (2, .int p2)]) hx hb dX4_wayBack_6 hl (by decide) rfl (fun ls hl => ?_)
  have hl8 : ∀ (v2 : Int32) (kf : Nat) (v3 : Int32) (v4 : Int32) (v5 : Int32) (x6 : bq_S) (eo : Int32 × Int32 × Int32 × bq_S) (H : Heap) (locs : List Loc) (ls : Array Slot), wh kf (fX4_wayBack_b8 n 1 v2) (v3, v4, v5, x6) = some eo → va_P D bq_cl (bq_wC a k x6) H → va_S A s.heap H locs → lv_has ls 6 [(0, .ref (a 1)), (2, .int v2), (3, .int v3), (4, .int v4), (5, .int v5)] → (∀ (H : Heap) (locs : List Loc) (ls : Array Slot) (v19 : Int32) (v20 : Int32) (v21 : Int32) (x22 : bq_S), eo = (v19, v20, v21, x22) → va_P D bq_cl (bq_wC a k x22) H → va_S A s.heap H locs → lv_has ls 6 [(3, .int v19)] → W p l e { frames := 0, cells := 0, slots := 0, locals := 0 } s m [.ref (a 1), .int p1, .int p2].toArray below meth c H locs 0 0 Q (F0 m 64 ls [])) → W p l e { frames := 0, cells := 0, slots := 0, locals := 0 } s m [.ref (a 1), .int p1, .int p2].toArray below meth c H locs 0 0 Q (F0 m 8 ls []) := by
    intro v2 kf
    induction kf with
    | zero => intro v3 v4 v5 x6 eo H locs ls h; cases h
    | succ kf ih =>
      intro v3 v4 v5 x6 eo H locs ls h hP hS hl kx
      obtain ⟨out, h, hw⟩ := wh_s h
      unfold fX4_wayBack_b8 at h
      replace h := un4_e h
      have hj41 : ∀ (v10 : Int32) (v11 : Int32) (v12 : Int32) (x13 : bq_S) (H : Heap) (locs : List Loc) (ls : Array Slot), fX4_wayBack_j41 n 1 v2 v10 v11 v12 x13 = some out → va_P D bq_cl (bq_wC a k x13) H → va_S A s.heap H locs → lv_has ls 6 [(0, .ref (a 1)), (2, .int v2), (3, .int v10), (5, .int v11)] → W p l e { frames := 0, cells := 0, slots := 0, locals := 0 } s m [.ref (a 1), .int p1, .int p2].toArray below meth c H locs 0 0 Q (F0 m 41 ls [.int v12]) := by
        intro v10 v11 v12 x13 H locs ls h hP hS hl
        unfold fX4_wayBack_j41 at h
        refine lv_istore (lv' := [(4, .int v12), (0, .ref (a 1)), (2, .int v2), (3, .int v10), (5, .int v11)]) hx hb dX4_wayBack_41 hl (by decide) rfl (fun ls hl => ?_)
        refine lv_iload_n hx hb dX4_wayBack_43 rfl (lv_at hl 3 rfl) ?_
        refine lv_aload_n hx hb dX4_wayBack_44 rfl (lv_at hl 1 rfl) ?_
        refine bq_get (q0 := 1) S hK hP fl_X4_21_X4_3 rfl rfl rfl dX4_wayBack_45 ?_
        refine lv_aload_n hx hb dX4_wayBack_48 rfl (lv_at hl 1 rfl) ?_
        refine bq_get (q0 := 1) S hK hP fl_X4_34_X4_7 rfl rfl rfl dX4_wayBack_49 ?_
        refine lv_iload hx hb dX4_wayBack_52 (lv_at hl 0 rfl) ?_
        obtain ⟨g14, h⟩ := bq_gd h
        refine va_iald (D := D) hx hb hK hP 6 0 rfl rfl g14 dX4_wayBack_54 ?_
        obtain ⟨g15, h⟩ := bq_gd h
        refine va_iald (D := D) hx hb hK hP 2 0 rfl rfl g15 dX4_wayBack_55 ?_
        refine lv_iadd hx hb dX4_wayBack_56 ?_
        refine lv_topi (fun v16 hv16 => ?_)
        replace h := bq_bv h hv16
        refine lv_istore_n (lv' := [(3, .int v16), (4, .int v12), (0, .ref (a 1)), (2, .int v2), (5, .int v11)]) hx hb dX4_wayBack_57 rfl hl (by decide) rfl (fun ls hl => ?_)
        obtain ⟨v17, hv17, h⟩ := bq_b h
        refine lv_iinc (v := v17) (lv' := [(5, .int v17), (3, .int v16), (4, .int v12), (0, .ref (a 1)), (2, .int v2)]) hx hb dX4_wayBack_58 hl (k := 4) rfl (by rw [hv17]; rfl) (by decide) rfl (fun ls hl => ?_)
        refine lv_goto (tgt := 8) hx hb dX4_wayBack_61 (by decide) ?_
        cases h
        exact ih _ _ _ _ _ _ _ _ hw hP hS (lv_sub hl [3, 4, 1, 2, 0] rfl) kx
      refine lv_iload hx hb dX4_wayBack_8 (lv_at hl 4 rfl) ?_
      refine lv_aload_n hx hb dX4_wayBack_10 rfl (lv_at hl 0 rfl) ?_
      refine bq_get (q0 := 1) S hK hP fl_X4_18_X4_2 rfl rfl rfl dX4_wayBack_11 ?_
      refine lv_icmp_ge (tgt := 64) hx hb dX4_wayBack_14 (by decide) (fun c7 => ?_) (fun c7 => ?_)
      · replace h := (if_pos c7).symm.trans h
        cases h
        exact kx _ _ _ _ _ _ _ (Option.some.inj hw).symm hP hS (lv_sub hl [2] rfl)
      · replace h := (if_neg c7).symm.trans h
        refine lv_iload hx hb dX4_wayBack_17 (lv_at hl 3 rfl) ?_
        refine lv_iload_n hx hb dX4_wayBack_19 rfl (lv_at hl 1 rfl) ?_
        refine lv_icmp_eq (tgt := 64) hx hb dX4_wayBack_20 (by decide) (fun c8 => ?_) (fun c8 => ?_)
        · replace h := (if_pos c8).symm.trans h
          cases h
          exact kx _ _ _ _ _ _ _ (Option.some.inj hw).symm hP hS (lv_sub hl [2] rfl)
        · replace h := (if_neg c8).symm.trans h
          refine lv_iload hx hb dX4_wayBack_23 (lv_at hl 3 rfl) ?_
          refine lv_if_le (tgt := 35) hx hb dX4_wayBack_25 (by decide) (fun c9 => ?_) (fun c9 => ?_)
          · replace h := (if_pos c9).symm.trans h
            refine lv_aload_n hx hb dX4_wayBack_35 rfl (lv_at hl 0 rfl) ?_
            refine bq_get (q0 := 1) S hK hP fl_X4_18_X4_2 rfl rfl rfl dX4_wayBack_36 ?_
            refine lv_iconst (v := (1 : Int32)) hx hb dX4_wayBack_39 (by decide) ?_
            refine lv_isub hx hb dX4_wayBack_40 ?_
            exact hj41 _ _ _ _ _ _ _ h hP hS (lv_sub hl [0, 1, 2, 4] rfl)
          · replace h := (if_neg c9).symm.trans h
            refine lv_iload hx hb dX4_wayBack_28 (lv_at hl 3 rfl) ?_
            refine lv_iconst (v := (1 : Int32)) hx hb dX4_wayBack_30 (by decide) ?_
            refine lv_isub hx hb dX4_wayBack_31 ?_
            refine lv_goto (tgt := 41) hx hb dX4_wayBack_32 (by decide) ?_
            exact hj41 _ _ _ _ _ _ _ h hP hS (lv_sub hl [0, 1, 2, 4] rfl)
  obtain ⟨e18, he18, h⟩ := Option.bind_eq_some_iff.mp h
  refine hl8 _ n _ _ _ _ e18 _ _ _ he18 hP hS (lv_sub hl [3, 5, 2, 1, 0] rfl) (fun H locs ls v19 v20 v21 x22 hz hP hS hl => ?_)
  subst hz
  replace h := un4_e h
  refine lv_iload_n hx hb dX4_wayBack_64 rfl (lv_at hl 0 rfl) ?_
  obtain ⟨e1, e2⟩ := Prod.mk.inj (hret _ h)
  exact hR _ _ _ _ _ (congrArg some e1) rfl (by rw [e2]; exact hP) hS dX4_wayBack_65
def fX4_wayForth_j42 (n : Nat) (r1 : Nat) (v2 : Int32) (v10 : Int32) (v11 : Int32) (v12 : Int32) (x13 : bq_S) : Option ((Int32 × Int32 × Int32 × bq_S) ⊕ (Int32 × Int32 × Int32 × bq_S)) :=
  if ok_i v12 8 then
  if ok_i (x13.1 (r1 + 5) v12.toNatClampNeg) 8 then
  bd (v10 + (x13.1 (r1 + 1) (x13.1 (r1 + 5) v12.toNatClampNeg).toNatClampNeg)) (fun v16 =>
  bd (v11 + (1 : Int32)) (fun v17 =>
  some (.inl (v16, v12, v17, x13))))
  else none
  else none
def fX4_wayForth_b8 (n : Nat) (r1 : Nat) (v2 : Int32) (v : Int32 × Int32 × Int32 × bq_S) : Option ((Int32 × Int32 × Int32 × bq_S) ⊕ (Int32 × Int32 × Int32 × bq_S)) :=
  un4 v (fun v3 v4 v5 x6 =>
  if (x6.1 r1 2) ≤ v5 then
  some (.inr (v3, v4, v5, x6))
  else
  if v4 = v2 then
  some (.inr (v3, v4, v5, x6))
  else
  if (x6.1 r1 2) ≤ (v4 + (1 : Int32)) then
  fX4_wayForth_j42 n r1 v2 v3 v5 (0 : Int32) x6
  else
  fX4_wayForth_j42 n r1 v2 v3 v5 (v4 + (1 : Int32)) x6)
def fX4_wayForth (n : Nat) (q0 : Nat) (p1 : Int32) (p2 : Int32) (x0 : bq_S) : Option (Int32 × bq_S) :=
  (wh n (fX4_wayForth_b8 n q0 p2) ((0 : Int32), p1, (0 : Int32), x0)).bind (fun e18 => un4 e18 (fun v19 v20 v21 x22 =>
  some (v19, x22)))
theorem dX4_wayForth_0 : decode cX4_wayForth 0 = .ok (.iconst 0, 1) := by decide +kernel
theorem dX4_wayForth_1 : decode cX4_wayForth 1 = .ok (.istore_n 3, 1) := by decide +kernel
theorem dX4_wayForth_2 : decode cX4_wayForth 2 = .ok (.iload_n 1, 1) := by decide +kernel
theorem dX4_wayForth_3 : decode cX4_wayForth 3 = .ok (.istore 4, 2) := by decide +kernel
theorem dX4_wayForth_5 : decode cX4_wayForth 5 = .ok (.iconst 0, 1) := by decide +kernel
theorem dX4_wayForth_6 : decode cX4_wayForth 6 = .ok (.istore 5, 2) := by decide +kernel
theorem dX4_wayForth_8 : decode cX4_wayForth 8 = .ok (.iload 5, 2) := by decide +kernel
theorem dX4_wayForth_10 : decode cX4_wayForth 10 = .ok (.aload_n 0, 1) := by decide +kernel
theorem dX4_wayForth_11 : decode cX4_wayForth 11 = .ok (.getfield 18, 3) := by decide +kernel
theorem dX4_wayForth_14 : decode cX4_wayForth 14 = .ok (.if_icmp .ge 51, 3) := by decide +kernel
theorem dX4_wayForth_17 : decode cX4_wayForth 17 = .ok (.iload 4, 2) := by decide +kernel
theorem dX4_wayForth_19 : decode cX4_wayForth 19 = .ok (.iload_n 2, 1) := by decide +kernel
theorem dX4_wayForth_20 : decode cX4_wayForth 20 = .ok (.if_icmp .eq 45, 3) := by decide +kernel
theorem dX4_wayForth_23 : decode cX4_wayForth 23 = .ok (.iload 4, 2) := by decide +kernel
theorem dX4_wayForth_25 : decode cX4_wayForth 25 = .ok (.iconst 1, 1) := by decide +kernel
theorem dX4_wayForth_26 : decode cX4_wayForth 26 = .ok (.iadd, 1) := by decide +kernel
theorem dX4_wayForth_27 : decode cX4_wayForth 27 = .ok (.aload_n 0, 1) := by decide +kernel
theorem dX4_wayForth_28 : decode cX4_wayForth 28 = .ok (.getfield 18, 3) := by decide +kernel
theorem dX4_wayForth_31 : decode cX4_wayForth 31 = .ok (.if_icmp .ge 10, 3) := by decide +kernel
theorem dX4_wayForth_34 : decode cX4_wayForth 34 = .ok (.iload 4, 2) := by decide +kernel
theorem dX4_wayForth_36 : decode cX4_wayForth 36 = .ok (.iconst 1, 1) := by decide +kernel
theorem dX4_wayForth_37 : decode cX4_wayForth 37 = .ok (.iadd, 1) := by decide +kernel
theorem dX4_wayForth_38 : decode cX4_wayForth 38 = .ok (.goto 4, 3) := by decide +kernel
theorem dX4_wayForth_41 : decode cX4_wayForth 41 = .ok (.iconst 0, 1) := by decide +kernel
theorem dX4_wayForth_42 : decode cX4_wayForth 42 = .ok (.istore 4, 2) := by decide +kernel
theorem dX4_wayForth_44 : decode cX4_wayForth 44 = .ok (.iload_n 3, 1) := by decide +kernel
theorem dX4_wayForth_45 : decode cX4_wayForth 45 = .ok (.aload_n 0, 1) := by decide +kernel
theorem dX4_wayForth_46 : decode cX4_wayForth 46 = .ok (.getfield 21, 3) := by decide +kernel
theorem dX4_wayForth_49 : decode cX4_wayForth 49 = .ok (.aload_n 0, 1) := by decide +kernel
theorem dX4_wayForth_50 : decode cX4_wayForth 50 = .ok (.getfield 34, 3) := by decide +kernel
theorem dX4_wayForth_53 : decode cX4_wayForth 53 = .ok (.iload 4, 2) := by decide +kernel
theorem dX4_wayForth_55 : decode cX4_wayForth 55 = .ok (.iaload, 1) := by decide +kernel
theorem dX4_wayForth_56 : decode cX4_wayForth 56 = .ok (.iaload, 1) := by decide +kernel
theorem dX4_wayForth_57 : decode cX4_wayForth 57 = .ok (.iadd, 1) := by decide +kernel
theorem dX4_wayForth_58 : decode cX4_wayForth 58 = .ok (.istore_n 3, 1) := by decide +kernel
theorem dX4_wayForth_59 : decode cX4_wayForth 59 = .ok (.iinc 5 1, 3) := by decide +kernel
theorem dX4_wayForth_62 : decode cX4_wayForth 62 = .ok (.goto (-54), 3) := by decide +kernel
theorem dX4_wayForth_65 : decode cX4_wayForth 65 = .ok (.iload_n 3, 1) := by decide +kernel
theorem dX4_wayForth_66 : decode cX4_wayForth 66 = .ok (.ireturn, 1) := by decide +kernel
set_option maxHeartbeats 4000000 in
set_option maxRecDepth 100000 in
theorem cX4_wayForth_k_1 {l : Launch} {D : va_G} {a : Nat → Nat} {k : Nat → ClassId} {n : Nat} {p1 : Int32} {p2 : Int32} {x0 xz : bq_S} {rz : Int32} (h : fX4_wayForth n 1 p1 p2 x0 = some (rz, xz)) : bq_M l D bq_cl (bq_ty k) (bq_wC a k) yX4_wayForth cX4_wayForth 6 (some .int) { frames := 0, cells := 0, slots := 0, locals := 0 } [.ref (a 1), .int p1, .int p2] x0 (some rz) xz := by
  refine bq_ofW RX4 [(0, .ref (a 1)), (1, .int p1), (2, .int p2)] (by decide +kernel) rfl (Nat.le_of_ble_eq_true rfl) rfl (bq_adC a k) ?_
  intro p e s m below meth c A Q ls S hK hD hA hR hS hP hl
  have hx := S.1; have hb := S.2.1; have hml := S.2.2.1; have hown := S.2.2.2.1; have hts := S.2.2.2.2
  have hret : ∀ z, some z = some (rz, xz) → (rz, xz) = z := fun z h => (Option.some.inj h).symm
  unfold fX4_wayForth at h
  refine lv_iconst (v := (0 : Int32)) hx hb dX4_wayForth_0 (by decide) ?_
  refine lv_istore_n (lv' := [(3, .int (0 : Int32)), (0, .ref (a 1)), (1, .int p1), (2, .int p2)]) hx hb dX4_wayForth_1 rfl hl (by decide) rfl (fun ls hl => ?_)
  refine lv_iload_n hx hb dX4_wayForth_2 rfl (lv_at hl 2 rfl) ?_
  refine lv_istore (lv' := [(4, .int p1), (3, .int (0 : Int32)), (0, .ref (a 1)), (1, .int p1), (2, .int p2)]) hx hb dX4_wayForth_3 hl (by decide) rfl (fun ls hl => ?_)
  refine lv_iconst (v := (0 : Int32)) hx hb dX4_wayForth_5 (by decide) ?_
  refine lv_istore (lv' := [(5, .int (0 : Int32)), (4, .int p1), (3, .int (0 : Int32)), (0, .ref (a 1)), (1, .int p1), (2, .int p2)]) hx hb dX4_wayForth_6 hl (by decide) rfl (fun ls hl => ?_)
  have hl8 : ∀ (v2 : Int32) (kf : Nat) (v3 : Int32) (v4 : Int32) (v5 : Int32) (x6 : bq_S) (eo : Int32 × Int32 × Int32 × bq_S) (H : Heap) (locs : List Loc) (ls : Array Slot), wh kf (fX4_wayForth_b8 n 1 v2) (v3, v4, v5, x6) = some eo → va_P D bq_cl (bq_wC a k x6) H → va_S A s.heap H locs → lv_has ls 6 [(0, .ref (a 1)), (2, .int v2), (3, .int v3), (4, .int v4), (5, .int v5)] → (∀ (H : Heap) (locs : List Loc) (ls : Array Slot) (v19 : Int32) (v20 : Int32) (v21 : Int32) (x22 : bq_S), eo = (v19, v20, v21, x22) → va_P D bq_cl (bq_wC a k x22) H → va_S A s.heap H locs → lv_has ls 6 [(3, .int v19)] → W p l e { frames := 0, cells := 0, slots := 0, locals := 0 } s m [.ref (a 1), .int p1, .int p2].toArray below meth c H locs 0 0 Q (F0 m 65 ls [])) → W p l e { frames := 0, cells := 0, slots := 0, locals := 0 } s m [.ref (a 1), .int p1, .int p2].toArray below meth c H locs 0 0 Q (F0 m 8 ls []) := by
    intro v2 kf
    induction kf with
    | zero => intro v3 v4 v5 x6 eo H locs ls h; cases h
    | succ kf ih =>
      intro v3 v4 v5 x6 eo H locs ls h hP hS hl kx
      obtain ⟨out, h, hw⟩ := wh_s h
      unfold fX4_wayForth_b8 at h
      replace h := un4_e h
      have hj42 : ∀ (v10 : Int32) (v11 : Int32) (v12 : Int32) (x13 : bq_S) (H : Heap) (locs : List Loc) (ls : Array Slot), fX4_wayForth_j42 n 1 v2 v10 v11 v12 x13 = some out → va_P D bq_cl (bq_wC a k x13) H → va_S A s.heap H locs → lv_has ls 6 [(0, .ref (a 1)), (2, .int v2), (3, .int v10), (5, .int v11)] → W p l e { frames := 0, cells := 0, slots := 0, locals := 0 } s m [.ref (a 1), .int p1, .int p2].toArray below meth c H locs 0 0 Q (F0 m 42 ls [.int v12]) := by
        intro v10 v11 v12 x13 H locs ls h hP hS hl
        unfold fX4_wayForth_j42 at h
        refine lv_istore (lv' := [(4, .int v12), (0, .ref (a 1)), (2, .int v2), (3, .int v10), (5, .int v11)]) hx hb dX4_wayForth_42 hl (by decide) rfl (fun ls hl => ?_)
        refine lv_iload_n hx hb dX4_wayForth_44 rfl (lv_at hl 3 rfl) ?_
        refine lv_aload_n hx hb dX4_wayForth_45 rfl (lv_at hl 1 rfl) ?_
        refine bq_get (q0 := 1) S hK hP fl_X4_21_X4_3 rfl rfl rfl dX4_wayForth_46 ?_
        refine lv_aload_n hx hb dX4_wayForth_49 rfl (lv_at hl 1 rfl) ?_
        refine bq_get (q0 := 1) S hK hP fl_X4_34_X4_7 rfl rfl rfl dX4_wayForth_50 ?_
        refine lv_iload hx hb dX4_wayForth_53 (lv_at hl 0 rfl) ?_
        obtain ⟨g14, h⟩ := bq_gd h
        refine va_iald (D := D) hx hb hK hP 6 0 rfl rfl g14 dX4_wayForth_55 ?_
        obtain ⟨g15, h⟩ := bq_gd h
        refine va_iald (D := D) hx hb hK hP 2 0 rfl rfl g15 dX4_wayForth_56 ?_
        refine lv_iadd hx hb dX4_wayForth_57 ?_
        refine lv_topi (fun v16 hv16 => ?_)
        replace h := bq_bv h hv16
        refine lv_istore_n (lv' := [(3, .int v16), (4, .int v12), (0, .ref (a 1)), (2, .int v2), (5, .int v11)]) hx hb dX4_wayForth_58 rfl hl (by decide) rfl (fun ls hl => ?_)
        obtain ⟨v17, hv17, h⟩ := bq_b h
        refine lv_iinc (v := v17) (lv' := [(5, .int v17), (3, .int v16), (4, .int v12), (0, .ref (a 1)), (2, .int v2)]) hx hb dX4_wayForth_59 hl (k := 4) rfl (by rw [hv17]; rfl) (by decide) rfl (fun ls hl => ?_)
        refine lv_goto (tgt := 8) hx hb dX4_wayForth_62 (by decide) ?_
        cases h
        exact ih _ _ _ _ _ _ _ _ hw hP hS (lv_sub hl [3, 4, 1, 2, 0] rfl) kx
      refine lv_iload hx hb dX4_wayForth_8 (lv_at hl 4 rfl) ?_
      refine lv_aload_n hx hb dX4_wayForth_10 rfl (lv_at hl 0 rfl) ?_
      refine bq_get (q0 := 1) S hK hP fl_X4_18_X4_2 rfl rfl rfl dX4_wayForth_11 ?_
      refine lv_icmp_ge (tgt := 65) hx hb dX4_wayForth_14 (by decide) (fun c7 => ?_) (fun c7 => ?_)
      · replace h := (if_pos c7).symm.trans h
        cases h
        exact kx _ _ _ _ _ _ _ (Option.some.inj hw).symm hP hS (lv_sub hl [2] rfl)
      · replace h := (if_neg c7).symm.trans h
        refine lv_iload hx hb dX4_wayForth_17 (lv_at hl 3 rfl) ?_
        refine lv_iload_n hx hb dX4_wayForth_19 rfl (lv_at hl 1 rfl) ?_
        refine lv_icmp_eq (tgt := 65) hx hb dX4_wayForth_20 (by decide) (fun c8 => ?_) (fun c8 => ?_)
        · replace h := (if_pos c8).symm.trans h
          cases h
          exact kx _ _ _ _ _ _ _ (Option.some.inj hw).symm hP hS (lv_sub hl [2] rfl)
        · replace h := (if_neg c8).symm.trans h
          refine lv_iload hx hb dX4_wayForth_23 (lv_at hl 3 rfl) ?_
          refine lv_iconst (v := (1 : Int32)) hx hb dX4_wayForth_25 (by decide) ?_
          refine lv_iadd hx hb dX4_wayForth_26 ?_
          refine lv_aload_n hx hb dX4_wayForth_27 rfl (lv_at hl 0 rfl) ?_
          refine bq_get (q0 := 1) S hK hP fl_X4_18_X4_2 rfl rfl rfl dX4_wayForth_28 ?_
          refine lv_icmp_ge (tgt := 41) hx hb dX4_wayForth_31 (by decide) (fun c9 => ?_) (fun c9 => ?_)
          · replace h := (if_pos c9).symm.trans h
            refine lv_iconst (v := (0 : Int32)) hx hb dX4_wayForth_41 (by decide) ?_
            exact hj42 _ _ _ _ _ _ _ h hP hS (lv_sub hl [0, 1, 2, 4] rfl)
          · replace h := (if_neg c9).symm.trans h
            refine lv_iload hx hb dX4_wayForth_34 (lv_at hl 3 rfl) ?_
            refine lv_iconst (v := (1 : Int32)) hx hb dX4_wayForth_36 (by decide) ?_
            refine lv_iadd hx hb dX4_wayForth_37 ?_
            refine lv_goto (tgt := 42) hx hb dX4_wayForth_38 (by decide) ?_
            exact hj42 _ _ _ _ _ _ _ h hP hS (lv_sub hl [0, 1, 2, 4] rfl)
  obtain ⟨e18, he18, h⟩ := Option.bind_eq_some_iff.mp h
  refine hl8 _ n _ _ _ _ e18 _ _ _ he18 hP hS (lv_sub hl [3, 5, 2, 1, 0] rfl) (fun H locs ls v19 v20 v21 x22 hz hP hS hl => ?_)
  subst hz
  replace h := un4_e h
  refine lv_iload_n hx hb dX4_wayForth_65 rfl (lv_at hl 0 rfl) ?_
  obtain ⟨e1, e2⟩ := Prod.mk.inj (hret _ h)
  exact hR _ _ _ _ _ (congrArg some e1) rfl (by rw [e2]; exact hP) hS dX4_wayForth_66
def fX4_wayBetween (n : Nat) (q0 : Nat) (p1 : Int32) (p2 : Int32) (x0 : bq_S) : Option (Int32 × bq_S) :=
  if (x0.1 (q0 + 4) (0 : Int32).toNatClampNeg) = (1 : Int32) then
  (fX4_wayForth n q0 p1 p2 x0).bind (fun o9 => un2 o9 (fun v11 x10 =>
  (fX4_wayBack n q0 p1 p2 x10).bind (fun o12 => un2 o12 (fun v14 x13 =>
  some ((if v14 < v11 then v14 else v11), x13)))))
  else
  if p2 ≤ p1 then
  (fX4_wayBack n q0 p1 p2 x0).bind (fun o3 => un2 o3 (fun v5 x4 =>
  some (v5, x4)))
  else
  (fX4_wayForth n q0 p1 p2 x0).bind (fun o6 => un2 o6 (fun v8 x7 =>
  some (v8, x7)))
theorem dX4_wayBetween_0 : decode cX4_wayBetween 0 = .ok (.aload_n 0, 1) := by decide +kernel
theorem dX4_wayBetween_1 : decode cX4_wayBetween 1 = .ok (.getfield 31, 3) := by decide +kernel
theorem dX4_wayBetween_4 : decode cX4_wayBetween 4 = .ok (.iconst 0, 1) := by decide +kernel
theorem dX4_wayBetween_5 : decode cX4_wayBetween 5 = .ok (.iaload, 1) := by decide +kernel
theorem dX4_wayBetween_6 : decode cX4_wayBetween 6 = .ok (.iconst 1, 1) := by decide +kernel
theorem dX4_wayBetween_7 : decode cX4_wayBetween 7 = .ok (.if_icmp .ne 19, 3) := by decide +kernel
theorem dX4_wayBetween_10 : decode cX4_wayBetween 10 = .ok (.aload_n 0, 1) := by decide +kernel
theorem dX4_wayBetween_11 : decode cX4_wayBetween 11 = .ok (.iload_n 1, 1) := by decide +kernel
theorem dX4_wayBetween_12 : decode cX4_wayBetween 12 = .ok (.iload_n 2, 1) := by decide +kernel
theorem dX4_wayBetween_13 : decode cX4_wayBetween 13 = .ok (.invokevirtual 104, 3) := by decide +kernel
theorem dX4_wayBetween_16 : decode cX4_wayBetween 16 = .ok (.aload_n 0, 1) := by decide +kernel
theorem dX4_wayBetween_17 : decode cX4_wayBetween 17 = .ok (.iload_n 1, 1) := by decide +kernel
theorem dX4_wayBetween_18 : decode cX4_wayBetween 18 = .ok (.iload_n 2, 1) := by decide +kernel
theorem dX4_wayBetween_19 : decode cX4_wayBetween 19 = .ok (.invokevirtual 107, 3) := by decide +kernel
theorem dX4_wayBetween_22 : decode cX4_wayBetween 22 = .ok (.invokestatic 110, 3) := by decide +kernel
theorem dX4_wayBetween_25 : decode cX4_wayBetween 25 = .ok (.ireturn, 1) := by decide +kernel
theorem dX4_wayBetween_26 : decode cX4_wayBetween 26 = .ok (.iload_n 1, 1) := by decide +kernel
theorem dX4_wayBetween_27 : decode cX4_wayBetween 27 = .ok (.iload_n 2, 1) := by decide +kernel
theorem dX4_wayBetween_28 : decode cX4_wayBetween 28 = .ok (.if_icmp .ge 12, 3) := by decide +kernel
theorem dX4_wayBetween_31 : decode cX4_wayBetween 31 = .ok (.aload_n 0, 1) := by decide +kernel
theorem dX4_wayBetween_32 : decode cX4_wayBetween 32 = .ok (.iload_n 1, 1) := by decide +kernel
theorem dX4_wayBetween_33 : decode cX4_wayBetween 33 = .ok (.iload_n 2, 1) := by decide +kernel
theorem dX4_wayBetween_34 : decode cX4_wayBetween 34 = .ok (.invokevirtual 104, 3) := by decide +kernel
theorem dX4_wayBetween_37 : decode cX4_wayBetween 37 = .ok (.goto 9, 3) := by decide +kernel
theorem dX4_wayBetween_40 : decode cX4_wayBetween 40 = .ok (.aload_n 0, 1) := by decide +kernel
theorem dX4_wayBetween_41 : decode cX4_wayBetween 41 = .ok (.iload_n 1, 1) := by decide +kernel
theorem dX4_wayBetween_42 : decode cX4_wayBetween 42 = .ok (.iload_n 2, 1) := by decide +kernel
theorem dX4_wayBetween_43 : decode cX4_wayBetween 43 = .ok (.invokevirtual 107, 3) := by decide +kernel
theorem dX4_wayBetween_46 : decode cX4_wayBetween 46 = .ok (.ireturn, 1) := by decide +kernel
set_option maxHeartbeats 4000000 in
set_option maxRecDepth 100000 in
theorem cX4_wayBetween_k_1 {l : Launch} {D : va_G} {a : Nat → Nat} {k : Nat → ClassId} {n : Nat} {p1 : Int32} {p2 : Int32} {x0 xz : bq_S} {rz : Int32} (h : fX4_wayBetween n 1 p1 p2 x0 = some (rz, xz)) : bq_M l D bq_cl (bq_ty k) (bq_wC a k) yX4_wayBetween cX4_wayBetween 3 (some .int) { frames := 1, cells := 0, slots := 0, locals := 25 } [.ref (a 1), .int p1, .int p2] x0 (some rz) xz := by
  refine bq_ofW RX4 [(0, .ref (a 1)), (1, .int p1), (2, .int p2)] (by decide +kernel) rfl (Nat.le_of_ble_eq_true rfl) rfl (bq_adC a k) ?_
  intro p e s m below meth c A Q ls S hK hD hA hR hS hP hl
  have hx := S.1; have hb := S.2.1; have hml := S.2.2.1; have hown := S.2.2.2.1; have hts := S.2.2.2.2
  have hret : ∀ z, some z = some (rz, xz) → (rz, xz) = z := fun z h => (Option.some.inj h).symm
  unfold fX4_wayBetween at h
  refine lv_aload_n hx hb dX4_wayBetween_0 rfl (lv_at hl 0 rfl) ?_
  refine bq_get (q0 := 1) S hK hP fl_X4_31_X4_6 rfl rfl rfl dX4_wayBetween_1 ?_
  refine lv_iconst (v := (0 : Int32)) hx hb dX4_wayBetween_4 (by decide) ?_
  refine va_iald (D := D) hx hb hK hP 5 0 rfl rfl (bq_inl rfl) dX4_wayBetween_5 ?_
  refine lv_iconst (v := (1 : Int32)) hx hb dX4_wayBetween_6 (by decide) ?_
  refine lv_icmp_ne (tgt := 26) hx hb dX4_wayBetween_7 (by decide) (fun c1 => ?_) (fun c1 => ?_)
  · replace h := (if_neg c1).symm.trans h
    refine lv_iload_n hx hb dX4_wayBetween_26 rfl (lv_at hl 1 rfl) ?_
    refine lv_iload_n hx hb dX4_wayBetween_27 rfl (lv_at hl 2 rfl) ?_
    refine lv_icmp_ge (tgt := 40) hx hb dX4_wayBetween_28 (by decide) (fun c2 => ?_) (fun c2 => ?_)
    · replace h := (if_pos c2).symm.trans h
      refine lv_aload_n hx hb dX4_wayBetween_40 rfl (lv_at hl 0 rfl) ?_
      refine lv_iload_n hx hb dX4_wayBetween_41 rfl (lv_at hl 1 rfl) ?_
      refine lv_iload_n hx hb dX4_wayBetween_42 rfl (lv_at hl 2 rfl) ?_
      obtain ⟨o3, ho3, h⟩ := Option.bind_eq_some_iff.mp h
      obtain ⟨v5, x4⟩ := o3
      replace h := un2_e h
      refine bq_callVi (q0 := 1) (As := [.int _, .int _]) S hK hD hA hP hS (cX4_wayBack_k_1 ho3) hd_yX4_wayBack ml_X4_107 in_yX4_wayBack (hts _ sl_X4_X4_yX4_wayBack) ⟨rfl, rfl⟩ ⟨by decide, by decide⟩ rfl rfl rfl hl.1 rfl (Nat.le_of_ble_eq_true rfl) ⟨Nat.zero_le _, Nat.zero_le _⟩ dX4_wayBetween_43 (fun H locs hP hS => ?_)
      obtain ⟨e1, e2⟩ := Prod.mk.inj (hret _ h)
      exact hR _ _ _ _ _ (congrArg some e1) rfl (by rw [e2]; exact hP) hS dX4_wayBetween_46
    · replace h := (if_neg c2).symm.trans h
      refine lv_aload_n hx hb dX4_wayBetween_31 rfl (lv_at hl 0 rfl) ?_
      refine lv_iload_n hx hb dX4_wayBetween_32 rfl (lv_at hl 1 rfl) ?_
      refine lv_iload_n hx hb dX4_wayBetween_33 rfl (lv_at hl 2 rfl) ?_
      obtain ⟨o6, ho6, h⟩ := Option.bind_eq_some_iff.mp h
      obtain ⟨v8, x7⟩ := o6
      replace h := un2_e h
      refine bq_callVi (q0 := 1) (As := [.int _, .int _]) S hK hD hA hP hS (cX4_wayForth_k_1 ho6) hd_yX4_wayForth ml_X4_104 in_yX4_wayForth (hts _ sl_X4_X4_yX4_wayForth) ⟨rfl, rfl⟩ ⟨by decide, by decide⟩ rfl rfl rfl hl.1 rfl (Nat.le_of_ble_eq_true rfl) ⟨Nat.zero_le _, Nat.zero_le _⟩ dX4_wayBetween_34 (fun H locs hP hS => ?_)
      refine lv_goto (tgt := 46) hx hb dX4_wayBetween_37 (by decide) ?_
      obtain ⟨e1, e2⟩ := Prod.mk.inj (hret _ h)
      exact hR _ _ _ _ _ (congrArg some e1) rfl (by rw [e2]; exact hP) hS dX4_wayBetween_46
  · replace h := (if_pos c1).symm.trans h
    refine lv_aload_n hx hb dX4_wayBetween_10 rfl (lv_at hl 0 rfl) ?_
    refine lv_iload_n hx hb dX4_wayBetween_11 rfl (lv_at hl 1 rfl) ?_
    refine lv_iload_n hx hb dX4_wayBetween_12 rfl (lv_at hl 2 rfl) ?_
    obtain ⟨o9, ho9, h⟩ := Option.bind_eq_some_iff.mp h
    obtain ⟨v11, x10⟩ := o9
    replace h := un2_e h
    refine bq_callVi (q0 := 1) (As := [.int _, .int _]) S hK hD hA hP hS (cX4_wayForth_k_1 ho9) hd_yX4_wayForth ml_X4_104 in_yX4_wayForth (hts _ sl_X4_X4_yX4_wayForth) ⟨rfl, rfl⟩ ⟨by decide, by decide⟩ rfl rfl rfl hl.1 rfl (Nat.le_of_ble_eq_true rfl) ⟨Nat.zero_le _, Nat.zero_le _⟩ dX4_wayBetween_13 (fun H locs hP hS => ?_)
    refine lv_aload_n hx hb dX4_wayBetween_16 rfl (lv_at hl 0 rfl) ?_
    refine lv_iload_n hx hb dX4_wayBetween_17 rfl (lv_at hl 1 rfl) ?_
    refine lv_iload_n hx hb dX4_wayBetween_18 rfl (lv_at hl 2 rfl) ?_
    obtain ⟨o12, ho12, h⟩ := Option.bind_eq_some_iff.mp h
    obtain ⟨v14, x13⟩ := o12
    replace h := un2_e h
    refine bq_callVi (q0 := 1) (As := [.int _, .int _]) S hK hD hA hP hS (cX4_wayBack_k_1 ho12) hd_yX4_wayBack ml_X4_107 in_yX4_wayBack (hts _ sl_X4_X4_yX4_wayBack) ⟨rfl, rfl⟩ ⟨by decide, by decide⟩ rfl rfl rfl hl.1 rfl (Nat.le_of_ble_eq_true rfl) ⟨Nat.zero_le _, Nat.zero_le _⟩ dX4_wayBetween_19 (fun H locs hP hS => ?_)
    refine va_mmin hx hb (hml.trans hl.1.symm) hown (hts _ ml_X4_110) (hts _ st_yJ9_min_7cf53) (hts _ ini_Math) (hts _ cd_Math_min) (by decide) (Nat.le_of_ble_eq_true rfl) (Nat.zero_le _) (Nat.zero_le _) dX4_wayBetween_22 ?_
    obtain ⟨e1, e2⟩ := Prod.mk.inj (hret _ h)
    exact hR _ _ _ _ _ (congrArg some e1) rfl (by rw [e2]; exact hP) hS dX4_wayBetween_25
def fX9_walk_b54 (n : Nat) (v8 : Int32) (v9 : Int32) (r10 : Nat) (v : Int32 × Int32 × Int32 × bq_S) : Option ((Int32 × Int32 × Int32 × bq_S) ⊕ ((Int32 × Int32 × Int32 × bq_S) ⊕ (Int32 × bq_S))) :=
  un4 v (fun v11 v12 v13 x14 =>
  if (v8 + v9) ≤ v13 then
  some (.inr (.inl (v11, v12, v13, x14)))
  else
  if ok_i v13 16 then
  (fX4_isPlace 1 (x14.2 r10 v13.toNatClampNeg) x14).bind (fun o17 => un2 o17 (fun v19 x18 =>
  if v19 = 0 then
  some (.inr (.inr ((-2 : Int32), x18)))
  else
  if ok_i v13 16 then
  bd (x18.2 r10 v13.toNatClampNeg).toInt32 (fun v22 =>
  (fX4_wayBetween n 1 v12 v22 x18).bind (fun o23 => un2 o23 (fun v25 x24 =>
  bd (v11 + v25) (fun v26 =>
  bd (v13 + (1 : Int32)) (fun v27 =>
  some (.inl (v26, v22, v27, x24)))))))
  else none))
  else none)
def fX9_walk (n : Nat) (p1 : Int32) (p2 : Int32) (p3 : Int32) (p4 : Int32) (x0 : bq_S) : Option (Int32 × bq_S) :=
  if p4 < (1 : Int32) then
  some ((-1 : Int32), x0)
  else
  if p4 ≤ (6 : Int32) then
  (fX9_refusalOf p1 p2 p3 p4 x0).bind (fun o3 => un2 o3 (fun v5 x4 =>
  if v5 = 0 then
  if ok_i p1 4 then
  (wh n (fX9_walk_b54 n p3 p4 ((34 + 2 * p1.toNatClampNeg) + 1)) ((0 : Int32), (-1 : Int32), p3, x4)).bind (fun e28 =>
  Sum.elim (fun z => un4 z (fun v29 v30 v31 x32 =>
  some (v29, x32))) (fun z => some z) e28)
  else none
  else
  some (v5, x4)))
  else
  some ((-1 : Int32), x0)
theorem dX9_walk_0 : decode cX9_walk 0 = .ok (.iload 4, 2) := by decide +kernel
theorem dX9_walk_2 : decode cX9_walk 2 = .ok (.iconst 1, 1) := by decide +kernel
theorem dX9_walk_3 : decode cX9_walk 3 = .ok (.if_icmp .lt 10, 3) := by decide +kernel
theorem dX9_walk_6 : decode cX9_walk 6 = .ok (.iload 4, 2) := by decide +kernel
theorem dX9_walk_8 : decode cX9_walk 8 = .ok (.bipush 6, 2) := by decide +kernel
theorem dX9_walk_10 : decode cX9_walk 10 = .ok (.if_icmp .le 5, 3) := by decide +kernel
theorem dX9_walk_13 : decode cX9_walk 13 = .ok (.iconst (-1), 1) := by decide +kernel
theorem dX9_walk_14 : decode cX9_walk 14 = .ok (.ireturn, 1) := by decide +kernel
theorem dX9_walk_15 : decode cX9_walk 15 = .ok (.aload_n 0, 1) := by decide +kernel
theorem dX9_walk_16 : decode cX9_walk 16 = .ok (.iload_n 1, 1) := by decide +kernel
theorem dX9_walk_17 : decode cX9_walk 17 = .ok (.iload_n 2, 1) := by decide +kernel
theorem dX9_walk_18 : decode cX9_walk 18 = .ok (.iload_n 3, 1) := by decide +kernel
theorem dX9_walk_19 : decode cX9_walk 19 = .ok (.iload 4, 2) := by decide +kernel
theorem dX9_walk_21 : decode cX9_walk 21 = .ok (.invokevirtual 233, 3) := by decide +kernel
theorem dX9_walk_24 : decode cX9_walk 24 = .ok (.istore 5, 2) := by decide +kernel
theorem dX9_walk_26 : decode cX9_walk 26 = .ok (.iload 5, 2) := by decide +kernel
theorem dX9_walk_28 : decode cX9_walk 28 = .ok (.ifCond .eq 6, 3) := by decide +kernel
theorem dX9_walk_31 : decode cX9_walk 31 = .ok (.iload 5, 2) := by decide +kernel
theorem dX9_walk_33 : decode cX9_walk 33 = .ok (.ireturn, 1) := by decide +kernel
theorem dX9_walk_34 : decode cX9_walk 34 = .ok (.aload_n 0, 1) := by decide +kernel
theorem dX9_walk_35 : decode cX9_walk 35 = .ok (.getfield 70, 3) := by decide +kernel
theorem dX9_walk_38 : decode cX9_walk 38 = .ok (.iload_n 1, 1) := by decide +kernel
theorem dX9_walk_39 : decode cX9_walk 39 = .ok (.aaload, 1) := by decide +kernel
theorem dX9_walk_40 : decode cX9_walk 40 = .ok (.getfield 237, 3) := by decide +kernel
theorem dX9_walk_43 : decode cX9_walk 43 = .ok (.astore 6, 2) := by decide +kernel
theorem dX9_walk_45 : decode cX9_walk 45 = .ok (.iconst 0, 1) := by decide +kernel
theorem dX9_walk_46 : decode cX9_walk 46 = .ok (.istore 7, 2) := by decide +kernel
theorem dX9_walk_48 : decode cX9_walk 48 = .ok (.iconst (-1), 1) := by decide +kernel
theorem dX9_walk_49 : decode cX9_walk 49 = .ok (.istore 8, 2) := by decide +kernel
theorem dX9_walk_51 : decode cX9_walk 51 = .ok (.iload_n 3, 1) := by decide +kernel
theorem dX9_walk_52 : decode cX9_walk 52 = .ok (.istore 9, 2) := by decide +kernel
theorem dX9_walk_54 : decode cX9_walk 54 = .ok (.iload 9, 2) := by decide +kernel
theorem dX9_walk_56 : decode cX9_walk 56 = .ok (.iload_n 3, 1) := by decide +kernel
theorem dX9_walk_57 : decode cX9_walk 57 = .ok (.iload 4, 2) := by decide +kernel
theorem dX9_walk_59 : decode cX9_walk 59 = .ok (.iadd, 1) := by decide +kernel
theorem dX9_walk_60 : decode cX9_walk 60 = .ok (.if_icmp .ge 55, 3) := by decide +kernel
theorem dX9_walk_63 : decode cX9_walk 63 = .ok (.aload_n 0, 1) := by decide +kernel
theorem dX9_walk_64 : decode cX9_walk 64 = .ok (.getfield 10, 3) := by decide +kernel
theorem dX9_walk_67 : decode cX9_walk 67 = .ok (.aload 6, 2) := by decide +kernel
theorem dX9_walk_69 : decode cX9_walk 69 = .ok (.iload 9, 2) := by decide +kernel
theorem dX9_walk_71 : decode cX9_walk 71 = .ok (.laload, 1) := by decide +kernel
theorem dX9_walk_72 : decode cX9_walk 72 = .ok (.invokevirtual 153, 3) := by decide +kernel
theorem dX9_walk_75 : decode cX9_walk 75 = .ok (.ifCond .ne 6, 3) := by decide +kernel
theorem dX9_walk_78 : decode cX9_walk 78 = .ok (.bipush (-2), 2) := by decide +kernel
theorem dX9_walk_80 : decode cX9_walk 80 = .ok (.ireturn, 1) := by decide +kernel
theorem dX9_walk_81 : decode cX9_walk 81 = .ok (.aload 6, 2) := by decide +kernel
theorem dX9_walk_83 : decode cX9_walk 83 = .ok (.iload 9, 2) := by decide +kernel
theorem dX9_walk_85 : decode cX9_walk 85 = .ok (.laload, 1) := by decide +kernel
theorem dX9_walk_86 : decode cX9_walk 86 = .ok (.l2i, 1) := by decide +kernel
theorem dX9_walk_87 : decode cX9_walk 87 = .ok (.istore 10, 2) := by decide +kernel
theorem dX9_walk_89 : decode cX9_walk 89 = .ok (.iload 7, 2) := by decide +kernel
theorem dX9_walk_91 : decode cX9_walk 91 = .ok (.aload_n 0, 1) := by decide +kernel
theorem dX9_walk_92 : decode cX9_walk 92 = .ok (.getfield 10, 3) := by decide +kernel
theorem dX9_walk_95 : decode cX9_walk 95 = .ok (.iload 8, 2) := by decide +kernel
theorem dX9_walk_97 : decode cX9_walk 97 = .ok (.iload 10, 2) := by decide +kernel
theorem dX9_walk_99 : decode cX9_walk 99 = .ok (.invokevirtual 241, 3) := by decide +kernel
theorem dX9_walk_102 : decode cX9_walk 102 = .ok (.iadd, 1) := by decide +kernel
theorem dX9_walk_103 : decode cX9_walk 103 = .ok (.istore 7, 2) := by decide +kernel
theorem dX9_walk_105 : decode cX9_walk 105 = .ok (.iload 10, 2) := by decide +kernel
theorem dX9_walk_107 : decode cX9_walk 107 = .ok (.istore 8, 2) := by decide +kernel
theorem dX9_walk_109 : decode cX9_walk 109 = .ok (.iinc 9 1, 3) := by decide +kernel
theorem dX9_walk_112 : decode cX9_walk 112 = .ok (.goto (-58), 3) := by decide +kernel
theorem dX9_walk_115 : decode cX9_walk 115 = .ok (.iload 7, 2) := by decide +kernel
theorem dX9_walk_117 : decode cX9_walk 117 = .ok (.ireturn, 1) := by decide +kernel
set_option maxHeartbeats 4000000 in
set_option maxRecDepth 100000 in
theorem cX9_walk_k_0_s0 {l : Launch} {D : va_G} {a : Nat → Nat} {k : Nat → ClassId} {n : Nat} {p1 : Int32} {p2 : Int32} {p3 : Int32} {p4 : Int32} {x0 xz : bq_S} {rz : Int32} (hkp1 : p1.toNatClampNeg = 0) (h : fX9_walk n p1 p2 p3 p4 x0 = some (rz, xz)) : bq_M l D bq_cl (bq_ty k) (bq_wC a k) yX9_walk cX9_walk 11 (some .int) { frames := 2, cells := 0, slots := 0, locals := 47 } [.ref (a 0), .int p1, .int p2, .int p3, .int p4] x0 (some rz) xz := by
  refine bq_ofW RX9 [(0, .ref (a 0)), (1, .int p1), (2, .int p2), (3, .int p3), (4, .int p4)] (by decide +kernel) rfl (Nat.le_of_ble_eq_true rfl) rfl (bq_adC a k) ?_
  intro p e s m below meth c A Q ls S hK hD hA hR hS hP hl
  have hx := S.1; have hb := S.2.1; have hml := S.2.2.1; have hown := S.2.2.2.1; have hts := S.2.2.2.2
  have hret : ∀ z, some z = some (rz, xz) → (rz, xz) = z := fun z h => (Option.some.inj h).symm
  unfold fX9_walk at h
  refine lv_iload hx hb dX9_walk_0 (lv_at hl 4 rfl) ?_
  refine lv_iconst (v := (1 : Int32)) hx hb dX9_walk_2 (by decide) ?_
  refine lv_icmp_lt (tgt := 13) hx hb dX9_walk_3 (by decide) (fun c1 => ?_) (fun c1 => ?_)
  · replace h := (if_pos c1).symm.trans h
    refine lv_iconst (v := (-1 : Int32)) hx hb dX9_walk_13 (by decide) ?_
    obtain ⟨e1, e2⟩ := Prod.mk.inj (hret _ h)
    exact hR _ _ _ _ _ (congrArg some e1) rfl (by rw [e2]; exact hP) hS dX9_walk_14
  · replace h := (if_neg c1).symm.trans h
    refine lv_iload hx hb dX9_walk_6 (lv_at hl 4 rfl) ?_
    refine lv_bipush (v := (6 : Int32)) hx hb dX9_walk_8 (by decide) ?_
    refine lv_icmp_le (tgt := 15) hx hb dX9_walk_10 (by decide) (fun c2 => ?_) (fun c2 => ?_)
    · replace h := (if_pos c2).symm.trans h
      refine lv_aload_n hx hb dX9_walk_15 rfl (lv_at hl 0 rfl) ?_
      refine lv_iload_n hx hb dX9_walk_16 rfl (lv_at hl 1 rfl) ?_
      refine lv_iload_n hx hb dX9_walk_17 rfl (lv_at hl 2 rfl) ?_
      refine lv_iload_n hx hb dX9_walk_18 rfl (lv_at hl 3 rfl) ?_
      refine lv_iload hx hb dX9_walk_19 (lv_at hl 4 rfl) ?_
      obtain ⟨o3, ho3, h⟩ := Option.bind_eq_some_iff.mp h
      obtain ⟨v5, x4⟩ := o3
      replace h := un2_e h
      refine bq_callVi (q0 := 0) (As := [.int _, .int _, .int _, .int _]) S hK hD hA hP hS (cX9_refusalOf_k_0 ho3) hd_yX9_refusalOf ml_X9_233 in_yX9_refusalOf (hts _ sl_X9_X9_yX9_refusalOf) ⟨rfl, rfl⟩ ⟨by decide, by decide⟩ rfl rfl rfl hl.1 rfl (Nat.le_of_ble_eq_true rfl) ⟨Nat.zero_le _, Nat.zero_le _⟩ dX9_walk_21 (fun H locs hP hS => ?_)
      refine lv_istore (lv' := [(5, .int v5), (0, .ref (a 0)), (1, .int p1), (2, .int p2), (3, .int p3), (4, .int p4)]) hx hb dX9_walk_24 hl (by decide) rfl (fun ls hl => ?_)
      refine lv_iload hx hb dX9_walk_26 (lv_at hl 0 rfl) ?_
      refine lv_if_eq (tgt := 34) hx hb dX9_walk_28 (by decide) (fun c6 => ?_) (fun c6 => ?_)
      · replace h := (if_pos c6).symm.trans h
        refine lv_aload_n hx hb dX9_walk_34 rfl (lv_at hl 1 rfl) ?_
        refine bq_get (q0 := 0) S hK hP fl_X9_70_X9_9 rfl rfl rfl dX9_walk_35 ?_
        refine lv_iload_n hx hb dX9_walk_38 rfl (lv_at hl 2 rfl) ?_
        obtain ⟨g7, h⟩ := bq_gd h
        refine va_aldq (D := D) hx hb hK hP 33 3 rfl rfl g7 dX9_walk_39 ?_
        rw [hkp1]
        try rw [hkp1] at h
        refine W.eq (g2 := F0 m 40 ls [.ref (a 34)]) rfl ?_
        refine bq_get (q0 := 34) S hK hP fl_X9_237_X6_0 rfl rfl rfl dX9_walk_40 ?_
        refine lv_astore (lv' := [(6, .ref (a 35)), (5, .int v5), (0, .ref (a 0)), (1, .int p1), (2, .int p2), (3, .int p3), (4, .int p4)]) hx hb dX9_walk_43 hl (by decide) rfl (fun ls hl => ?_)
        refine lv_iconst (v := (0 : Int32)) hx hb dX9_walk_45 (by decide) ?_
        refine lv_istore (lv' := [(7, .int (0 : Int32)), (6, .ref (a 35)), (5, .int v5), (0, .ref (a 0)), (1, .int p1), (2, .int p2), (3, .int p3), (4, .int p4)]) hx hb dX9_walk_46 hl (by decide) rfl (fun ls hl => ?_)
        refine lv_iconst (v := (-1 : Int32)) hx hb dX9_walk_48 (by decide) ?_
        refine lv_istore (lv' := [(8, .int (-1 : Int32)), (7, .int (0 : Int32)), (6, .ref (a 35)), (5, .int v5), (0, .ref (a 0)), (1, .int p1), (2, .int p2), (3, .int p3), (4, .int p4)]) hx hb dX9_walk_49 hl (by decide) rfl (fun ls hl => ?_)
        refine lv_iload_n hx hb dX9_walk_51 rfl (lv_at hl 7 rfl) ?_
        refine lv_istore (lv' := [(9, .int p3), (8, .int (-1 : Int32)), (7, .int (0 : Int32)), (6, .ref (a 35)), (5, .int v5), (0, .ref (a 0)), (1, .int p1), (2, .int p2), (3, .int p3), (4, .int p4)]) hx hb dX9_walk_52 hl (by decide) rfl (fun ls hl => ?_)
        have hl54 : ∀ (v8 : Int32) (v9 : Int32) (kf : Nat) (v11 : Int32) (v12 : Int32) (v13 : Int32) (x14 : bq_S) (eo : (Int32 × Int32 × Int32 × bq_S) ⊕ (Int32 × bq_S)) (H : Heap) (locs : List Loc) (ls : Array Slot), wh kf (fX9_walk_b54 n v8 v9 35) (v11, v12, v13, x14) = some eo → va_P D bq_cl (bq_wC a k x14) H → va_S A s.heap H locs → lv_has ls 11 [(0, .ref (a 0)), (3, .int v8), (4, .int v9), (6, .ref (a 35)), (7, .int v11), (8, .int v12), (9, .int v13)] → (∀ (H : Heap) (locs : List Loc) (ls : Array Slot) (v29 : Int32) (v30 : Int32) (v31 : Int32) (x32 : bq_S), eo = .inl (v29, v30, v31, x32) → va_P D bq_cl (bq_wC a k x32) H → va_S A s.heap H locs → lv_has ls 11 [(7, .int v29)] → W p l e { frames := 2, cells := 0, slots := 0, locals := 47 } s m [.ref (a 0), .int p1, .int p2, .int p3, .int p4].toArray below meth c H locs 0 0 Q (F0 m 115 ls [])) → (∀ z, eo = .inr z → (rz, xz) = z) → W p l e { frames := 2, cells := 0, slots := 0, locals := 47 } s m [.ref (a 0), .int p1, .int p2, .int p3, .int p4].toArray below meth c H locs 0 0 Q (F0 m 54 ls []) := by
          intro v8 v9 kf
          induction kf with
          | zero => intro v11 v12 v13 x14 eo H locs ls h; cases h
          | succ kf ih =>
            intro v11 v12 v13 x14 eo H locs ls h hP hS hl kx kr
            obtain ⟨out, h, hw⟩ := wh_s h
            have hret : ∀ z, (some (.inr (.inr z)) : Option ((Int32 × Int32 × Int32 × bq_S) ⊕ ((Int32 × Int32 × Int32 × bq_S) ⊕ (Int32 × bq_S)))) = some out → (rz, xz) = z := fun z h => kr z (by cases h; exact (Option.some.inj hw).symm)
            unfold fX9_walk_b54 at h
            replace h := un4_e h
            refine lv_iload hx hb dX9_walk_54 (lv_at hl 6 rfl) ?_
            refine lv_iload_n hx hb dX9_walk_56 rfl (lv_at hl 1 rfl) ?_
            refine lv_iload hx hb dX9_walk_57 (lv_at hl 2 rfl) ?_
            refine lv_iadd hx hb dX9_walk_59 ?_
            refine lv_icmp_ge (tgt := 115) hx hb dX9_walk_60 (by decide) (fun c15 => ?_) (fun c15 => ?_)
            · replace h := (if_pos c15).symm.trans h
              cases h
              exact kx _ _ _ _ _ _ _ (Option.some.inj hw).symm hP hS (lv_sub hl [4] rfl)
            · replace h := (if_neg c15).symm.trans h
              refine lv_aload_n hx hb dX9_walk_63 rfl (lv_at hl 0 rfl) ?_
              refine bq_get (q0 := 0) S hK hP fl_X9_10_X9_0 rfl rfl rfl dX9_walk_64 ?_
              refine lv_aload hx hb dX9_walk_67 (lv_at hl 3 rfl) ?_
              refine lv_iload hx hb dX9_walk_69 (lv_at hl 6 rfl) ?_
              obtain ⟨g16, h⟩ := bq_gd h
              refine va_lald (D := D) hx hb hK hP 35 1 rfl rfl g16 dX9_walk_71 ?_
              obtain ⟨o17, ho17, h⟩ := Option.bind_eq_some_iff.mp h
              obtain ⟨v19, x18⟩ := o17
              replace h := un2_e h
              refine bq_callVi (q0 := 1) (As := [.long _]) S hK hD hA hP hS (cX4_isPlace_k_1 ho17) hd_yX4_isPlace ml_X9_153 in_yX4_isPlace (hts _ sl_X4_X4_yX4_isPlace) ⟨rfl, rfl⟩ ⟨by decide, by decide⟩ rfl rfl rfl hl.1 rfl (Nat.le_of_ble_eq_true rfl) ⟨Nat.zero_le _, Nat.zero_le _⟩ dX9_walk_72 (fun H locs hP hS => ?_)
              refine lv_if_ne (tgt := 81) hx hb dX9_walk_75 (by decide) (fun c20 => ?_) (fun c20 => ?_)
              · replace h := (if_neg c20).symm.trans h
                refine lv_aload hx hb dX9_walk_81 (lv_at hl 3 rfl) ?_
                refine lv_iload hx hb dX9_walk_83 (lv_at hl 6 rfl) ?_
                obtain ⟨g21, h⟩ := bq_gd h
                refine va_lald (D := D) hx hb hK hP 35 1 rfl rfl g21 dX9_walk_85 ?_
                refine lv_l2i hx hb dX9_walk_86 rfl ?_
                refine lv_topi (fun v22 hv22 => ?_)
                replace h := bq_bv h hv22
                refine lv_istore (lv' := [(10, .int v22), (0, .ref (a 0)), (3, .int v8), (4, .int v9), (6, .ref (a 35)), (7, .int v11), (8, .int v12), (9, .int v13)]) hx hb dX9_walk_87 hl (by decide) rfl (fun ls hl => ?_)
                refine lv_iload hx hb dX9_walk_89 (lv_at hl 5 rfl) ?_
                refine lv_aload_n hx hb dX9_walk_91 rfl (lv_at hl 1 rfl) ?_
                refine bq_get (q0 := 0) S hK hP fl_X9_10_X9_0 rfl rfl rfl dX9_walk_92 ?_
                refine lv_iload hx hb dX9_walk_95 (lv_at hl 6 rfl) ?_
                refine lv_iload hx hb dX9_walk_97 (lv_at hl 0 rfl) ?_
                obtain ⟨o23, ho23, h⟩ := Option.bind_eq_some_iff.mp h
                obtain ⟨v25, x24⟩ := o23
                replace h := un2_e h
                refine bq_callVi (q0 := 1) (As := [.int _, .int _]) S hK hD hA hP hS (cX4_wayBetween_k_1 ho23) hd_yX4_wayBetween ml_X9_241 in_yX4_wayBetween (hts _ sl_X4_X4_yX4_wayBetween) ⟨rfl, rfl⟩ ⟨by decide, by decide⟩ rfl rfl rfl hl.1 rfl (Nat.le_of_ble_eq_true rfl) ⟨Nat.zero_le _, Nat.zero_le _⟩ dX9_walk_99 (fun H locs hP hS => ?_)
                refine lv_iadd hx hb dX9_walk_102 ?_
                refine lv_topi (fun v26 hv26 => ?_)
                replace h := bq_bv h hv26
                refine lv_istore (lv' := [(7, .int v26), (10, .int v22), (0, .ref (a 0)), (3, .int v8), (4, .int v9), (6, .ref (a 35)), (8, .int v12), (9, .int v13)]) hx hb dX9_walk_103 hl (by decide) rfl (fun ls hl => ?_)
                refine lv_iload hx hb dX9_walk_105 (lv_at hl 1 rfl) ?_
                refine lv_istore (lv' := [(8, .int v22), (7, .int v26), (10, .int v22), (0, .ref (a 0)), (3, .int v8), (4, .int v9), (6, .ref (a 35)), (9, .int v13)]) hx hb dX9_walk_107 hl (by decide) rfl (fun ls hl => ?_)
                obtain ⟨v27, hv27, h⟩ := bq_b h
                refine lv_iinc (v := v27) (lv' := [(9, .int v27), (8, .int v22), (7, .int v26), (10, .int v22), (0, .ref (a 0)), (3, .int v8), (4, .int v9), (6, .ref (a 35))]) hx hb dX9_walk_109 hl (k := 7) rfl (by rw [hv27]; rfl) (by decide) rfl (fun ls hl => ?_)
                refine lv_goto (tgt := 54) hx hb dX9_walk_112 (by decide) ?_
                cases h
                exact ih _ _ _ _ _ _ _ _ hw hP hS (lv_sub hl [4, 5, 6, 7, 2, 1, 0] rfl) kx kr
              · replace h := (if_pos c20).symm.trans h
                refine lv_bipush (v := (-2 : Int32)) hx hb dX9_walk_78 (by decide) ?_
                obtain ⟨e1, e2⟩ := Prod.mk.inj (hret _ h)
                exact hR _ _ _ _ _ (congrArg some e1) rfl (by rw [e2]; exact hP) hS dX9_walk_80
        obtain ⟨e28, he28, h⟩ := Option.bind_eq_some_iff.mp h
        refine hl54 _ _ n _ _ _ _ e28 _ _ _ he28 hP hS (lv_sub hl [5, 8, 9, 3, 2, 1, 0] rfl) (fun H locs ls v29 v30 v31 x32 hz hP hS hl => ?_) (fun z hz => hret z (bq_ir h hz :))
        replace h := bq_il h hz
        replace h := un4_e h
        refine lv_iload hx hb dX9_walk_115 (lv_at hl 0 rfl) ?_
        obtain ⟨e1, e2⟩ := Prod.mk.inj (hret _ h)
        exact hR _ _ _ _ _ (congrArg some e1) rfl (by rw [e2]; exact hP) hS dX9_walk_117
      · replace h := (if_neg c6).symm.trans h
        refine lv_iload hx hb dX9_walk_31 (lv_at hl 0 rfl) ?_
        obtain ⟨e1, e2⟩ := Prod.mk.inj (hret _ h)
        exact hR _ _ _ _ _ (congrArg some e1) rfl (by rw [e2]; exact hP) hS dX9_walk_33
    · replace h := (if_neg c2).symm.trans h
      refine lv_iconst (v := (-1 : Int32)) hx hb dX9_walk_13 (by decide) ?_
      obtain ⟨e1, e2⟩ := Prod.mk.inj (hret _ h)
      exact hR _ _ _ _ _ (congrArg some e1) rfl (by rw [e2]; exact hP) hS dX9_walk_14
set_option maxHeartbeats 4000000 in
set_option maxRecDepth 100000 in
theorem cX9_walk_k_0_s1 {l : Launch} {D : va_G} {a : Nat → Nat} {k : Nat → ClassId} {n : Nat} {p1 : Int32} {p2 : Int32} {p3 : Int32} {p4 : Int32} {x0 xz : bq_S} {rz : Int32} (hkp1 : p1.toNatClampNeg = 1) (h : fX9_walk n p1 p2 p3 p4 x0 = some (rz, xz)) : bq_M l D bq_cl (bq_ty k) (bq_wC a k) yX9_walk cX9_walk 11 (some .int) { frames := 2, cells := 0, slots := 0, locals := 47 } [.ref (a 0), .int p1, .int p2, .int p3, .int p4] x0 (some rz) xz := by
  refine bq_ofW RX9 [(0, .ref (a 0)), (1, .int p1), (2, .int p2), (3, .int p3), (4, .int p4)] (by decide +kernel) rfl (Nat.le_of_ble_eq_true rfl) rfl (bq_adC a k) ?_
  intro p e s m below meth c A Q ls S hK hD hA hR hS hP hl
  have hx := S.1; have hb := S.2.1; have hml := S.2.2.1; have hown := S.2.2.2.1; have hts := S.2.2.2.2
  have hret : ∀ z, some z = some (rz, xz) → (rz, xz) = z := fun z h => (Option.some.inj h).symm
  unfold fX9_walk at h
  refine lv_iload hx hb dX9_walk_0 (lv_at hl 4 rfl) ?_
  refine lv_iconst (v := (1 : Int32)) hx hb dX9_walk_2 (by decide) ?_
  refine lv_icmp_lt (tgt := 13) hx hb dX9_walk_3 (by decide) (fun c1 => ?_) (fun c1 => ?_)
  · replace h := (if_pos c1).symm.trans h
    refine lv_iconst (v := (-1 : Int32)) hx hb dX9_walk_13 (by decide) ?_
    obtain ⟨e1, e2⟩ := Prod.mk.inj (hret _ h)
    exact hR _ _ _ _ _ (congrArg some e1) rfl (by rw [e2]; exact hP) hS dX9_walk_14
  · replace h := (if_neg c1).symm.trans h
    refine lv_iload hx hb dX9_walk_6 (lv_at hl 4 rfl) ?_
    refine lv_bipush (v := (6 : Int32)) hx hb dX9_walk_8 (by decide) ?_
    refine lv_icmp_le (tgt := 15) hx hb dX9_walk_10 (by decide) (fun c2 => ?_) (fun c2 => ?_)
    · replace h := (if_pos c2).symm.trans h
      refine lv_aload_n hx hb dX9_walk_15 rfl (lv_at hl 0 rfl) ?_
      refine lv_iload_n hx hb dX9_walk_16 rfl (lv_at hl 1 rfl) ?_
      refine lv_iload_n hx hb dX9_walk_17 rfl (lv_at hl 2 rfl) ?_
      refine lv_iload_n hx hb dX9_walk_18 rfl (lv_at hl 3 rfl) ?_
      refine lv_iload hx hb dX9_walk_19 (lv_at hl 4 rfl) ?_
      obtain ⟨o3, ho3, h⟩ := Option.bind_eq_some_iff.mp h
      obtain ⟨v5, x4⟩ := o3
      replace h := un2_e h
      refine bq_callVi (q0 := 0) (As := [.int _, .int _, .int _, .int _]) S hK hD hA hP hS (cX9_refusalOf_k_0 ho3) hd_yX9_refusalOf ml_X9_233 in_yX9_refusalOf (hts _ sl_X9_X9_yX9_refusalOf) ⟨rfl, rfl⟩ ⟨by decide, by decide⟩ rfl rfl rfl hl.1 rfl (Nat.le_of_ble_eq_true rfl) ⟨Nat.zero_le _, Nat.zero_le _⟩ dX9_walk_21 (fun H locs hP hS => ?_)
      refine lv_istore (lv' := [(5, .int v5), (0, .ref (a 0)), (1, .int p1), (2, .int p2), (3, .int p3), (4, .int p4)]) hx hb dX9_walk_24 hl (by decide) rfl (fun ls hl => ?_)
      refine lv_iload hx hb dX9_walk_26 (lv_at hl 0 rfl) ?_
      refine lv_if_eq (tgt := 34) hx hb dX9_walk_28 (by decide) (fun c6 => ?_) (fun c6 => ?_)
      · replace h := (if_pos c6).symm.trans h
        refine lv_aload_n hx hb dX9_walk_34 rfl (lv_at hl 1 rfl) ?_
        refine bq_get (q0 := 0) S hK hP fl_X9_70_X9_9 rfl rfl rfl dX9_walk_35 ?_
        refine lv_iload_n hx hb dX9_walk_38 rfl (lv_at hl 2 rfl) ?_
        obtain ⟨g7, h⟩ := bq_gd h
        refine va_aldq (D := D) hx hb hK hP 33 3 rfl rfl g7 dX9_walk_39 ?_
        rw [hkp1]
        try rw [hkp1] at h
        refine W.eq (g2 := F0 m 40 ls [.ref (a 36)]) rfl ?_
        refine bq_get (q0 := 36) S hK hP fl_X9_237_X6_0 rfl rfl rfl dX9_walk_40 ?_
        refine lv_astore (lv' := [(6, .ref (a 37)), (5, .int v5), (0, .ref (a 0)), (1, .int p1), (2, .int p2), (3, .int p3), (4, .int p4)]) hx hb dX9_walk_43 hl (by decide) rfl (fun ls hl => ?_)
        refine lv_iconst (v := (0 : Int32)) hx hb dX9_walk_45 (by decide) ?_
        refine lv_istore (lv' := [(7, .int (0 : Int32)), (6, .ref (a 37)), (5, .int v5), (0, .ref (a 0)), (1, .int p1), (2, .int p2), (3, .int p3), (4, .int p4)]) hx hb dX9_walk_46 hl (by decide) rfl (fun ls hl => ?_)
        refine lv_iconst (v := (-1 : Int32)) hx hb dX9_walk_48 (by decide) ?_
        refine lv_istore (lv' := [(8, .int (-1 : Int32)), (7, .int (0 : Int32)), (6, .ref (a 37)), (5, .int v5), (0, .ref (a 0)), (1, .int p1), (2, .int p2), (3, .int p3), (4, .int p4)]) hx hb dX9_walk_49 hl (by decide) rfl (fun ls hl => ?_)
        refine lv_iload_n hx hb dX9_walk_51 rfl (lv_at hl 7 rfl) ?_
        refine lv_istore (lv' := [(9, .int p3), (8, .int (-1 : Int32)), (7, .int (0 : Int32)), (6, .ref (a 37)), (5, .int v5), (0, .ref (a 0)), (1, .int p1), (2, .int p2), (3, .int p3), (4, .int p4)]) hx hb dX9_walk_52 hl (by decide) rfl (fun ls hl => ?_)
        have hl54 : ∀ (v8 : Int32) (v9 : Int32) (kf : Nat) (v11 : Int32) (v12 : Int32) (v13 : Int32) (x14 : bq_S) (eo : (Int32 × Int32 × Int32 × bq_S) ⊕ (Int32 × bq_S)) (H : Heap) (locs : List Loc) (ls : Array Slot), wh kf (fX9_walk_b54 n v8 v9 37) (v11, v12, v13, x14) = some eo → va_P D bq_cl (bq_wC a k x14) H → va_S A s.heap H locs → lv_has ls 11 [(0, .ref (a 0)), (3, .int v8), (4, .int v9), (6, .ref (a 37)), (7, .int v11), (8, .int v12), (9, .int v13)] → (∀ (H : Heap) (locs : List Loc) (ls : Array Slot) (v29 : Int32) (v30 : Int32) (v31 : Int32) (x32 : bq_S), eo = .inl (v29, v30, v31, x32) → va_P D bq_cl (bq_wC a k x32) H → va_S A s.heap H locs → lv_has ls 11 [(7, .int v29)] → W p l e { frames := 2, cells := 0, slots := 0, locals := 47 } s m [.ref (a 0), .int p1, .int p2, .int p3, .int p4].toArray below meth c H locs 0 0 Q (F0 m 115 ls [])) → (∀ z, eo = .inr z → (rz, xz) = z) → W p l e { frames := 2, cells := 0, slots := 0, locals := 47 } s m [.ref (a 0), .int p1, .int p2, .int p3, .int p4].toArray below meth c H locs 0 0 Q (F0 m 54 ls []) := by
          intro v8 v9 kf
          induction kf with
          | zero => intro v11 v12 v13 x14 eo H locs ls h; cases h
          | succ kf ih =>
            intro v11 v12 v13 x14 eo H locs ls h hP hS hl kx kr
            obtain ⟨out, h, hw⟩ := wh_s h
            have hret : ∀ z, (some (.inr (.inr z)) : Option ((Int32 × Int32 × Int32 × bq_S) ⊕ ((Int32 × Int32 × Int32 × bq_S) ⊕ (Int32 × bq_S)))) = some out → (rz, xz) = z := fun z h => kr z (by cases h; exact (Option.some.inj hw).symm)
            unfold fX9_walk_b54 at h
            replace h := un4_e h
            refine lv_iload hx hb dX9_walk_54 (lv_at hl 6 rfl) ?_
            refine lv_iload_n hx hb dX9_walk_56 rfl (lv_at hl 1 rfl) ?_
            refine lv_iload hx hb dX9_walk_57 (lv_at hl 2 rfl) ?_
            refine lv_iadd hx hb dX9_walk_59 ?_
            refine lv_icmp_ge (tgt := 115) hx hb dX9_walk_60 (by decide) (fun c15 => ?_) (fun c15 => ?_)
            · replace h := (if_pos c15).symm.trans h
              cases h
              exact kx _ _ _ _ _ _ _ (Option.some.inj hw).symm hP hS (lv_sub hl [4] rfl)
            · replace h := (if_neg c15).symm.trans h
              refine lv_aload_n hx hb dX9_walk_63 rfl (lv_at hl 0 rfl) ?_
              refine bq_get (q0 := 0) S hK hP fl_X9_10_X9_0 rfl rfl rfl dX9_walk_64 ?_
              refine lv_aload hx hb dX9_walk_67 (lv_at hl 3 rfl) ?_
              refine lv_iload hx hb dX9_walk_69 (lv_at hl 6 rfl) ?_
              obtain ⟨g16, h⟩ := bq_gd h
              refine va_lald (D := D) hx hb hK hP 37 1 rfl rfl g16 dX9_walk_71 ?_
              obtain ⟨o17, ho17, h⟩ := Option.bind_eq_some_iff.mp h
              obtain ⟨v19, x18⟩ := o17
              replace h := un2_e h
              refine bq_callVi (q0 := 1) (As := [.long _]) S hK hD hA hP hS (cX4_isPlace_k_1 ho17) hd_yX4_isPlace ml_X9_153 in_yX4_isPlace (hts _ sl_X4_X4_yX4_isPlace) ⟨rfl, rfl⟩ ⟨by decide, by decide⟩ rfl rfl rfl hl.1 rfl (Nat.le_of_ble_eq_true rfl) ⟨Nat.zero_le _, Nat.zero_le _⟩ dX9_walk_72 (fun H locs hP hS => ?_)
              refine lv_if_ne (tgt := 81) hx hb dX9_walk_75 (by decide) (fun c20 => ?_) (fun c20 => ?_)
              · replace h := (if_neg c20).symm.trans h
                refine lv_aload hx hb dX9_walk_81 (lv_at hl 3 rfl) ?_
                refine lv_iload hx hb dX9_walk_83 (lv_at hl 6 rfl) ?_
                obtain ⟨g21, h⟩ := bq_gd h
                refine va_lald (D := D) hx hb hK hP 37 1 rfl rfl g21 dX9_walk_85 ?_
                refine lv_l2i hx hb dX9_walk_86 rfl ?_
                refine lv_topi (fun v22 hv22 => ?_)
                replace h := bq_bv h hv22
                refine lv_istore (lv' := [(10, .int v22), (0, .ref (a 0)), (3, .int v8), (4, .int v9), (6, .ref (a 37)), (7, .int v11), (8, .int v12), (9, .int v13)]) hx hb dX9_walk_87 hl (by decide) rfl (fun ls hl => ?_)
                refine lv_iload hx hb dX9_walk_89 (lv_at hl 5 rfl) ?_
                refine lv_aload_n hx hb dX9_walk_91 rfl (lv_at hl 1 rfl) ?_
                refine bq_get (q0 := 0) S hK hP fl_X9_10_X9_0 rfl rfl rfl dX9_walk_92 ?_
                refine lv_iload hx hb dX9_walk_95 (lv_at hl 6 rfl) ?_
                refine lv_iload hx hb dX9_walk_97 (lv_at hl 0 rfl) ?_
                obtain ⟨o23, ho23, h⟩ := Option.bind_eq_some_iff.mp h
                obtain ⟨v25, x24⟩ := o23
                replace h := un2_e h
                refine bq_callVi (q0 := 1) (As := [.int _, .int _]) S hK hD hA hP hS (cX4_wayBetween_k_1 ho23) hd_yX4_wayBetween ml_X9_241 in_yX4_wayBetween (hts _ sl_X4_X4_yX4_wayBetween) ⟨rfl, rfl⟩ ⟨by decide, by decide⟩ rfl rfl rfl hl.1 rfl (Nat.le_of_ble_eq_true rfl) ⟨Nat.zero_le _, Nat.zero_le _⟩ dX9_walk_99 (fun H locs hP hS => ?_)
                refine lv_iadd hx hb dX9_walk_102 ?_
                refine lv_topi (fun v26 hv26 => ?_)
                replace h := bq_bv h hv26
                refine lv_istore (lv' := [(7, .int v26), (10, .int v22), (0, .ref (a 0)), (3, .int v8), (4, .int v9), (6, .ref (a 37)), (8, .int v12), (9, .int v13)]) hx hb dX9_walk_103 hl (by decide) rfl (fun ls hl => ?_)
                refine lv_iload hx hb dX9_walk_105 (lv_at hl 1 rfl) ?_
                refine lv_istore (lv' := [(8, .int v22), (7, .int v26), (10, .int v22), (0, .ref (a 0)), (3, .int v8), (4, .int v9), (6, .ref (a 37)), (9, .int v13)]) hx hb dX9_walk_107 hl (by decide) rfl (fun ls hl => ?_)
                obtain ⟨v27, hv27, h⟩ := bq_b h
                refine lv_iinc (v := v27) (lv' := [(9, .int v27), (8, .int v22), (7, .int v26), (10, .int v22), (0, .ref (a 0)), (3, .int v8), (4, .int v9), (6, .ref (a 37))]) hx hb dX9_walk_109 hl (k := 7) rfl (by rw [hv27]; rfl) (by decide) rfl (fun ls hl => ?_)
                refine lv_goto (tgt := 54) hx hb dX9_walk_112 (by decide) ?_
                cases h
                exact ih _ _ _ _ _ _ _ _ hw hP hS (lv_sub hl [4, 5, 6, 7, 2, 1, 0] rfl) kx kr
              · replace h := (if_pos c20).symm.trans h
                refine lv_bipush (v := (-2 : Int32)) hx hb dX9_walk_78 (by decide) ?_
                obtain ⟨e1, e2⟩ := Prod.mk.inj (hret _ h)
                exact hR _ _ _ _ _ (congrArg some e1) rfl (by rw [e2]; exact hP) hS dX9_walk_80
        obtain ⟨e28, he28, h⟩ := Option.bind_eq_some_iff.mp h
        refine hl54 _ _ n _ _ _ _ e28 _ _ _ he28 hP hS (lv_sub hl [5, 8, 9, 3, 2, 1, 0] rfl) (fun H locs ls v29 v30 v31 x32 hz hP hS hl => ?_) (fun z hz => hret z (bq_ir h hz :))
        replace h := bq_il h hz
        replace h := un4_e h
        refine lv_iload hx hb dX9_walk_115 (lv_at hl 0 rfl) ?_
        obtain ⟨e1, e2⟩ := Prod.mk.inj (hret _ h)
        exact hR _ _ _ _ _ (congrArg some e1) rfl (by rw [e2]; exact hP) hS dX9_walk_117
      · replace h := (if_neg c6).symm.trans h
        refine lv_iload hx hb dX9_walk_31 (lv_at hl 0 rfl) ?_
        obtain ⟨e1, e2⟩ := Prod.mk.inj (hret _ h)
        exact hR _ _ _ _ _ (congrArg some e1) rfl (by rw [e2]; exact hP) hS dX9_walk_33
    · replace h := (if_neg c2).symm.trans h
      refine lv_iconst (v := (-1 : Int32)) hx hb dX9_walk_13 (by decide) ?_
      obtain ⟨e1, e2⟩ := Prod.mk.inj (hret _ h)
      exact hR _ _ _ _ _ (congrArg some e1) rfl (by rw [e2]; exact hP) hS dX9_walk_14
set_option maxHeartbeats 4000000 in
set_option maxRecDepth 100000 in
theorem cX9_walk_k_0_s2 {l : Launch} {D : va_G} {a : Nat → Nat} {k : Nat → ClassId} {n : Nat} {p1 : Int32} {p2 : Int32} {p3 : Int32} {p4 : Int32} {x0 xz : bq_S} {rz : Int32} (hkp1 : p1.toNatClampNeg = 2) (h : fX9_walk n p1 p2 p3 p4 x0 = some (rz, xz)) : bq_M l D bq_cl (bq_ty k) (bq_wC a k) yX9_walk cX9_walk 11 (some .int) { frames := 2, cells := 0, slots := 0, locals := 47 } [.ref (a 0), .int p1, .int p2, .int p3, .int p4] x0 (some rz) xz := by
  refine bq_ofW RX9 [(0, .ref (a 0)), (1, .int p1), (2, .int p2), (3, .int p3), (4, .int p4)] (by decide +kernel) rfl (Nat.le_of_ble_eq_true rfl) rfl (bq_adC a k) ?_
  intro p e s m below meth c A Q ls S hK hD hA hR hS hP hl
  have hx := S.1; have hb := S.2.1; have hml := S.2.2.1; have hown := S.2.2.2.1; have hts := S.2.2.2.2
  have hret : ∀ z, some z = some (rz, xz) → (rz, xz) = z := fun z h => (Option.some.inj h).symm
  unfold fX9_walk at h
  refine lv_iload hx hb dX9_walk_0 (lv_at hl 4 rfl) ?_
  refine lv_iconst (v := (1 : Int32)) hx hb dX9_walk_2 (by decide) ?_
  refine lv_icmp_lt (tgt := 13) hx hb dX9_walk_3 (by decide) (fun c1 => ?_) (fun c1 => ?_)
  · replace h := (if_pos c1).symm.trans h
    refine lv_iconst (v := (-1 : Int32)) hx hb dX9_walk_13 (by decide) ?_
    obtain ⟨e1, e2⟩ := Prod.mk.inj (hret _ h)
    exact hR _ _ _ _ _ (congrArg some e1) rfl (by rw [e2]; exact hP) hS dX9_walk_14
  · replace h := (if_neg c1).symm.trans h
    refine lv_iload hx hb dX9_walk_6 (lv_at hl 4 rfl) ?_
    refine lv_bipush (v := (6 : Int32)) hx hb dX9_walk_8 (by decide) ?_
    refine lv_icmp_le (tgt := 15) hx hb dX9_walk_10 (by decide) (fun c2 => ?_) (fun c2 => ?_)
    · replace h := (if_pos c2).symm.trans h
      refine lv_aload_n hx hb dX9_walk_15 rfl (lv_at hl 0 rfl) ?_
      refine lv_iload_n hx hb dX9_walk_16 rfl (lv_at hl 1 rfl) ?_
      refine lv_iload_n hx hb dX9_walk_17 rfl (lv_at hl 2 rfl) ?_
      refine lv_iload_n hx hb dX9_walk_18 rfl (lv_at hl 3 rfl) ?_
      refine lv_iload hx hb dX9_walk_19 (lv_at hl 4 rfl) ?_
      obtain ⟨o3, ho3, h⟩ := Option.bind_eq_some_iff.mp h
      obtain ⟨v5, x4⟩ := o3
      replace h := un2_e h
      refine bq_callVi (q0 := 0) (As := [.int _, .int _, .int _, .int _]) S hK hD hA hP hS (cX9_refusalOf_k_0 ho3) hd_yX9_refusalOf ml_X9_233 in_yX9_refusalOf (hts _ sl_X9_X9_yX9_refusalOf) ⟨rfl, rfl⟩ ⟨by decide, by decide⟩ rfl rfl rfl hl.1 rfl (Nat.le_of_ble_eq_true rfl) ⟨Nat.zero_le _, Nat.zero_le _⟩ dX9_walk_21 (fun H locs hP hS => ?_)
      refine lv_istore (lv' := [(5, .int v5), (0, .ref (a 0)), (1, .int p1), (2, .int p2), (3, .int p3), (4, .int p4)]) hx hb dX9_walk_24 hl (by decide) rfl (fun ls hl => ?_)
      refine lv_iload hx hb dX9_walk_26 (lv_at hl 0 rfl) ?_
      refine lv_if_eq (tgt := 34) hx hb dX9_walk_28 (by decide) (fun c6 => ?_) (fun c6 => ?_)
      · replace h := (if_pos c6).symm.trans h
        refine lv_aload_n hx hb dX9_walk_34 rfl (lv_at hl 1 rfl) ?_
        refine bq_get (q0 := 0) S hK hP fl_X9_70_X9_9 rfl rfl rfl dX9_walk_35 ?_
        refine lv_iload_n hx hb dX9_walk_38 rfl (lv_at hl 2 rfl) ?_
        obtain ⟨g7, h⟩ := bq_gd h
        refine va_aldq (D := D) hx hb hK hP 33 3 rfl rfl g7 dX9_walk_39 ?_
        rw [hkp1]
        try rw [hkp1] at h
        refine W.eq (g2 := F0 m 40 ls [.ref (a 38)]) rfl ?_
        refine bq_get (q0 := 38) S hK hP fl_X9_237_X6_0 rfl rfl rfl dX9_walk_40 ?_
        refine lv_astore (lv' := [(6, .ref (a 39)), (5, .int v5), (0, .ref (a 0)), (1, .int p1), (2, .int p2), (3, .int p3), (4, .int p4)]) hx hb dX9_walk_43 hl (by decide) rfl (fun ls hl => ?_)
        refine lv_iconst (v := (0 : Int32)) hx hb dX9_walk_45 (by decide) ?_
        refine lv_istore (lv' := [(7, .int (0 : Int32)), (6, .ref (a 39)), (5, .int v5), (0, .ref (a 0)), (1, .int p1), (2, .int p2), (3, .int p3), (4, .int p4)]) hx hb dX9_walk_46 hl (by decide) rfl (fun ls hl => ?_)
        refine lv_iconst (v := (-1 : Int32)) hx hb dX9_walk_48 (by decide) ?_
        refine lv_istore (lv' := [(8, .int (-1 : Int32)), (7, .int (0 : Int32)), (6, .ref (a 39)), (5, .int v5), (0, .ref (a 0)), (1, .int p1), (2, .int p2), (3, .int p3), (4, .int p4)]) hx hb dX9_walk_49 hl (by decide) rfl (fun ls hl => ?_)
        refine lv_iload_n hx hb dX9_walk_51 rfl (lv_at hl 7 rfl) ?_
        refine lv_istore (lv' := [(9, .int p3), (8, .int (-1 : Int32)), (7, .int (0 : Int32)), (6, .ref (a 39)), (5, .int v5), (0, .ref (a 0)), (1, .int p1), (2, .int p2), (3, .int p3), (4, .int p4)]) hx hb dX9_walk_52 hl (by decide) rfl (fun ls hl => ?_)
        have hl54 : ∀ (v8 : Int32) (v9 : Int32) (kf : Nat) (v11 : Int32) (v12 : Int32) (v13 : Int32) (x14 : bq_S) (eo : (Int32 × Int32 × Int32 × bq_S) ⊕ (Int32 × bq_S)) (H : Heap) (locs : List Loc) (ls : Array Slot), wh kf (fX9_walk_b54 n v8 v9 39) (v11, v12, v13, x14) = some eo → va_P D bq_cl (bq_wC a k x14) H → va_S A s.heap H locs → lv_has ls 11 [(0, .ref (a 0)), (3, .int v8), (4, .int v9), (6, .ref (a 39)), (7, .int v11), (8, .int v12), (9, .int v13)] → (∀ (H : Heap) (locs : List Loc) (ls : Array Slot) (v29 : Int32) (v30 : Int32) (v31 : Int32) (x32 : bq_S), eo = .inl (v29, v30, v31, x32) → va_P D bq_cl (bq_wC a k x32) H → va_S A s.heap H locs → lv_has ls 11 [(7, .int v29)] → W p l e { frames := 2, cells := 0, slots := 0, locals := 47 } s m [.ref (a 0), .int p1, .int p2, .int p3, .int p4].toArray below meth c H locs 0 0 Q (F0 m 115 ls [])) → (∀ z, eo = .inr z → (rz, xz) = z) → W p l e { frames := 2, cells := 0, slots := 0, locals := 47 } s m [.ref (a 0), .int p1, .int p2, .int p3, .int p4].toArray below meth c H locs 0 0 Q (F0 m 54 ls []) := by
          intro v8 v9 kf
          induction kf with
          | zero => intro v11 v12 v13 x14 eo H locs ls h; cases h
          | succ kf ih =>
            intro v11 v12 v13 x14 eo H locs ls h hP hS hl kx kr
            obtain ⟨out, h, hw⟩ := wh_s h
            have hret : ∀ z, (some (.inr (.inr z)) : Option ((Int32 × Int32 × Int32 × bq_S) ⊕ ((Int32 × Int32 × Int32 × bq_S) ⊕ (Int32 × bq_S)))) = some out → (rz, xz) = z := fun z h => kr z (by cases h; exact (Option.some.inj hw).symm)
            unfold fX9_walk_b54 at h
            replace h := un4_e h
            refine lv_iload hx hb dX9_walk_54 (lv_at hl 6 rfl) ?_
            refine lv_iload_n hx hb dX9_walk_56 rfl (lv_at hl 1 rfl) ?_
            refine lv_iload hx hb dX9_walk_57 (lv_at hl 2 rfl) ?_
            refine lv_iadd hx hb dX9_walk_59 ?_
            refine lv_icmp_ge (tgt := 115) hx hb dX9_walk_60 (by decide) (fun c15 => ?_) (fun c15 => ?_)
            · replace h := (if_pos c15).symm.trans h
              cases h
              exact kx _ _ _ _ _ _ _ (Option.some.inj hw).symm hP hS (lv_sub hl [4] rfl)
            · replace h := (if_neg c15).symm.trans h
              refine lv_aload_n hx hb dX9_walk_63 rfl (lv_at hl 0 rfl) ?_
              refine bq_get (q0 := 0) S hK hP fl_X9_10_X9_0 rfl rfl rfl dX9_walk_64 ?_
              refine lv_aload hx hb dX9_walk_67 (lv_at hl 3 rfl) ?_
              refine lv_iload hx hb dX9_walk_69 (lv_at hl 6 rfl) ?_
              obtain ⟨g16, h⟩ := bq_gd h
              refine va_lald (D := D) hx hb hK hP 39 1 rfl rfl g16 dX9_walk_71 ?_
              obtain ⟨o17, ho17, h⟩ := Option.bind_eq_some_iff.mp h
              obtain ⟨v19, x18⟩ := o17
              replace h := un2_e h
              refine bq_callVi (q0 := 1) (As := [.long _]) S hK hD hA hP hS (cX4_isPlace_k_1 ho17) hd_yX4_isPlace ml_X9_153 in_yX4_isPlace (hts _ sl_X4_X4_yX4_isPlace) ⟨rfl, rfl⟩ ⟨by decide, by decide⟩ rfl rfl rfl hl.1 rfl (Nat.le_of_ble_eq_true rfl) ⟨Nat.zero_le _, Nat.zero_le _⟩ dX9_walk_72 (fun H locs hP hS => ?_)
              refine lv_if_ne (tgt := 81) hx hb dX9_walk_75 (by decide) (fun c20 => ?_) (fun c20 => ?_)
              · replace h := (if_neg c20).symm.trans h
                refine lv_aload hx hb dX9_walk_81 (lv_at hl 3 rfl) ?_
                refine lv_iload hx hb dX9_walk_83 (lv_at hl 6 rfl) ?_
                obtain ⟨g21, h⟩ := bq_gd h
                refine va_lald (D := D) hx hb hK hP 39 1 rfl rfl g21 dX9_walk_85 ?_
                refine lv_l2i hx hb dX9_walk_86 rfl ?_
                refine lv_topi (fun v22 hv22 => ?_)
                replace h := bq_bv h hv22
                refine lv_istore (lv' := [(10, .int v22), (0, .ref (a 0)), (3, .int v8), (4, .int v9), (6, .ref (a 39)), (7, .int v11), (8, .int v12), (9, .int v13)]) hx hb dX9_walk_87 hl (by decide) rfl (fun ls hl => ?_)
                refine lv_iload hx hb dX9_walk_89 (lv_at hl 5 rfl) ?_
                refine lv_aload_n hx hb dX9_walk_91 rfl (lv_at hl 1 rfl) ?_
                refine bq_get (q0 := 0) S hK hP fl_X9_10_X9_0 rfl rfl rfl dX9_walk_92 ?_
                refine lv_iload hx hb dX9_walk_95 (lv_at hl 6 rfl) ?_
                refine lv_iload hx hb dX9_walk_97 (lv_at hl 0 rfl) ?_
                obtain ⟨o23, ho23, h⟩ := Option.bind_eq_some_iff.mp h
                obtain ⟨v25, x24⟩ := o23
                replace h := un2_e h
                refine bq_callVi (q0 := 1) (As := [.int _, .int _]) S hK hD hA hP hS (cX4_wayBetween_k_1 ho23) hd_yX4_wayBetween ml_X9_241 in_yX4_wayBetween (hts _ sl_X4_X4_yX4_wayBetween) ⟨rfl, rfl⟩ ⟨by decide, by decide⟩ rfl rfl rfl hl.1 rfl (Nat.le_of_ble_eq_true rfl) ⟨Nat.zero_le _, Nat.zero_le _⟩ dX9_walk_99 (fun H locs hP hS => ?_)
                refine lv_iadd hx hb dX9_walk_102 ?_
                refine lv_topi (fun v26 hv26 => ?_)
                replace h := bq_bv h hv26
                refine lv_istore (lv' := [(7, .int v26), (10, .int v22), (0, .ref (a 0)), (3, .int v8), (4, .int v9), (6, .ref (a 39)), (8, .int v12), (9, .int v13)]) hx hb dX9_walk_103 hl (by decide) rfl (fun ls hl => ?_)
                refine lv_iload hx hb dX9_walk_105 (lv_at hl 1 rfl) ?_
                refine lv_istore (lv' := [(8, .int v22), (7, .int v26), (10, .int v22), (0, .ref (a 0)), (3, .int v8), (4, .int v9), (6, .ref (a 39)), (9, .int v13)]) hx hb dX9_walk_107 hl (by decide) rfl (fun ls hl => ?_)
                obtain ⟨v27, hv27, h⟩ := bq_b h
                refine lv_iinc (v := v27) (lv' := [(9, .int v27), (8, .int v22), (7, .int v26), (10, .int v22), (0, .ref (a 0)), (3, .int v8), (4, .int v9), (6, .ref (a 39))]) hx hb dX9_walk_109 hl (k := 7) rfl (by rw [hv27]; rfl) (by decide) rfl (fun ls hl => ?_)
                refine lv_goto (tgt := 54) hx hb dX9_walk_112 (by decide) ?_
                cases h
                exact ih _ _ _ _ _ _ _ _ hw hP hS (lv_sub hl [4, 5, 6, 7, 2, 1, 0] rfl) kx kr
              · replace h := (if_pos c20).symm.trans h
                refine lv_bipush (v := (-2 : Int32)) hx hb dX9_walk_78 (by decide) ?_
                obtain ⟨e1, e2⟩ := Prod.mk.inj (hret _ h)
                exact hR _ _ _ _ _ (congrArg some e1) rfl (by rw [e2]; exact hP) hS dX9_walk_80
        obtain ⟨e28, he28, h⟩ := Option.bind_eq_some_iff.mp h
        refine hl54 _ _ n _ _ _ _ e28 _ _ _ he28 hP hS (lv_sub hl [5, 8, 9, 3, 2, 1, 0] rfl) (fun H locs ls v29 v30 v31 x32 hz hP hS hl => ?_) (fun z hz => hret z (bq_ir h hz :))
        replace h := bq_il h hz
        replace h := un4_e h
        refine lv_iload hx hb dX9_walk_115 (lv_at hl 0 rfl) ?_
        obtain ⟨e1, e2⟩ := Prod.mk.inj (hret _ h)
        exact hR _ _ _ _ _ (congrArg some e1) rfl (by rw [e2]; exact hP) hS dX9_walk_117
      · replace h := (if_neg c6).symm.trans h
        refine lv_iload hx hb dX9_walk_31 (lv_at hl 0 rfl) ?_
        obtain ⟨e1, e2⟩ := Prod.mk.inj (hret _ h)
        exact hR _ _ _ _ _ (congrArg some e1) rfl (by rw [e2]; exact hP) hS dX9_walk_33
    · replace h := (if_neg c2).symm.trans h
      refine lv_iconst (v := (-1 : Int32)) hx hb dX9_walk_13 (by decide) ?_
      obtain ⟨e1, e2⟩ := Prod.mk.inj (hret _ h)
      exact hR _ _ _ _ _ (congrArg some e1) rfl (by rw [e2]; exact hP) hS dX9_walk_14
set_option maxHeartbeats 4000000 in
set_option maxRecDepth 100000 in
theorem cX9_walk_k_0_s3 {l : Launch} {D : va_G} {a : Nat → Nat} {k : Nat → ClassId} {n : Nat} {p1 : Int32} {p2 : Int32} {p3 : Int32} {p4 : Int32} {x0 xz : bq_S} {rz : Int32} (hkp1 : p1.toNatClampNeg = 3) (h : fX9_walk n p1 p2 p3 p4 x0 = some (rz, xz)) : bq_M l D bq_cl (bq_ty k) (bq_wC a k) yX9_walk cX9_walk 11 (some .int) { frames := 2, cells := 0, slots := 0, locals := 47 } [.ref (a 0), .int p1, .int p2, .int p3, .int p4] x0 (some rz) xz := by
  refine bq_ofW RX9 [(0, .ref (a 0)), (1, .int p1), (2, .int p2), (3, .int p3), (4, .int p4)] (by decide +kernel) rfl (Nat.le_of_ble_eq_true rfl) rfl (bq_adC a k) ?_
  intro p e s m below meth c A Q ls S hK hD hA hR hS hP hl
  have hx := S.1; have hb := S.2.1; have hml := S.2.2.1; have hown := S.2.2.2.1; have hts := S.2.2.2.2
  have hret : ∀ z, some z = some (rz, xz) → (rz, xz) = z := fun z h => (Option.some.inj h).symm
  unfold fX9_walk at h
  refine lv_iload hx hb dX9_walk_0 (lv_at hl 4 rfl) ?_
  refine lv_iconst (v := (1 : Int32)) hx hb dX9_walk_2 (by decide) ?_
  refine lv_icmp_lt (tgt := 13) hx hb dX9_walk_3 (by decide) (fun c1 => ?_) (fun c1 => ?_)
  · replace h := (if_pos c1).symm.trans h
    refine lv_iconst (v := (-1 : Int32)) hx hb dX9_walk_13 (by decide) ?_
    obtain ⟨e1, e2⟩ := Prod.mk.inj (hret _ h)
    exact hR _ _ _ _ _ (congrArg some e1) rfl (by rw [e2]; exact hP) hS dX9_walk_14
  · replace h := (if_neg c1).symm.trans h
    refine lv_iload hx hb dX9_walk_6 (lv_at hl 4 rfl) ?_
    refine lv_bipush (v := (6 : Int32)) hx hb dX9_walk_8 (by decide) ?_
    refine lv_icmp_le (tgt := 15) hx hb dX9_walk_10 (by decide) (fun c2 => ?_) (fun c2 => ?_)
    · replace h := (if_pos c2).symm.trans h
      refine lv_aload_n hx hb dX9_walk_15 rfl (lv_at hl 0 rfl) ?_
      refine lv_iload_n hx hb dX9_walk_16 rfl (lv_at hl 1 rfl) ?_
      refine lv_iload_n hx hb dX9_walk_17 rfl (lv_at hl 2 rfl) ?_
      refine lv_iload_n hx hb dX9_walk_18 rfl (lv_at hl 3 rfl) ?_
      refine lv_iload hx hb dX9_walk_19 (lv_at hl 4 rfl) ?_
      obtain ⟨o3, ho3, h⟩ := Option.bind_eq_some_iff.mp h
      obtain ⟨v5, x4⟩ := o3
      replace h := un2_e h
      refine bq_callVi (q0 := 0) (As := [.int _, .int _, .int _, .int _]) S hK hD hA hP hS (cX9_refusalOf_k_0 ho3) hd_yX9_refusalOf ml_X9_233 in_yX9_refusalOf (hts _ sl_X9_X9_yX9_refusalOf) ⟨rfl, rfl⟩ ⟨by decide, by decide⟩ rfl rfl rfl hl.1 rfl (Nat.le_of_ble_eq_true rfl) ⟨Nat.zero_le _, Nat.zero_le _⟩ dX9_walk_21 (fun H locs hP hS => ?_)
      refine lv_istore (lv' := [(5, .int v5), (0, .ref (a 0)), (1, .int p1), (2, .int p2), (3, .int p3), (4, .int p4)]) hx hb dX9_walk_24 hl (by decide) rfl (fun ls hl => ?_)
      refine lv_iload hx hb dX9_walk_26 (lv_at hl 0 rfl) ?_
      refine lv_if_eq (tgt := 34) hx hb dX9_walk_28 (by decide) (fun c6 => ?_) (fun c6 => ?_)
      · replace h := (if_pos c6).symm.trans h
        refine lv_aload_n hx hb dX9_walk_34 rfl (lv_at hl 1 rfl) ?_
        refine bq_get (q0 := 0) S hK hP fl_X9_70_X9_9 rfl rfl rfl dX9_walk_35 ?_
        refine lv_iload_n hx hb dX9_walk_38 rfl (lv_at hl 2 rfl) ?_
        obtain ⟨g7, h⟩ := bq_gd h
        refine va_aldq (D := D) hx hb hK hP 33 3 rfl rfl g7 dX9_walk_39 ?_
        rw [hkp1]
        try rw [hkp1] at h
        refine W.eq (g2 := F0 m 40 ls [.ref (a 40)]) rfl ?_
        refine bq_get (q0 := 40) S hK hP fl_X9_237_X6_0 rfl rfl rfl dX9_walk_40 ?_
        refine lv_astore (lv' := [(6, .ref (a 41)), (5, .int v5), (0, .ref (a 0)), (1, .int p1), (2, .int p2), (3, .int p3), (4, .int p4)]) hx hb dX9_walk_43 hl (by decide) rfl (fun ls hl => ?_)
        refine lv_iconst (v := (0 : Int32)) hx hb dX9_walk_45 (by decide) ?_
        refine lv_istore (lv' := [(7, .int (0 : Int32)), (6, .ref (a 41)), (5, .int v5), (0, .ref (a 0)), (1, .int p1), (2, .int p2), (3, .int p3), (4, .int p4)]) hx hb dX9_walk_46 hl (by decide) rfl (fun ls hl => ?_)
        refine lv_iconst (v := (-1 : Int32)) hx hb dX9_walk_48 (by decide) ?_
        refine lv_istore (lv' := [(8, .int (-1 : Int32)), (7, .int (0 : Int32)), (6, .ref (a 41)), (5, .int v5), (0, .ref (a 0)), (1, .int p1), (2, .int p2), (3, .int p3), (4, .int p4)]) hx hb dX9_walk_49 hl (by decide) rfl (fun ls hl => ?_)
        refine lv_iload_n hx hb dX9_walk_51 rfl (lv_at hl 7 rfl) ?_
        refine lv_istore (lv' := [(9, .int p3), (8, .int (-1 : Int32)), (7, .int (0 : Int32)), (6, .ref (a 41)), (5, .int v5), (0, .ref (a 0)), (1, .int p1), (2, .int p2), (3, .int p3), (4, .int p4)]) hx hb dX9_walk_52 hl (by decide) rfl (fun ls hl => ?_)
        have hl54 : ∀ (v8 : Int32) (v9 : Int32) (kf : Nat) (v11 : Int32) (v12 : Int32) (v13 : Int32) (x14 : bq_S) (eo : (Int32 × Int32 × Int32 × bq_S) ⊕ (Int32 × bq_S)) (H : Heap) (locs : List Loc) (ls : Array Slot), wh kf (fX9_walk_b54 n v8 v9 41) (v11, v12, v13, x14) = some eo → va_P D bq_cl (bq_wC a k x14) H → va_S A s.heap H locs → lv_has ls 11 [(0, .ref (a 0)), (3, .int v8), (4, .int v9), (6, .ref (a 41)), (7, .int v11), (8, .int v12), (9, .int v13)] → (∀ (H : Heap) (locs : List Loc) (ls : Array Slot) (v29 : Int32) (v30 : Int32) (v31 : Int32) (x32 : bq_S), eo = .inl (v29, v30, v31, x32) → va_P D bq_cl (bq_wC a k x32) H → va_S A s.heap H locs → lv_has ls 11 [(7, .int v29)] → W p l e { frames := 2, cells := 0, slots := 0, locals := 47 } s m [.ref (a 0), .int p1, .int p2, .int p3, .int p4].toArray below meth c H locs 0 0 Q (F0 m 115 ls [])) → (∀ z, eo = .inr z → (rz, xz) = z) → W p l e { frames := 2, cells := 0, slots := 0, locals := 47 } s m [.ref (a 0), .int p1, .int p2, .int p3, .int p4].toArray below meth c H locs 0 0 Q (F0 m 54 ls []) := by
          intro v8 v9 kf
          induction kf with
          | zero => intro v11 v12 v13 x14 eo H locs ls h; cases h
          | succ kf ih =>
            intro v11 v12 v13 x14 eo H locs ls h hP hS hl kx kr
            obtain ⟨out, h, hw⟩ := wh_s h
            have hret : ∀ z, (some (.inr (.inr z)) : Option ((Int32 × Int32 × Int32 × bq_S) ⊕ ((Int32 × Int32 × Int32 × bq_S) ⊕ (Int32 × bq_S)))) = some out → (rz, xz) = z := fun z h => kr z (by cases h; exact (Option.some.inj hw).symm)
            unfold fX9_walk_b54 at h
            replace h := un4_e h
            refine lv_iload hx hb dX9_walk_54 (lv_at hl 6 rfl) ?_
            refine lv_iload_n hx hb dX9_walk_56 rfl (lv_at hl 1 rfl) ?_
            refine lv_iload hx hb dX9_walk_57 (lv_at hl 2 rfl) ?_
            refine lv_iadd hx hb dX9_walk_59 ?_
            refine lv_icmp_ge (tgt := 115) hx hb dX9_walk_60 (by decide) (fun c15 => ?_) (fun c15 => ?_)
            · replace h := (if_pos c15).symm.trans h
              cases h
              exact kx _ _ _ _ _ _ _ (Option.some.inj hw).symm hP hS (lv_sub hl [4] rfl)
            · replace h := (if_neg c15).symm.trans h
              refine lv_aload_n hx hb dX9_walk_63 rfl (lv_at hl 0 rfl) ?_
              refine bq_get (q0 := 0) S hK hP fl_X9_10_X9_0 rfl rfl rfl dX9_walk_64 ?_
              refine lv_aload hx hb dX9_walk_67 (lv_at hl 3 rfl) ?_
              refine lv_iload hx hb dX9_walk_69 (lv_at hl 6 rfl) ?_
              obtain ⟨g16, h⟩ := bq_gd h
              refine va_lald (D := D) hx hb hK hP 41 1 rfl rfl g16 dX9_walk_71 ?_
              obtain ⟨o17, ho17, h⟩ := Option.bind_eq_some_iff.mp h
              obtain ⟨v19, x18⟩ := o17
              replace h := un2_e h
              refine bq_callVi (q0 := 1) (As := [.long _]) S hK hD hA hP hS (cX4_isPlace_k_1 ho17) hd_yX4_isPlace ml_X9_153 in_yX4_isPlace (hts _ sl_X4_X4_yX4_isPlace) ⟨rfl, rfl⟩ ⟨by decide, by decide⟩ rfl rfl rfl hl.1 rfl (Nat.le_of_ble_eq_true rfl) ⟨Nat.zero_le _, Nat.zero_le _⟩ dX9_walk_72 (fun H locs hP hS => ?_)
              refine lv_if_ne (tgt := 81) hx hb dX9_walk_75 (by decide) (fun c20 => ?_) (fun c20 => ?_)
              · replace h := (if_neg c20).symm.trans h
                refine lv_aload hx hb dX9_walk_81 (lv_at hl 3 rfl) ?_
                refine lv_iload hx hb dX9_walk_83 (lv_at hl 6 rfl) ?_
                obtain ⟨g21, h⟩ := bq_gd h
                refine va_lald (D := D) hx hb hK hP 41 1 rfl rfl g21 dX9_walk_85 ?_
                refine lv_l2i hx hb dX9_walk_86 rfl ?_
                refine lv_topi (fun v22 hv22 => ?_)
                replace h := bq_bv h hv22
                refine lv_istore (lv' := [(10, .int v22), (0, .ref (a 0)), (3, .int v8), (4, .int v9), (6, .ref (a 41)), (7, .int v11), (8, .int v12), (9, .int v13)]) hx hb dX9_walk_87 hl (by decide) rfl (fun ls hl => ?_)
                refine lv_iload hx hb dX9_walk_89 (lv_at hl 5 rfl) ?_
                refine lv_aload_n hx hb dX9_walk_91 rfl (lv_at hl 1 rfl) ?_
                refine bq_get (q0 := 0) S hK hP fl_X9_10_X9_0 rfl rfl rfl dX9_walk_92 ?_
                refine lv_iload hx hb dX9_walk_95 (lv_at hl 6 rfl) ?_
                refine lv_iload hx hb dX9_walk_97 (lv_at hl 0 rfl) ?_
                obtain ⟨o23, ho23, h⟩ := Option.bind_eq_some_iff.mp h
                obtain ⟨v25, x24⟩ := o23
                replace h := un2_e h
                refine bq_callVi (q0 := 1) (As := [.int _, .int _]) S hK hD hA hP hS (cX4_wayBetween_k_1 ho23) hd_yX4_wayBetween ml_X9_241 in_yX4_wayBetween (hts _ sl_X4_X4_yX4_wayBetween) ⟨rfl, rfl⟩ ⟨by decide, by decide⟩ rfl rfl rfl hl.1 rfl (Nat.le_of_ble_eq_true rfl) ⟨Nat.zero_le _, Nat.zero_le _⟩ dX9_walk_99 (fun H locs hP hS => ?_)
                refine lv_iadd hx hb dX9_walk_102 ?_
                refine lv_topi (fun v26 hv26 => ?_)
                replace h := bq_bv h hv26
                refine lv_istore (lv' := [(7, .int v26), (10, .int v22), (0, .ref (a 0)), (3, .int v8), (4, .int v9), (6, .ref (a 41)), (8, .int v12), (9, .int v13)]) hx hb dX9_walk_103 hl (by decide) rfl (fun ls hl => ?_)
                refine lv_iload hx hb dX9_walk_105 (lv_at hl 1 rfl) ?_
                refine lv_istore (lv' := [(8, .int v22), (7, .int v26), (10, .int v22), (0, .ref (a 0)), (3, .int v8), (4, .int v9), (6, .ref (a 41)), (9, .int v13)]) hx hb dX9_walk_107 hl (by decide) rfl (fun ls hl => ?_)
                obtain ⟨v27, hv27, h⟩ := bq_b h
                refine lv_iinc (v := v27) (lv' := [(9, .int v27), (8, .int v22), (7, .int v26), (10, .int v22), (0, .ref (a 0)), (3, .int v8), (4, .int v9), (6, .ref (a 41))]) hx hb dX9_walk_109 hl (k := 7) rfl (by rw [hv27]; rfl) (by decide) rfl (fun ls hl => ?_)
                refine lv_goto (tgt := 54) hx hb dX9_walk_112 (by decide) ?_
                cases h
                exact ih _ _ _ _ _ _ _ _ hw hP hS (lv_sub hl [4, 5, 6, 7, 2, 1, 0] rfl) kx kr
              · replace h := (if_pos c20).symm.trans h
                refine lv_bipush (v := (-2 : Int32)) hx hb dX9_walk_78 (by decide) ?_
                obtain ⟨e1, e2⟩ := Prod.mk.inj (hret _ h)
                exact hR _ _ _ _ _ (congrArg some e1) rfl (by rw [e2]; exact hP) hS dX9_walk_80
        obtain ⟨e28, he28, h⟩ := Option.bind_eq_some_iff.mp h
        refine hl54 _ _ n _ _ _ _ e28 _ _ _ he28 hP hS (lv_sub hl [5, 8, 9, 3, 2, 1, 0] rfl) (fun H locs ls v29 v30 v31 x32 hz hP hS hl => ?_) (fun z hz => hret z (bq_ir h hz :))
        replace h := bq_il h hz
        replace h := un4_e h
        refine lv_iload hx hb dX9_walk_115 (lv_at hl 0 rfl) ?_
        obtain ⟨e1, e2⟩ := Prod.mk.inj (hret _ h)
        exact hR _ _ _ _ _ (congrArg some e1) rfl (by rw [e2]; exact hP) hS dX9_walk_117
      · replace h := (if_neg c6).symm.trans h
        refine lv_iload hx hb dX9_walk_31 (lv_at hl 0 rfl) ?_
        obtain ⟨e1, e2⟩ := Prod.mk.inj (hret _ h)
        exact hR _ _ _ _ _ (congrArg some e1) rfl (by rw [e2]; exact hP) hS dX9_walk_33
    · replace h := (if_neg c2).symm.trans h
      refine lv_iconst (v := (-1 : Int32)) hx hb dX9_walk_13 (by decide) ?_
      obtain ⟨e1, e2⟩ := Prod.mk.inj (hret _ h)
      exact hR _ _ _ _ _ (congrArg some e1) rfl (by rw [e2]; exact hP) hS dX9_walk_14
set_option maxHeartbeats 4000000 in
set_option maxRecDepth 100000 in
theorem cX9_walk_k_0_sb {l : Launch} {D : va_G} {a : Nat → Nat} {k : Nat → ClassId} {n : Nat} {p1 : Int32} {p2 : Int32} {p3 : Int32} {p4 : Int32} {x0 xz : bq_S} {rz : Int32} (hkp1 : ¬ p1.toNatClampNeg < 4) (h : fX9_walk n p1 p2 p3 p4 x0 = some (rz, xz)) : bq_M l D bq_cl (bq_ty k) (bq_wC a k) yX9_walk cX9_walk 11 (some .int) { frames := 2, cells := 0, slots := 0, locals := 47 } [.ref (a 0), .int p1, .int p2, .int p3, .int p4] x0 (some rz) xz := by
  refine bq_ofW RX9 [(0, .ref (a 0)), (1, .int p1), (2, .int p2), (3, .int p3), (4, .int p4)] (by decide +kernel) rfl (Nat.le_of_ble_eq_true rfl) rfl (bq_adC a k) ?_
  intro p e s m below meth c A Q ls S hK hD hA hR hS hP hl
  have hx := S.1; have hb := S.2.1; have hml := S.2.2.1; have hown := S.2.2.2.1; have hts := S.2.2.2.2
  have hret : ∀ z, some z = some (rz, xz) → (rz, xz) = z := fun z h => (Option.some.inj h).symm
  unfold fX9_walk at h
  refine lv_iload hx hb dX9_walk_0 (lv_at hl 4 rfl) ?_
  refine lv_iconst (v := (1 : Int32)) hx hb dX9_walk_2 (by decide) ?_
  refine lv_icmp_lt (tgt := 13) hx hb dX9_walk_3 (by decide) (fun c1 => ?_) (fun c1 => ?_)
  · replace h := (if_pos c1).symm.trans h
    refine lv_iconst (v := (-1 : Int32)) hx hb dX9_walk_13 (by decide) ?_
    obtain ⟨e1, e2⟩ := Prod.mk.inj (hret _ h)
    exact hR _ _ _ _ _ (congrArg some e1) rfl (by rw [e2]; exact hP) hS dX9_walk_14
  · replace h := (if_neg c1).symm.trans h
    refine lv_iload hx hb dX9_walk_6 (lv_at hl 4 rfl) ?_
    refine lv_bipush (v := (6 : Int32)) hx hb dX9_walk_8 (by decide) ?_
    refine lv_icmp_le (tgt := 15) hx hb dX9_walk_10 (by decide) (fun c2 => ?_) (fun c2 => ?_)
    · replace h := (if_pos c2).symm.trans h
      refine lv_aload_n hx hb dX9_walk_15 rfl (lv_at hl 0 rfl) ?_
      refine lv_iload_n hx hb dX9_walk_16 rfl (lv_at hl 1 rfl) ?_
      refine lv_iload_n hx hb dX9_walk_17 rfl (lv_at hl 2 rfl) ?_
      refine lv_iload_n hx hb dX9_walk_18 rfl (lv_at hl 3 rfl) ?_
      refine lv_iload hx hb dX9_walk_19 (lv_at hl 4 rfl) ?_
      obtain ⟨o3, ho3, h⟩ := Option.bind_eq_some_iff.mp h
      obtain ⟨v5, x4⟩ := o3
      replace h := un2_e h
      refine bq_callVi (q0 := 0) (As := [.int _, .int _, .int _, .int _]) S hK hD hA hP hS (cX9_refusalOf_k_0 ho3) hd_yX9_refusalOf ml_X9_233 in_yX9_refusalOf (hts _ sl_X9_X9_yX9_refusalOf) ⟨rfl, rfl⟩ ⟨by decide, by decide⟩ rfl rfl rfl hl.1 rfl (Nat.le_of_ble_eq_true rfl) ⟨Nat.zero_le _, Nat.zero_le _⟩ dX9_walk_21 (fun H locs hP hS => ?_)
      refine lv_istore (lv' := [(5, .int v5), (0, .ref (a 0)), (1, .int p1), (2, .int p2), (3, .int p3), (4, .int p4)]) hx hb dX9_walk_24 hl (by decide) rfl (fun ls hl => ?_)
      refine lv_iload hx hb dX9_walk_26 (lv_at hl 0 rfl) ?_
      refine lv_if_eq (tgt := 34) hx hb dX9_walk_28 (by decide) (fun c6 => ?_) (fun c6 => ?_)
      · replace h := (if_pos c6).symm.trans h
        refine lv_aload_n hx hb dX9_walk_34 rfl (lv_at hl 1 rfl) ?_
        refine bq_get (q0 := 0) S hK hP fl_X9_70_X9_9 rfl rfl rfl dX9_walk_35 ?_
        refine lv_iload_n hx hb dX9_walk_38 rfl (lv_at hl 2 rfl) ?_
        obtain ⟨g7, h⟩ := bq_gd h
        exact absurd (bq_lt g7) hkp1
      · replace h := (if_neg c6).symm.trans h
        refine lv_iload hx hb dX9_walk_31 (lv_at hl 0 rfl) ?_
        obtain ⟨e1, e2⟩ := Prod.mk.inj (hret _ h)
        exact hR _ _ _ _ _ (congrArg some e1) rfl (by rw [e2]; exact hP) hS dX9_walk_33
    · replace h := (if_neg c2).symm.trans h
      refine lv_iconst (v := (-1 : Int32)) hx hb dX9_walk_13 (by decide) ?_
      obtain ⟨e1, e2⟩ := Prod.mk.inj (hret _ h)
      exact hR _ _ _ _ _ (congrArg some e1) rfl (by rw [e2]; exact hP) hS dX9_walk_14
theorem cX9_walk_k_0 {l : Launch} {D : va_G} {a : Nat → Nat} {k : Nat → ClassId} {n : Nat} {p1 : Int32} {p2 : Int32} {p3 : Int32} {p4 : Int32} {x0 xz : bq_S} {rz : Int32} (h : fX9_walk n p1 p2 p3 p4 x0 = some (rz, xz)) : bq_M l D bq_cl (bq_ty k) (bq_wC a k) yX9_walk cX9_walk 11 (some .int) { frames := 2, cells := 0, slots := 0, locals := 47 } [.ref (a 0), .int p1, .int p2, .int p3, .int p4] x0 (some rz) xz := by
  by_cases k0 : p1.toNatClampNeg < 4
  · rcases (show p1.toNatClampNeg = 0 ∨ p1.toNatClampNeg = 1 ∨ p1.toNatClampNeg = 2 ∨ p1.toNatClampNeg = 3 by omega) with e0 | e0 | e0 | e0
    · skip
      exact cX9_walk_k_0_s0 e0 h
    · skip
      exact cX9_walk_k_0_s1 e0 h
    · skip
      exact cX9_walk_k_0_s2 e0 h
    · skip
      exact cX9_walk_k_0_s3 e0 h
  · skip
    exact cX9_walk_k_0_sb k0 h
def fX9_areOthers_b12 (n : Nat) (r4 : Nat) (lb5 : Nat) (v6 : Int32) (v7 : Int32) (v : Int32 × Int32 × bq_S) : Option ((Int32 × Int32 × bq_S) ⊕ ((Int32 × Int32 × bq_S) ⊕ (Int32 × bq_S))) :=
  un3 v (fun v8 v9 x10 =>
  if (v6 + v7) ≤ v9 then
  some (.inr (.inl (v8, v9, x10)))
  else
  if ok_i v9 lb5 then
  (fX4_isBook 1 (x10.2 r4 v9.toNatClampNeg) x10).bind (fun o13 => un2 o13 (fun v15 x14 =>
  if v15 = 0 then
  some (.inr (.inr ((0 : Int32), x14)))
  else
  if ok_i v9 lb5 then
  bd (x14.2 r4 v9.toNatClampNeg).toInt32 (fun v18 =>
  (fX9_has v8 v18 x14).bind (fun o19 => un2 o19 (fun v21 x20 =>
  if v21 = 0 then
  (fX9_bit v18 x20).bind (fun o23 => un2 o23 (fun v25 x24 =>
  bd (v8 ||| v25) (fun v26 =>
  bd (v9 + (1 : Int32)) (fun v27 =>
  some (.inl (v26, v27, x24))))))
  else
  some (.inr (.inr ((0 : Int32), x20))))))
  else none))
  else none)
def fX9_areOthers (n : Nat) (q1 : Nat) (la1 : Nat) (p2 : Int32) (p3 : Int32) (x0 : bq_S) : Option (Int32 × bq_S) :=
  (fX4_hallSet n 1 x0).bind (fun o1 => un2 o1 (fun v3 x2 =>
  (wh n (fX9_areOthers_b12 n q1 la1 p2 p3) (v3, p2, x2)).bind (fun e28 =>
  Sum.elim (fun z => un3 z (fun v29 v30 x31 =>
  some ((1 : Int32), x31))) (fun z => some z) e28)))
theorem dX9_areOthers_0 : decode cX9_areOthers 0 = .ok (.aload_n 0, 1) := by decide +kernel
theorem dX9_areOthers_1 : decode cX9_areOthers 1 = .ok (.getfield 10, 3) := by decide +kernel
theorem dX9_areOthers_4 : decode cX9_areOthers 4 = .ok (.invokevirtual 175, 3) := by decide +kernel
theorem dX9_areOthers_7 : decode cX9_areOthers 7 = .ok (.istore 4, 2) := by decide +kernel
theorem dX9_areOthers_9 : decode cX9_areOthers 9 = .ok (.iload_n 2, 1) := by decide +kernel
theorem dX9_areOthers_10 : decode cX9_areOthers 10 = .ok (.istore 5, 2) := by decide +kernel
theorem dX9_areOthers_12 : decode cX9_areOthers 12 = .ok (.iload 5, 2) := by decide +kernel
theorem dX9_areOthers_14 : decode cX9_areOthers 14 = .ok (.iload_n 2, 1) := by decide +kernel
theorem dX9_areOthers_15 : decode cX9_areOthers 15 = .ok (.iload_n 3, 1) := by decide +kernel
theorem dX9_areOthers_16 : decode cX9_areOthers 16 = .ok (.iadd, 1) := by decide +kernel
theorem dX9_areOthers_17 : decode cX9_areOthers 17 = .ok (.if_icmp .ge 54, 3) := by decide +kernel
theorem dX9_areOthers_20 : decode cX9_areOthers 20 = .ok (.aload_n 0, 1) := by decide +kernel
theorem dX9_areOthers_21 : decode cX9_areOthers 21 = .ok (.getfield 10, 3) := by decide +kernel
theorem dX9_areOthers_24 : decode cX9_areOthers 24 = .ok (.aload_n 1, 1) := by decide +kernel
theorem dX9_areOthers_25 : decode cX9_areOthers 25 = .ok (.iload 5, 2) := by decide +kernel
theorem dX9_areOthers_27 : decode cX9_areOthers 27 = .ok (.laload, 1) := by decide +kernel
theorem dX9_areOthers_28 : decode cX9_areOthers 28 = .ok (.invokevirtual 106, 3) := by decide +kernel
theorem dX9_areOthers_31 : decode cX9_areOthers 31 = .ok (.ifCond .ne 5, 3) := by decide +kernel
theorem dX9_areOthers_34 : decode cX9_areOthers 34 = .ok (.iconst 0, 1) := by decide +kernel
theorem dX9_areOthers_35 : decode cX9_areOthers 35 = .ok (.ireturn, 1) := by decide +kernel
theorem dX9_areOthers_36 : decode cX9_areOthers 36 = .ok (.aload_n 1, 1) := by decide +kernel
theorem dX9_areOthers_37 : decode cX9_areOthers 37 = .ok (.iload 5, 2) := by decide +kernel
theorem dX9_areOthers_39 : decode cX9_areOthers 39 = .ok (.laload, 1) := by decide +kernel
theorem dX9_areOthers_40 : decode cX9_areOthers 40 = .ok (.l2i, 1) := by decide +kernel
theorem dX9_areOthers_41 : decode cX9_areOthers 41 = .ok (.istore 6, 2) := by decide +kernel
theorem dX9_areOthers_43 : decode cX9_areOthers 43 = .ok (.iload 4, 2) := by decide +kernel
theorem dX9_areOthers_45 : decode cX9_areOthers 45 = .ok (.iload 6, 2) := by decide +kernel
theorem dX9_areOthers_47 : decode cX9_areOthers 47 = .ok (.invokestatic 208, 3) := by decide +kernel
theorem dX9_areOthers_50 : decode cX9_areOthers 50 = .ok (.ifCond .eq 5, 3) := by decide +kernel
theorem dX9_areOthers_53 : decode cX9_areOthers 53 = .ok (.iconst 0, 1) := by decide +kernel
theorem dX9_areOthers_54 : decode cX9_areOthers 54 = .ok (.ireturn, 1) := by decide +kernel
theorem dX9_areOthers_55 : decode cX9_areOthers 55 = .ok (.iload 4, 2) := by decide +kernel
theorem dX9_areOthers_57 : decode cX9_areOthers 57 = .ok (.iload 6, 2) := by decide +kernel
theorem dX9_areOthers_59 : decode cX9_areOthers 59 = .ok (.invokestatic 211, 3) := by decide +kernel
theorem dX9_areOthers_62 : decode cX9_areOthers 62 = .ok (.ior, 1) := by decide +kernel
theorem dX9_areOthers_63 : decode cX9_areOthers 63 = .ok (.istore 4, 2) := by decide +kernel
theorem dX9_areOthers_65 : decode cX9_areOthers 65 = .ok (.iinc 5 1, 3) := by decide +kernel
theorem dX9_areOthers_68 : decode cX9_areOthers 68 = .ok (.goto (-56), 3) := by decide +kernel
theorem dX9_areOthers_71 : decode cX9_areOthers 71 = .ok (.iconst 1, 1) := by decide +kernel
theorem dX9_areOthers_72 : decode cX9_areOthers 72 = .ok (.ireturn, 1) := by decide +kernel
set_option maxHeartbeats 4000000 in
set_option maxRecDepth 100000 in
theorem cX9_areOthers_k_0_35 {l : Launch} {D : va_G} {a : Nat → Nat} {k : Nat → ClassId} {n : Nat} {p2 : Int32} {p3 : Int32} {x0 xz : bq_S} {rz : Int32} (h : fX9_areOthers n 35 16 p2 p3 x0 = some (rz, xz)) : bq_M l D bq_cl (bq_ty k) (bq_wC a k) yX9_areOthers cX9_areOthers 7 (some .boolean) { frames := 3, cells := 0, slots := 0, locals := 64 } [.ref (a 0), .ref (a 35), .int p2, .int p3] x0 (some rz) xz := by
  refine bq_ofW RX9 [(0, .ref (a 0)), (1, .ref (a 35)), (2, .int p2), (3, .int p3)] (by decide +kernel) rfl (Nat.le_of_ble_eq_true rfl) rfl (bq_adC a k) ?_
  intro p e s m below meth c A Q ls S hK hD hA hR hS hP hl
  have hx := S.1; have hb := S.2.1; have hml := S.2.2.1; have hown := S.2.2.2.1; have hts := S.2.2.2.2
  have hret : ∀ z, some z = some (rz, xz) → (rz, xz) = z := fun z h => (Option.some.inj h).symm
  unfold fX9_areOthers at h
  refine lv_aload_n hx hb dX9_areOthers_0 rfl (lv_at hl 0 rfl) ?_
  refine bq_get (q0 := 0) S hK hP fl_X9_10_X9_0 rfl rfl rfl dX9_areOthers_1 ?_
  obtain ⟨o1, ho1, h⟩ := Option.bind_eq_some_iff.mp h
  obtain ⟨v3, x2⟩ := o1
  replace h := un2_e h
  refine bq_callVi (q0 := 1) (As := []) S hK hD hA hP hS (cX4_hallSet_k_1 ho1) hd_yX4_hallSet ml_X9_175 in_yX4_hallSet (hts _ sl_X4_X4_yX4_hallSet) ⟨rfl, rfl⟩ ⟨by decide, by decide⟩ rfl rfl rfl hl.1 rfl (Nat.le_of_ble_eq_true rfl) ⟨Nat.zero_le _, Nat.zero_le _⟩ dX9_areOthers_4 (fun H locs hP hS => ?_)
  refine lv_istore (lv' := [(4, .int v3), (0, .ref (a 0)), (1, .ref (a 35)), (2, .int p2), (3, .int p3)]) hx hb dX9_areOthers_7 hl (by decide) rfl (fun ls hl => ?_)
  refine lv_iload_n hx hb dX9_areOthers_9 rfl (lv_at hl 3 rfl) ?_
  refine lv_istore (lv' := [(5, .int p2), (4, .int v3), (0, .ref (a 0)), (1, .ref (a 35)), (2, .int p2), (3, .int p3)]) hx hb dX9_areOthers_10 hl (by decide) rfl (fun ls hl => ?_)
  have hl12 : ∀ (v6 : Int32) (v7 : Int32) (kf : Nat) (v8 : Int32) (v9 : Int32) (x10 : bq_S) (eo : (Int32 × Int32 × bq_S) ⊕ (Int32 × bq_S)) (H : Heap) (locs : List Loc) (ls : Array Slot), wh kf (fX9_areOthers_b12 n 35 16 v6 v7) (v8, v9, x10) = some eo → va_P D bq_cl (bq_wC a k x10) H → va_S A s.heap H locs → lv_has ls 7 [(0, .ref (a 0)), (1, .ref (a 35)), (2, .int v6), (3, .int v7), (4, .int v8), (5, .int v9)] → (∀ (H : Heap) (locs : List Loc) (ls : Array Slot) (v29 : Int32) (v30 : Int32) (x31 : bq_S), eo = .inl (v29, v30, x31) → va_P D bq_cl (bq_wC a k x31) H → va_S A s.heap H locs → lv_has ls 7 [] → W p l e { frames := 3, cells := 0, slots := 0, locals := 64 } s m [.ref (a 0), .ref (a 35), .int p2, .int p3].toArray below meth c H locs 0 0 Q (F0 m 71 ls [])) → (∀ z, eo = .inr z → (rz, xz) = z) → W p l e { frames := 3, cells := 0, slots := 0, locals := 64 } s m [.ref (a 0), .ref (a 35), .int p2, .int p3].toArray below meth c H locs 0 0 Q (F0 m 12 ls []) := by
    intro v6 v7 kf
    induction kf with
    | zero => intro v8 v9 x10 eo H locs ls h; cases h
    | succ kf ih =>
      intro v8 v9 x10 eo H locs ls h hP hS hl kx kr
      obtain ⟨out, h, hw⟩ := wh_s h
      have hret : ∀ z, (some (.inr (.inr z)) : Option ((Int32 × Int32 × bq_S) ⊕ ((Int32 × Int32 × bq_S) ⊕ (Int32 × bq_S)))) = some out → (rz, xz) = z := fun z h => kr z (by cases h; exact (Option.some.inj hw).symm)
      unfold fX9_areOthers_b12 at h
      replace h := un3_e h
      refine lv_iload hx hb dX9_areOthers_12 (lv_at hl 5 rfl) ?_
      refine lv_iload_n hx hb dX9_areOthers_14 rfl (lv_at hl 2 rfl) ?_
      refine lv_iload_n hx hb dX9_areOthers_15 rfl (lv_at hl 3 rfl) ?_
      refine lv_iadd hx hb dX9_areOthers_16 ?_
      refine lv_icmp_ge (tgt := 71) hx hb dX9_areOthers_17 (by decide) (fun c11 => ?_) (fun c11 => ?_)
      · replace h := (if_pos c11).symm.trans h
        cases h
        exact kx _ _ _ _ _ _ (Option.some.inj hw).symm hP hS (lv_sub hl [] rfl)
      · replace h := (if_neg c11).symm.trans h
        refine lv_aload_n hx hb dX9_areOthers_20 rfl (lv_at hl 0 rfl) ?_
        refine bq_get (q0 := 0) S hK hP fl_X9_10_X9_0 rfl rfl rfl dX9_areOthers_21 ?_
        refine lv_aload_n hx hb dX9_areOthers_24 rfl (lv_at hl 1 rfl) ?_
        refine lv_iload hx hb dX9_areOthers_25 (lv_at hl 5 rfl) ?_
        obtain ⟨g12, h⟩ := bq_gd h
        refine va_lald (D := D) hx hb hK hP 35 1 rfl rfl g12 dX9_areOthers_27 ?_
        obtain ⟨o13, ho13, h⟩ := Option.bind_eq_some_iff.mp h
        obtain ⟨v15, x14⟩ := o13
        replace h := un2_e h
        refine bq_callVi (q0 := 1) (As := [.long _]) S hK hD hA hP hS (cX4_isBook_k_1 ho13) hd_yX4_isBook ml_X9_106 in_yX4_isBook (hts _ sl_X4_X4_yX4_isBook) ⟨rfl, rfl⟩ ⟨by decide, by decide⟩ rfl rfl rfl hl.1 rfl (Nat.le_of_ble_eq_true rfl) ⟨Nat.zero_le _, Nat.zero_le _⟩ dX9_areOthers_28 (fun H locs hP hS => ?_)
        refine lv_if_ne (tgt := 36) hx hb dX9_areOthers_31 (by decide) (fun c16 => ?_) (fun c16 => ?_)
        · replace h := (if_neg c16).symm.trans h
          refine lv_aload_n hx hb dX9_areOthers_36 rfl (lv_at hl 1 rfl) ?_
          refine lv_iload hx hb dX9_areOthers_37 (lv_at hl 5 rfl) ?_
          obtain ⟨g17, h⟩ := bq_gd h
          refine va_lald (D := D) hx hb hK hP 35 1 rfl rfl g17 dX9_areOthers_39 ?_
          refine lv_l2i hx hb dX9_areOthers_40 rfl ?_
          refine lv_topi (fun v18 hv18 => ?_)
          replace h := bq_bv h hv18
          refine lv_istore (lv' := [(6, .int v18), (0, .ref (a 0)), (1, .ref (a 35)), (2, .int v6), (3, .int v7), (4, .int v8), (5, .int v9)]) hx hb dX9_areOthers_41 hl (by decide) rfl (fun ls hl => ?_)
          refine lv_iload hx hb dX9_areOthers_43 (lv_at hl 5 rfl) ?_
          refine lv_iload hx hb dX9_areOthers_45 (lv_at hl 0 rfl) ?_
          obtain ⟨o19, ho19, h⟩ := Option.bind_eq_some_iff.mp h
          obtain ⟨v21, x20⟩ := o19
          replace h := un2_e h
          refine bq_callSi (As := [.int _, .int _]) S hK hD hA hP hS (cX9_has_k ho19) hd_yX9_has ml_X9_208 st_yX9_has ⟨rfl, rfl⟩ ⟨by decide, by decide⟩ rfl hl.1 rfl (Nat.le_of_ble_eq_true rfl) ⟨Nat.zero_le _, Nat.zero_le _⟩ dX9_areOthers_47 (fun H locs hP hS => ?_)
          refine lv_if_eq (tgt := 55) hx hb dX9_areOthers_50 (by decide) (fun c22 => ?_) (fun c22 => ?_)
          · replace h := (if_pos c22).symm.trans h
            refine lv_iload hx hb dX9_areOthers_55 (lv_at hl 5 rfl) ?_
            refine lv_iload hx hb dX9_areOthers_57 (lv_at hl 0 rfl) ?_
            obtain ⟨o23, ho23, h⟩ := Option.bind_eq_some_iff.mp h
            obtain ⟨v25, x24⟩ := o23
            replace h := un2_e h
            refine bq_callSi (As := [.int _]) S hK hD hA hP hS (cX9_bit_k ho23) hd_yX9_bit ml_X9_211 st_yX9_bit ⟨rfl, rfl⟩ ⟨by decide, by decide⟩ rfl hl.1 rfl (Nat.le_of_ble_eq_true rfl) ⟨Nat.zero_le _, Nat.zero_le _⟩ dX9_areOthers_59 (fun H locs hP hS => ?_)
            refine lv_ior hx hb dX9_areOthers_62 ?_
            refine lv_topi (fun v26 hv26 => ?_)
            replace h := bq_bv h hv26
            refine lv_istore (lv' := [(4, .int v26), (6, .int v18), (0, .ref (a 0)), (1, .ref (a 35)), (2, .int v6), (3, .int v7), (5, .int v9)]) hx hb dX9_areOthers_63 hl (by decide) rfl (fun ls hl => ?_)
            obtain ⟨v27, hv27, h⟩ := bq_b h
            refine lv_iinc (v := v27) (lv' := [(5, .int v27), (4, .int v26), (6, .int v18), (0, .ref (a 0)), (1, .ref (a 35)), (2, .int v6), (3, .int v7)]) hx hb dX9_areOthers_65 hl (k := 6) rfl (by rw [hv27]; rfl) (by decide) rfl (fun ls hl => ?_)
            refine lv_goto (tgt := 12) hx hb dX9_areOthers_68 (by decide) ?_
            cases h
            exact ih _ _ _ _ _ _ _ hw hP hS (lv_sub hl [3, 4, 5, 6, 1, 0] rfl) kx kr
          · replace h := (if_neg c22).symm.trans h
            refine lv_iconst (v := (0 : Int32)) hx hb dX9_areOthers_53 (by decide) ?_
            obtain ⟨e1, e2⟩ := Prod.mk.inj (hret _ h)
            exact hR _ _ _ _ _ (congrArg some e1) rfl (by rw [e2]; exact hP) hS dX9_areOthers_54
        · replace h := (if_pos c16).symm.trans h
          refine lv_iconst (v := (0 : Int32)) hx hb dX9_areOthers_34 (by decide) ?_
          obtain ⟨e1, e2⟩ := Prod.mk.inj (hret _ h)
          exact hR _ _ _ _ _ (congrArg some e1) rfl (by rw [e2]; exact hP) hS dX9_areOthers_35
  obtain ⟨e28, he28, h⟩ := Option.bind_eq_some_iff.mp h
  refine hl12 _ _ n _ _ _ e28 _ _ _ he28 hP hS (lv_sub hl [2, 3, 4, 5, 1, 0] rfl) (fun H locs ls v29 v30 x31 hz hP hS hl => ?_) (fun z hz => hret z (bq_ir h hz :))
  replace h := bq_il h hz
  replace h := un3_e h
  refine lv_iconst (v := (1 : Int32)) hx hb dX9_areOthers_71 (by decide) ?_
  obtain ⟨e1, e2⟩ := Prod.mk.inj (hret _ h)
  exact hR _ _ _ _ _ (congrArg some e1) rfl (by rw [e2]; exact hP) hS dX9_areOthers_72
