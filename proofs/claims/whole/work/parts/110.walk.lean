set_option maxHeartbeats 4000000 in
set_option maxRecDepth 100000 in
theorem cX9_copy_k_0_s0_sb {l : Launch} {D : va_G} {a : Nat → Nat} {k : Nat → ClassId} {p1 : Int32} {p2 : Int32} {p3 : Int32} {p4 : Int32} {p5 : Int32} {x0 xz : bq_S} {rz : Int32} (hkp1 : p1.toNatClampNeg = 0) (hkp3 : ¬ p3.toNatClampNeg < 4) (h : fX9_copy  p1 p2 p3 p4 p5 x0 = some (rz, xz)) : bq_M l D bq_cl (bq_ty k) (bq_wC a k) yX9_copy cX9_copy 8 (some .int) { frames := 1, cells := 0, slots := 0, locals := 60 } [.ref (a 0), .int p1, .int p2, .int p3, .int p4, .int p5] x0 (some rz) xz := by
  refine bq_ofW RX9 [(0, .ref (a 0)), (1, .int p1), (2, .int p2), (3, .int p3), (4, .int p4), (5, .int p5)] (by decide +kernel) rfl (Nat.le_of_ble_eq_true rfl) rfl (bq_adC a k) ?_
  intro p e s m below meth c A Q ls S hK hD hA hR hS hP hl
  have hx := S.1; have hb := S.2.1; have hml := S.2.2.1; have hown := S.2.2.2.1; have hts := S.2.2.2.2
  have hret : ∀ z, some z = some (rz, xz) → (rz, xz) = z := fun z h => (Option.some.inj h).symm
  unfold fX9_copy at h
  refine lv_iload_n hx hb dX9_copy_0 rfl (lv_at hl 1 rfl) ?_
  obtain ⟨o1, ho1, h⟩ := Option.bind_eq_some_iff.mp h
  obtain ⟨v3, x2⟩ := o1
  replace h := un2_e h
  refine bq_callSi (As := [.int _]) S hK hD hA hP hS (cX9_isSheet_k ho1) hd_yX9_isSheet ml_X9_252 st_yX9_isSheet ⟨rfl, rfl⟩ ⟨by decide, by decide⟩ rfl hl.1 rfl (Nat.le_of_ble_eq_true rfl) ⟨Nat.zero_le _, Nat.zero_le _⟩ dX9_copy_1 (fun H locs hP hS => ?_)
  refine lv_if_eq (tgt := 14) hx hb dX9_copy_4 (by decide) (fun c4 => ?_) (fun c4 => ?_)
  · replace h := (if_pos c4).symm.trans h
    refine lv_iconst (v := (-1 : Int32)) hx hb dX9_copy_14 (by decide) ?_
    obtain ⟨e1, e2⟩ := Prod.mk.inj (hret _ h)
    exact hR _ _ _ _ _ (congrArg some e1) rfl (by rw [e2]; exact hP) hS dX9_copy_15
  · replace h := (if_neg c4).symm.trans h
    refine lv_iload_n hx hb dX9_copy_7 rfl (lv_at hl 3 rfl) ?_
    obtain ⟨o5, ho5, h⟩ := Option.bind_eq_some_iff.mp h
    obtain ⟨v7, x6⟩ := o5
    replace h := un2_e h
    refine bq_callSi (As := [.int _]) S hK hD hA hP hS (cX9_isSheet_k ho5) hd_yX9_isSheet ml_X9_252 st_yX9_isSheet ⟨rfl, rfl⟩ ⟨by decide, by decide⟩ rfl hl.1 rfl (Nat.le_of_ble_eq_true rfl) ⟨Nat.zero_le _, Nat.zero_le _⟩ dX9_copy_8 (fun H locs hP hS => ?_)
    refine lv_if_ne (tgt := 16) hx hb dX9_copy_11 (by decide) (fun c8 => ?_) (fun c8 => ?_)
    · replace h := (if_neg c8).symm.trans h
      refine lv_aload_n hx hb dX9_copy_16 rfl (lv_at hl 0 rfl) ?_
      refine bq_get (q0 := 0) S hK hP fl_X9_70_X9_9 rfl rfl rfl dX9_copy_17 ?_
      refine lv_iload_n hx hb dX9_copy_20 rfl (lv_at hl 1 rfl) ?_
      obtain ⟨g9, h⟩ := bq_gd h
      refine va_aldq (D := D) hx hb hK hP 33 3 rfl rfl g9 dX9_copy_21 ?_
      rw [hkp1]
      try rw [hkp1] at h
      refine W.eq (g2 := F0 m 22 ls [.ref (a 34)]) rfl ?_
      refine lv_astore (lv' := [(6, .ref (a 34)), (0, .ref (a 0)), (1, .int p1), (2, .int p2), (3, .int p3), (4, .int p4), (5, .int p5)]) hx hb dX9_copy_22 hl (by decide) rfl (fun ls hl => ?_)
      refine lv_aload_n hx hb dX9_copy_24 rfl (lv_at hl 1 rfl) ?_
      refine bq_get (q0 := 0) S hK hP fl_X9_70_X9_9 rfl rfl rfl dX9_copy_25 ?_
      refine lv_iload_n hx hb dX9_copy_28 rfl (lv_at hl 4 rfl) ?_
      obtain ⟨g10, h⟩ := bq_gd h
      exact absurd (bq_lt g10) hkp3
    · replace h := (if_pos c8).symm.trans h
      refine lv_iconst (v := (-1 : Int32)) hx hb dX9_copy_14 (by decide) ?_
      obtain ⟨e1, e2⟩ := Prod.mk.inj (hret _ h)
      exact hR _ _ _ _ _ (congrArg some e1) rfl (by rw [e2]; exact hP) hS dX9_copy_15
set_option maxHeartbeats 4000000 in
set_option maxRecDepth 100000 in
theorem cX9_copy_k_0_s1_s0 {l : Launch} {D : va_G} {a : Nat → Nat} {k : Nat → ClassId} {p1 : Int32} {p2 : Int32} {p3 : Int32} {p4 : Int32} {p5 : Int32} {x0 xz : bq_S} {rz : Int32} (hkp1 : p1.toNatClampNeg = 1) (hkp3 : p3.toNatClampNeg = 0) (h : fX9_copy  p1 p2 p3 p4 p5 x0 = some (rz, xz)) : bq_M l D bq_cl (bq_ty k) (bq_wC a k) yX9_copy cX9_copy 8 (some .int) { frames := 1, cells := 0, slots := 0, locals := 60 } [.ref (a 0), .int p1, .int p2, .int p3, .int p4, .int p5] x0 (some rz) xz := by
  refine bq_ofW RX9 [(0, .ref (a 0)), (1, .int p1), (2, .int p2), (3, .int p3), (4, .int p4), (5, .int p5)] (by decide +kernel) rfl (Nat.le_of_ble_eq_true rfl) rfl (bq_adC a k) ?_
  intro p e s m below meth c A Q ls S hK hD hA hR hS hP hl
  have hx := S.1; have hb := S.2.1; have hml := S.2.2.1; have hown := S.2.2.2.1; have hts := S.2.2.2.2
  have hret : ∀ z, some z = some (rz, xz) → (rz, xz) = z := fun z h => (Option.some.inj h).symm
  unfold fX9_copy at h
  refine lv_iload_n hx hb dX9_copy_0 rfl (lv_at hl 1 rfl) ?_
  obtain ⟨o1, ho1, h⟩ := Option.bind_eq_some_iff.mp h
  obtain ⟨v3, x2⟩ := o1
  replace h := un2_e h
  refine bq_callSi (As := [.int _]) S hK hD hA hP hS (cX9_isSheet_k ho1) hd_yX9_isSheet ml_X9_252 st_yX9_isSheet ⟨rfl, rfl⟩ ⟨by decide, by decide⟩ rfl hl.1 rfl (Nat.le_of_ble_eq_true rfl) ⟨Nat.zero_le _, Nat.zero_le _⟩ dX9_copy_1 (fun H locs hP hS => ?_)
  refine lv_if_eq (tgt := 14) hx hb dX9_copy_4 (by decide) (fun c4 => ?_) (fun c4 => ?_)
  · replace h := (if_pos c4).symm.trans h
    refine lv_iconst (v := (-1 : Int32)) hx hb dX9_copy_14 (by decide) ?_
    obtain ⟨e1, e2⟩ := Prod.mk.inj (hret _ h)
    exact hR _ _ _ _ _ (congrArg some e1) rfl (by rw [e2]; exact hP) hS dX9_copy_15
  · replace h := (if_neg c4).symm.trans h
    refine lv_iload_n hx hb dX9_copy_7 rfl (lv_at hl 3 rfl) ?_
    obtain ⟨o5, ho5, h⟩ := Option.bind_eq_some_iff.mp h
    obtain ⟨v7, x6⟩ := o5
    replace h := un2_e h
    refine bq_callSi (As := [.int _]) S hK hD hA hP hS (cX9_isSheet_k ho5) hd_yX9_isSheet ml_X9_252 st_yX9_isSheet ⟨rfl, rfl⟩ ⟨by decide, by decide⟩ rfl hl.1 rfl (Nat.le_of_ble_eq_true rfl) ⟨Nat.zero_le _, Nat.zero_le _⟩ dX9_copy_8 (fun H locs hP hS => ?_)
    refine lv_if_ne (tgt := 16) hx hb dX9_copy_11 (by decide) (fun c8 => ?_) (fun c8 => ?_)
    · replace h := (if_neg c8).symm.trans h
      refine lv_aload_n hx hb dX9_copy_16 rfl (lv_at hl 0 rfl) ?_
      refine bq_get (q0 := 0) S hK hP fl_X9_70_X9_9 rfl rfl rfl dX9_copy_17 ?_
      refine lv_iload_n hx hb dX9_copy_20 rfl (lv_at hl 1 rfl) ?_
      obtain ⟨g9, h⟩ := bq_gd h
      refine va_aldq (D := D) hx hb hK hP 33 3 rfl rfl g9 dX9_copy_21 ?_
      rw [hkp1]
      try rw [hkp1] at h
      refine W.eq (g2 := F0 m 22 ls [.ref (a 36)]) rfl ?_
      refine lv_astore (lv' := [(6, .ref (a 36)), (0, .ref (a 0)), (1, .int p1), (2, .int p2), (3, .int p3), (4, .int p4), (5, .int p5)]) hx hb dX9_copy_22 hl (by decide) rfl (fun ls hl => ?_)
      refine lv_aload_n hx hb dX9_copy_24 rfl (lv_at hl 1 rfl) ?_
      refine bq_get (q0 := 0) S hK hP fl_X9_70_X9_9 rfl rfl rfl dX9_copy_25 ?_
      refine lv_iload_n hx hb dX9_copy_28 rfl (lv_at hl 4 rfl) ?_
      obtain ⟨g10, h⟩ := bq_gd h
      refine va_aldq (D := D) hx hb hK hP 33 3 rfl rfl g10 dX9_copy_29 ?_
      rw [hkp3]
      try rw [hkp3] at h
      refine W.eq (g2 := F0 m 30 ls [.ref (a 34)]) rfl ?_
      refine lv_astore (lv' := [(7, .ref (a 34)), (6, .ref (a 36)), (0, .ref (a 0)), (1, .int p1), (2, .int p2), (3, .int p3), (4, .int p4), (5, .int p5)]) hx hb dX9_copy_30 hl (by decide) rfl (fun ls hl => ?_)
      refine lv_aload hx hb dX9_copy_32 (lv_at hl 1 rfl) ?_
      refine bq_get (q0 := 36) S hK hP fl_X9_262_X6_1 rfl rfl rfl dX9_copy_34 ?_
      refine lv_iconst (v := (-1 : Int32)) hx hb dX9_copy_37 (by decide) ?_
      refine lv_icmp_eq (tgt := 50) hx hb dX9_copy_38 (by decide) (fun c11 => ?_) (fun c11 => ?_)
      · replace h := (if_pos c11).symm.trans h
        refine lv_bipush (v := (-11 : Int32)) hx hb dX9_copy_50 (by decide) ?_
        obtain ⟨e1, e2⟩ := Prod.mk.inj (hret _ h)
        exact hR _ _ _ _ _ (congrArg some e1) rfl (by rw [e2]; exact hP) hS dX9_copy_52
      · replace h := (if_neg c11).symm.trans h
        refine lv_aload hx hb dX9_copy_41 (lv_at hl 0 rfl) ?_
        refine bq_get (q0 := 34) S hK hP fl_X9_262_X6_1 rfl rfl rfl dX9_copy_43 ?_
        refine lv_iconst (v := (-1 : Int32)) hx hb dX9_copy_46 (by decide) ?_
        refine lv_icmp_ne (tgt := 53) hx hb dX9_copy_47 (by decide) (fun c12 => ?_) (fun c12 => ?_)
        · replace h := (if_neg c12).symm.trans h
          refine lv_aload hx hb dX9_copy_53 (lv_at hl 1 rfl) ?_
          refine bq_get (q0 := 36) S hK hP fl_X9_262_X6_1 rfl rfl rfl dX9_copy_55 ?_
          refine lv_aload hx hb dX9_copy_58 (lv_at hl 0 rfl) ?_
          refine bq_get (q0 := 34) S hK hP fl_X9_262_X6_1 rfl rfl rfl dX9_copy_60 ?_
          refine lv_icmp_eq (tgt := 69) hx hb dX9_copy_63 (by decide) (fun c13 => ?_) (fun c13 => ?_)
          · replace h := (if_pos c13).symm.trans h
            refine lv_aload hx hb dX9_copy_69 (lv_at hl 1 rfl) ?_
            refine lv_iload_n hx hb dX9_copy_71 rfl (lv_at hl 4 rfl) ?_
            refine lv_iload hx hb dX9_copy_72 (lv_at hl 7 rfl) ?_
            obtain ⟨o14, ho14, h⟩ := Option.bind_eq_some_iff.mp h
            obtain ⟨v16, x15⟩ := o14
            replace h := un2_e h
            refine bq_callVi (q0 := 36) (As := [.int _, .int _]) S hK hD hA hP hS (cX6_holds_k_36 ho14) hd_yX6_holds ml_X9_270 in_yX6_holds (hts _ sl_X6_X6_yX6_holds) ⟨rfl, rfl⟩ ⟨by decide, by decide⟩ rfl rfl rfl hl.1 rfl (Nat.le_of_ble_eq_true rfl) ⟨Nat.zero_le _, Nat.zero_le _⟩ dX9_copy_74 (fun H locs hP hS => ?_)
            refine lv_if_eq (tgt := 92) hx hb dX9_copy_77 (by decide) (fun c17 => ?_) (fun c17 => ?_)
            · replace h := (if_pos c17).symm.trans h
              refine lv_bipush (v := (-13 : Int32)) hx hb dX9_copy_92 (by decide) ?_
              obtain ⟨e1, e2⟩ := Prod.mk.inj (hret _ h)
              exact hR _ _ _ _ _ (congrArg some e1) rfl (by rw [e2]; exact hP) hS dX9_copy_94
            · replace h := (if_neg c17).symm.trans h
              refine lv_aload hx hb dX9_copy_80 (lv_at hl 0 rfl) ?_
              refine lv_iload hx hb dX9_copy_82 (lv_at hl 6 rfl) ?_
              refine lv_iload hx hb dX9_copy_84 (lv_at hl 7 rfl) ?_
              obtain ⟨o18, ho18, h⟩ := Option.bind_eq_some_iff.mp h
              obtain ⟨v20, x19⟩ := o18
              replace h := un2_e h
              refine bq_callVi (q0 := 34) (As := [.int _, .int _]) S hK hD hA hP hS (cX6_holds_k_34 ho18) hd_yX6_holds ml_X9_270 in_yX6_holds (hts _ sl_X6_X6_yX6_holds) ⟨rfl, rfl⟩ ⟨by decide, by decide⟩ rfl rfl rfl hl.1 rfl (Nat.le_of_ble_eq_true rfl) ⟨Nat.zero_le _, Nat.zero_le _⟩ dX9_copy_86 (fun H locs hP hS => ?_)
              refine lv_if_ne (tgt := 95) hx hb dX9_copy_89 (by decide) (fun c21 => ?_) (fun c21 => ?_)
              · replace h := (if_neg c21).symm.trans h
                refine lv_aload hx hb dX9_copy_95 (lv_at hl 1 rfl) ?_
                refine bq_get (q0 := 36) S hK hP fl_X9_237_X6_0 rfl rfl rfl dX9_copy_97 ?_
                refine lv_iload_n hx hb dX9_copy_100 rfl (lv_at hl 4 rfl) ?_
                refine lv_aload hx hb dX9_copy_101 (lv_at hl 0 rfl) ?_
                refine bq_get (q0 := 34) S hK hP fl_X9_237_X6_0 rfl rfl rfl dX9_copy_103 ?_
                refine lv_iload hx hb dX9_copy_106 (lv_at hl 6 rfl) ?_
                refine lv_iload hx hb dX9_copy_108 (lv_at hl 7 rfl) ?_
                obtain ⟨⟨g221, g222, g223, g224, g225⟩, h⟩ := bq_gp h
                obtain ⟨x23, hx23, h⟩ := bq_b h
                refine va_copyl (D := D) hx hb (hml.trans hl.1.symm) hown (hts _ ml_X9_273) (hts _ acn) (hts _ acs) (hts _ aci) hK hP (hD _) hS 37 35 1 1 rfl rfl rfl rfl rfl g221 g222 g223 g224 g225 (fun _ _ => rfl) (by decide) (by decide +kernel) dX9_copy_110 (fun H locs hP _ hS => ?_)
                replace hP : va_P D bq_cl (bq_wC a k x23) H := by rw [hx23]; exact hP
                refine lv_iload hx hb dX9_copy_113 (lv_at hl 7 rfl) ?_
                obtain ⟨e1, e2⟩ := Prod.mk.inj (hret _ h)
                exact hR _ _ _ _ _ (congrArg some e1) rfl (by rw [e2]; exact hP) hS dX9_copy_115
              · replace h := (if_pos c21).symm.trans h
                refine lv_bipush (v := (-13 : Int32)) hx hb dX9_copy_92 (by decide) ?_
                obtain ⟨e1, e2⟩ := Prod.mk.inj (hret _ h)
                exact hR _ _ _ _ _ (congrArg some e1) rfl (by rw [e2]; exact hP) hS dX9_copy_94
          · replace h := (if_neg c13).symm.trans h
            refine lv_bipush (v := (-12 : Int32)) hx hb dX9_copy_66 (by decide) ?_
            obtain ⟨e1, e2⟩ := Prod.mk.inj (hret _ h)
            exact hR _ _ _ _ _ (congrArg some e1) rfl (by rw [e2]; exact hP) hS dX9_copy_68
        · replace h := (if_pos c12).symm.trans h
          refine lv_bipush (v := (-11 : Int32)) hx hb dX9_copy_50 (by decide) ?_
          obtain ⟨e1, e2⟩ := Prod.mk.inj (hret _ h)
          exact hR _ _ _ _ _ (congrArg some e1) rfl (by rw [e2]; exact hP) hS dX9_copy_52
    · replace h := (if_pos c8).symm.trans h
      refine lv_iconst (v := (-1 : Int32)) hx hb dX9_copy_14 (by decide) ?_
      obtain ⟨e1, e2⟩ := Prod.mk.inj (hret _ h)
      exact hR _ _ _ _ _ (congrArg some e1) rfl (by rw [e2]; exact hP) hS dX9_copy_15
set_option maxHeartbeats 4000000 in
set_option maxRecDepth 100000 in
theorem cX9_copy_k_0_s1_s1 {l : Launch} {D : va_G} {a : Nat → Nat} {k : Nat → ClassId} {p1 : Int32} {p2 : Int32} {p3 : Int32} {p4 : Int32} {p5 : Int32} {x0 xz : bq_S} {rz : Int32} (hkp1 : p1.toNatClampNeg = 1) (hkp3 : p3.toNatClampNeg = 1) (h : fX9_copy  p1 p2 p3 p4 p5 x0 = some (rz, xz)) : bq_M l D bq_cl (bq_ty k) (bq_wC a k) yX9_copy cX9_copy 8 (some .int) { frames := 1, cells := 0, slots := 0, locals := 60 } [.ref (a 0), .int p1, .int p2, .int p3, .int p4, .int p5] x0 (some rz) xz := by
  refine bq_ofW RX9 [(0, .ref (a 0)), (1, .int p1), (2, .int p2), (3, .int p3), (4, .int p4), (5, .int p5)] (by decide +kernel) rfl (Nat.le_of_ble_eq_true rfl) rfl (bq_adC a k) ?_
  intro p e s m below meth c A Q ls S hK hD hA hR hS hP hl
  have hx := S.1; have hb := S.2.1; have hml := S.2.2.1; have hown := S.2.2.2.1; have hts := S.2.2.2.2
  have hret : ∀ z, some z = some (rz, xz) → (rz, xz) = z := fun z h => (Option.some.inj h).symm
  unfold fX9_copy at h
  refine lv_iload_n hx hb dX9_copy_0 rfl (lv_at hl 1 rfl) ?_
  obtain ⟨o1, ho1, h⟩ := Option.bind_eq_some_iff.mp h
  obtain ⟨v3, x2⟩ := o1
  replace h := un2_e h
  refine bq_callSi (As := [.int _]) S hK hD hA hP hS (cX9_isSheet_k ho1) hd_yX9_isSheet ml_X9_252 st_yX9_isSheet ⟨rfl, rfl⟩ ⟨by decide, by decide⟩ rfl hl.1 rfl (Nat.le_of_ble_eq_true rfl) ⟨Nat.zero_le _, Nat.zero_le _⟩ dX9_copy_1 (fun H locs hP hS => ?_)
  refine lv_if_eq (tgt := 14) hx hb dX9_copy_4 (by decide) (fun c4 => ?_) (fun c4 => ?_)
  · replace h := (if_pos c4).symm.trans h
    refine lv_iconst (v := (-1 : Int32)) hx hb dX9_copy_14 (by decide) ?_
    obtain ⟨e1, e2⟩ := Prod.mk.inj (hret _ h)
    exact hR _ _ _ _ _ (congrArg some e1) rfl (by rw [e2]; exact hP) hS dX9_copy_15
  · replace h := (if_neg c4).symm.trans h
    refine lv_iload_n hx hb dX9_copy_7 rfl (lv_at hl 3 rfl) ?_
    obtain ⟨o5, ho5, h⟩ := Option.bind_eq_some_iff.mp h
    obtain ⟨v7, x6⟩ := o5
    replace h := un2_e h
    refine bq_callSi (As := [.int _]) S hK hD hA hP hS (cX9_isSheet_k ho5) hd_yX9_isSheet ml_X9_252 st_yX9_isSheet ⟨rfl, rfl⟩ ⟨by decide, by decide⟩ rfl hl.1 rfl (Nat.le_of_ble_eq_true rfl) ⟨Nat.zero_le _, Nat.zero_le _⟩ dX9_copy_8 (fun H locs hP hS => ?_)
    refine lv_if_ne (tgt := 16) hx hb dX9_copy_11 (by decide) (fun c8 => ?_) (fun c8 => ?_)
    · replace h := (if_neg c8).symm.trans h
      refine lv_aload_n hx hb dX9_copy_16 rfl (lv_at hl 0 rfl) ?_
      refine bq_get (q0 := 0) S hK hP fl_X9_70_X9_9 rfl rfl rfl dX9_copy_17 ?_
      refine lv_iload_n hx hb dX9_copy_20 rfl (lv_at hl 1 rfl) ?_
      obtain ⟨g9, h⟩ := bq_gd h
      refine va_aldq (D := D) hx hb hK hP 33 3 rfl rfl g9 dX9_copy_21 ?_
      rw [hkp1]
      try rw [hkp1] at h
      refine W.eq (g2 := F0 m 22 ls [.ref (a 36)]) rfl ?_
      refine lv_astore (lv' := [(6, .ref (a 36)), (0, .ref (a 0)), (1, .int p1), (2, .int p2), (3, .int p3), (4, .int p4), (5, .int p5)]) hx hb dX9_copy_22 hl (by decide) rfl (fun ls hl => ?_)
      refine lv_aload_n hx hb dX9_copy_24 rfl (lv_at hl 1 rfl) ?_
      refine bq_get (q0 := 0) S hK hP fl_X9_70_X9_9 rfl rfl rfl dX9_copy_25 ?_
      refine lv_iload_n hx hb dX9_copy_28 rfl (lv_at hl 4 rfl) ?_
      obtain ⟨g10, h⟩ := bq_gd h
      refine va_aldq (D := D) hx hb hK hP 33 3 rfl rfl g10 dX9_copy_29 ?_
      rw [hkp3]
      try rw [hkp3] at h
      refine W.eq (g2 := F0 m 30 ls [.ref (a 36)]) rfl ?_
      refine lv_astore (lv' := [(7, .ref (a 36)), (6, .ref (a 36)), (0, .ref (a 0)), (1, .int p1), (2, .int p2), (3, .int p3), (4, .int p4), (5, .int p5)]) hx hb dX9_copy_30 hl (by decide) rfl (fun ls hl => ?_)
      refine lv_aload hx hb dX9_copy_32 (lv_at hl 1 rfl) ?_
      refine bq_get (q0 := 36) S hK hP fl_X9_262_X6_1 rfl rfl rfl dX9_copy_34 ?_
      refine lv_iconst (v := (-1 : Int32)) hx hb dX9_copy_37 (by decide) ?_
      refine lv_icmp_eq (tgt := 50) hx hb dX9_copy_38 (by decide) (fun c11 => ?_) (fun c11 => ?_)
      · replace h := (if_pos c11).symm.trans h
        refine lv_bipush (v := (-11 : Int32)) hx hb dX9_copy_50 (by decide) ?_
        obtain ⟨e1, e2⟩ := Prod.mk.inj (hret _ h)
        exact hR _ _ _ _ _ (congrArg some e1) rfl (by rw [e2]; exact hP) hS dX9_copy_52
      · replace h := (if_neg c11).symm.trans h
        refine lv_aload hx hb dX9_copy_41 (lv_at hl 0 rfl) ?_
        refine bq_get (q0 := 36) S hK hP fl_X9_262_X6_1 rfl rfl rfl dX9_copy_43 ?_
        refine lv_iconst (v := (-1 : Int32)) hx hb dX9_copy_46 (by decide) ?_
        refine lv_icmp_ne (tgt := 53) hx hb dX9_copy_47 (by decide) (fun c12 => ?_) (fun c12 => ?_)
        · replace h := (if_neg c12).symm.trans h
          refine lv_aload hx hb dX9_copy_53 (lv_at hl 1 rfl) ?_
          refine bq_get (q0 := 36) S hK hP fl_X9_262_X6_1 rfl rfl rfl dX9_copy_55 ?_
          refine lv_aload hx hb dX9_copy_58 (lv_at hl 0 rfl) ?_
          refine bq_get (q0 := 36) S hK hP fl_X9_262_X6_1 rfl rfl rfl dX9_copy_60 ?_
          refine lv_icmp_eq (tgt := 69) hx hb dX9_copy_63 (by decide) (fun c13 => ?_) (fun c13 => ?_)
          · replace h := (if_pos c13).symm.trans h
            refine lv_aload hx hb dX9_copy_69 (lv_at hl 1 rfl) ?_
            refine lv_iload_n hx hb dX9_copy_71 rfl (lv_at hl 4 rfl) ?_
            refine lv_iload hx hb dX9_copy_72 (lv_at hl 7 rfl) ?_
            obtain ⟨o14, ho14, h⟩ := Option.bind_eq_some_iff.mp h
            obtain ⟨v16, x15⟩ := o14
            replace h := un2_e h
            refine bq_callVi (q0 := 36) (As := [.int _, .int _]) S hK hD hA hP hS (cX6_holds_k_36 ho14) hd_yX6_holds ml_X9_270 in_yX6_holds (hts _ sl_X6_X6_yX6_holds) ⟨rfl, rfl⟩ ⟨by decide, by decide⟩ rfl rfl rfl hl.1 rfl (Nat.le_of_ble_eq_true rfl) ⟨Nat.zero_le _, Nat.zero_le _⟩ dX9_copy_74 (fun H locs hP hS => ?_)
            refine lv_if_eq (tgt := 92) hx hb dX9_copy_77 (by decide) (fun c17 => ?_) (fun c17 => ?_)
            · replace h := (if_pos c17).symm.trans h
              refine lv_bipush (v := (-13 : Int32)) hx hb dX9_copy_92 (by decide) ?_
              obtain ⟨e1, e2⟩ := Prod.mk.inj (hret _ h)
              exact hR _ _ _ _ _ (congrArg some e1) rfl (by rw [e2]; exact hP) hS dX9_copy_94
            · replace h := (if_neg c17).symm.trans h
              refine lv_aload hx hb dX9_copy_80 (lv_at hl 0 rfl) ?_
              refine lv_iload hx hb dX9_copy_82 (lv_at hl 6 rfl) ?_
              refine lv_iload hx hb dX9_copy_84 (lv_at hl 7 rfl) ?_
              obtain ⟨o18, ho18, h⟩ := Option.bind_eq_some_iff.mp h
              obtain ⟨v20, x19⟩ := o18
              replace h := un2_e h
              refine bq_callVi (q0 := 36) (As := [.int _, .int _]) S hK hD hA hP hS (cX6_holds_k_36 ho18) hd_yX6_holds ml_X9_270 in_yX6_holds (hts _ sl_X6_X6_yX6_holds) ⟨rfl, rfl⟩ ⟨by decide, by decide⟩ rfl rfl rfl hl.1 rfl (Nat.le_of_ble_eq_true rfl) ⟨Nat.zero_le _, Nat.zero_le _⟩ dX9_copy_86 (fun H locs hP hS => ?_)
              refine lv_if_ne (tgt := 95) hx hb dX9_copy_89 (by decide) (fun c21 => ?_) (fun c21 => ?_)
              · replace h := (if_neg c21).symm.trans h
                refine lv_aload hx hb dX9_copy_95 (lv_at hl 1 rfl) ?_
                refine bq_get (q0 := 36) S hK hP fl_X9_237_X6_0 rfl rfl rfl dX9_copy_97 ?_
                refine lv_iload_n hx hb dX9_copy_100 rfl (lv_at hl 4 rfl) ?_
                refine lv_aload hx hb dX9_copy_101 (lv_at hl 0 rfl) ?_
                refine bq_get (q0 := 36) S hK hP fl_X9_237_X6_0 rfl rfl rfl dX9_copy_103 ?_
                refine lv_iload hx hb dX9_copy_106 (lv_at hl 6 rfl) ?_
                refine lv_iload hx hb dX9_copy_108 (lv_at hl 7 rfl) ?_
                obtain ⟨⟨g221, g222, g223, g224, g225⟩, h⟩ := bq_gp h
                obtain ⟨x23, hx23, h⟩ := bq_b h
                refine va_copyl (D := D) hx hb (hml.trans hl.1.symm) hown (hts _ ml_X9_273) (hts _ acn) (hts _ acs) (hts _ aci) hK hP (hD _) hS 37 37 1 1 rfl rfl rfl rfl rfl g221 g222 g223 g224 g225 (fun _ _ => rfl) (by decide) (by decide +kernel) dX9_copy_110 (fun H locs hP _ hS => ?_)
                replace hP : va_P D bq_cl (bq_wC a k x23) H := by rw [hx23]; exact hP
                refine lv_iload hx hb dX9_copy_113 (lv_at hl 7 rfl) ?_
                obtain ⟨e1, e2⟩ := Prod.mk.inj (hret _ h)
                exact hR _ _ _ _ _ (congrArg some e1) rfl (by rw [e2]; exact hP) hS dX9_copy_115
              · replace h := (if_pos c21).symm.trans h
                refine lv_bipush (v := (-13 : Int32)) hx hb dX9_copy_92 (by decide) ?_
                obtain ⟨e1, e2⟩ := Prod.mk.inj (hret _ h)
                exact hR _ _ _ _ _ (congrArg some e1) rfl (by rw [e2]; exact hP) hS dX9_copy_94
          · replace h := (if_neg c13).symm.trans h
            refine lv_bipush (v := (-12 : Int32)) hx hb dX9_copy_66 (by decide) ?_
            obtain ⟨e1, e2⟩ := Prod.mk.inj (hret _ h)
            exact hR _ _ _ _ _ (congrArg some e1) rfl (by rw [e2]; exact hP) hS dX9_copy_68
        · replace h := (if_pos c12).symm.trans h
          refine lv_bipush (v := (-11 : Int32)) hx hb dX9_copy_50 (by decide) ?_
          obtain ⟨e1, e2⟩ := Prod.mk.inj (hret _ h)
          exact hR _ _ _ _ _ (congrArg some e1) rfl (by rw [e2]; exact hP) hS dX9_copy_52
    · replace h := (if_pos c8).symm.trans h
      refine lv_iconst (v := (-1 : Int32)) hx hb dX9_copy_14 (by decide) ?_
      obtain ⟨e1, e2⟩ := Prod.mk.inj (hret _ h)
      exact hR _ _ _ _ _ (congrArg some e1) rfl (by rw [e2]; exact hP) hS dX9_copy_15
set_option maxHeartbeats 4000000 in
set_option maxRecDepth 100000 in
theorem cX9_copy_k_0_s1_s2 {l : Launch} {D : va_G} {a : Nat → Nat} {k : Nat → ClassId} {p1 : Int32} {p2 : Int32} {p3 : Int32} {p4 : Int32} {p5 : Int32} {x0 xz : bq_S} {rz : Int32} (hkp1 : p1.toNatClampNeg = 1) (hkp3 : p3.toNatClampNeg = 2) (h : fX9_copy  p1 p2 p3 p4 p5 x0 = some (rz, xz)) : bq_M l D bq_cl (bq_ty k) (bq_wC a k) yX9_copy cX9_copy 8 (some .int) { frames := 1, cells := 0, slots := 0, locals := 60 } [.ref (a 0), .int p1, .int p2, .int p3, .int p4, .int p5] x0 (some rz) xz := by
  refine bq_ofW RX9 [(0, .ref (a 0)), (1, .int p1), (2, .int p2), (3, .int p3), (4, .int p4), (5, .int p5)] (by decide +kernel) rfl (Nat.le_of_ble_eq_true rfl) rfl (bq_adC a k) ?_
  intro p e s m below meth c A Q ls S hK hD hA hR hS hP hl
  have hx := S.1; have hb := S.2.1; have hml := S.2.2.1; have hown := S.2.2.2.1; have hts := S.2.2.2.2
  have hret : ∀ z, some z = some (rz, xz) → (rz, xz) = z := fun z h => (Option.some.inj h).symm
  unfold fX9_copy at h
  refine lv_iload_n hx hb dX9_copy_0 rfl (lv_at hl 1 rfl) ?_
  obtain ⟨o1, ho1, h⟩ := Option.bind_eq_some_iff.mp h
  obtain ⟨v3, x2⟩ := o1
  replace h := un2_e h
  refine bq_callSi (As := [.int _]) S hK hD hA hP hS (cX9_isSheet_k ho1) hd_yX9_isSheet ml_X9_252 st_yX9_isSheet ⟨rfl, rfl⟩ ⟨by decide, by decide⟩ rfl hl.1 rfl (Nat.le_of_ble_eq_true rfl) ⟨Nat.zero_le _, Nat.zero_le _⟩ dX9_copy_1 (fun H locs hP hS => ?_)
  refine lv_if_eq (tgt := 14) hx hb dX9_copy_4 (by decide) (fun c4 => ?_) (fun c4 => ?_)
  · replace h := (if_pos c4).symm.trans h
    refine lv_iconst (v := (-1 : Int32)) hx hb dX9_copy_14 (by decide) ?_
    obtain ⟨e1, e2⟩ := Prod.mk.inj (hret _ h)
    exact hR _ _ _ _ _ (congrArg some e1) rfl (by rw [e2]; exact hP) hS dX9_copy_15
  · replace h := (if_neg c4).symm.trans h
    refine lv_iload_n hx hb dX9_copy_7 rfl (lv_at hl 3 rfl) ?_
    obtain ⟨o5, ho5, h⟩ := Option.bind_eq_some_iff.mp h
    obtain ⟨v7, x6⟩ := o5
    replace h := un2_e h
    refine bq_callSi (As := [.int _]) S hK hD hA hP hS (cX9_isSheet_k ho5) hd_yX9_isSheet ml_X9_252 st_yX9_isSheet ⟨rfl, rfl⟩ ⟨by decide, by decide⟩ rfl hl.1 rfl (Nat.le_of_ble_eq_true rfl) ⟨Nat.zero_le _, Nat.zero_le _⟩ dX9_copy_8 (fun H locs hP hS => ?_)
    refine lv_if_ne (tgt := 16) hx hb dX9_copy_11 (by decide) (fun c8 => ?_) (fun c8 => ?_)
    · replace h := (if_neg c8).symm.trans h
      refine lv_aload_n hx hb dX9_copy_16 rfl (lv_at hl 0 rfl) ?_
      refine bq_get (q0 := 0) S hK hP fl_X9_70_X9_9 rfl rfl rfl dX9_copy_17 ?_
      refine lv_iload_n hx hb dX9_copy_20 rfl (lv_at hl 1 rfl) ?_
      obtain ⟨g9, h⟩ := bq_gd h
      refine va_aldq (D := D) hx hb hK hP 33 3 rfl rfl g9 dX9_copy_21 ?_
      rw [hkp1]
      try rw [hkp1] at h
      refine W.eq (g2 := F0 m 22 ls [.ref (a 36)]) rfl ?_
      refine lv_astore (lv' := [(6, .ref (a 36)), (0, .ref (a 0)), (1, .int p1), (2, .int p2), (3, .int p3), (4, .int p4), (5, .int p5)]) hx hb dX9_copy_22 hl (by decide) rfl (fun ls hl => ?_)
      refine lv_aload_n hx hb dX9_copy_24 rfl (lv_at hl 1 rfl) ?_
      refine bq_get (q0 := 0) S hK hP fl_X9_70_X9_9 rfl rfl rfl dX9_copy_25 ?_
      refine lv_iload_n hx hb dX9_copy_28 rfl (lv_at hl 4 rfl) ?_
      obtain ⟨g10, h⟩ := bq_gd h
      refine va_aldq (D := D) hx hb hK hP 33 3 rfl rfl g10 dX9_copy_29 ?_
      rw [hkp3]
      try rw [hkp3] at h
      refine W.eq (g2 := F0 m 30 ls [.ref (a 38)]) rfl ?_
      refine lv_astore (lv' := [(7, .ref (a 38)), (6, .ref (a 36)), (0, .ref (a 0)), (1, .int p1), (2, .int p2), (3, .int p3), (4, .int p4), (5, .int p5)]) hx hb dX9_copy_30 hl (by decide) rfl (fun ls hl => ?_)
      refine lv_aload hx hb dX9_copy_32 (lv_at hl 1 rfl) ?_
      refine bq_get (q0 := 36) S hK hP fl_X9_262_X6_1 rfl rfl rfl dX9_copy_34 ?_
      refine lv_iconst (v := (-1 : Int32)) hx hb dX9_copy_37 (by decide) ?_
      refine lv_icmp_eq (tgt := 50) hx hb dX9_copy_38 (by decide) (fun c11 => ?_) (fun c11 => ?_)
      · replace h := (if_pos c11).symm.trans h
        refine lv_bipush (v := (-11 : Int32)) hx hb dX9_copy_50 (by decide) ?_
        obtain ⟨e1, e2⟩ := Prod.mk.inj (hret _ h)
        exact hR _ _ _ _ _ (congrArg some e1) rfl (by rw [e2]; exact hP) hS dX9_copy_52
      · replace h := (if_neg c11).symm.trans h
        refine lv_aload hx hb dX9_copy_41 (lv_at hl 0 rfl) ?_
        refine bq_get (q0 := 38) S hK hP fl_X9_262_X6_1 rfl rfl rfl dX9_copy_43 ?_
        refine lv_iconst (v := (-1 : Int32)) hx hb dX9_copy_46 (by decide) ?_
        refine lv_icmp_ne (tgt := 53) hx hb dX9_copy_47 (by decide) (fun c12 => ?_) (fun c12 => ?_)
        · replace h := (if_neg c12).symm.trans h
          refine lv_aload hx hb dX9_copy_53 (lv_at hl 1 rfl) ?_
          refine bq_get (q0 := 36) S hK hP fl_X9_262_X6_1 rfl rfl rfl dX9_copy_55 ?_
          refine lv_aload hx hb dX9_copy_58 (lv_at hl 0 rfl) ?_
          refine bq_get (q0 := 38) S hK hP fl_X9_262_X6_1 rfl rfl rfl dX9_copy_60 ?_
          refine lv_icmp_eq (tgt := 69) hx hb dX9_copy_63 (by decide) (fun c13 => ?_) (fun c13 => ?_)
          · replace h := (if_pos c13).symm.trans h
            refine lv_aload hx hb dX9_copy_69 (lv_at hl 1 rfl) ?_
            refine lv_iload_n hx hb dX9_copy_71 rfl (lv_at hl 4 rfl) ?_
            refine lv_iload hx hb dX9_copy_72 (lv_at hl 7 rfl) ?_
            obtain ⟨o14, ho14, h⟩ := Option.bind_eq_some_iff.mp h
            obtain ⟨v16, x15⟩ := o14
            replace h := un2_e h
            refine bq_callVi (q0 := 36) (As := [.int _, .int _]) S hK hD hA hP hS (cX6_holds_k_36 ho14) hd_yX6_holds ml_X9_270 in_yX6_holds (hts _ sl_X6_X6_yX6_holds) ⟨rfl, rfl⟩ ⟨by decide, by decide⟩ rfl rfl rfl hl.1 rfl (Nat.le_of_ble_eq_true rfl) ⟨Nat.zero_le _, Nat.zero_le _⟩ dX9_copy_74 (fun H locs hP hS => ?_)
            refine lv_if_eq (tgt := 92) hx hb dX9_copy_77 (by decide) (fun c17 => ?_) (fun c17 => ?_)
            · replace h := (if_pos c17).symm.trans h
              refine lv_bipush (v := (-13 : Int32)) hx hb dX9_copy_92 (by decide) ?_
              obtain ⟨e1, e2⟩ := Prod.mk.inj (hret _ h)
              exact hR _ _ _ _ _ (congrArg some e1) rfl (by rw [e2]; exact hP) hS dX9_copy_94
            · replace h := (if_neg c17).symm.trans h
              refine lv_aload hx hb dX9_copy_80 (lv_at hl 0 rfl) ?_
              refine lv_iload hx hb dX9_copy_82 (lv_at hl 6 rfl) ?_
              refine lv_iload hx hb dX9_copy_84 (lv_at hl 7 rfl) ?_
              obtain ⟨o18, ho18, h⟩ := Option.bind_eq_some_iff.mp h
              obtain ⟨v20, x19⟩ := o18
              replace h := un2_e h
              refine bq_callVi (q0 := 38) (As := [.int _, .int _]) S hK hD hA hP hS (cX6_holds_k_38 ho18) hd_yX6_holds ml_X9_270 in_yX6_holds (hts _ sl_X6_X6_yX6_holds) ⟨rfl, rfl⟩ ⟨by decide, by decide⟩ rfl rfl rfl hl.1 rfl (Nat.le_of_ble_eq_true rfl) ⟨Nat.zero_le _, Nat.zero_le _⟩ dX9_copy_86 (fun H locs hP hS => ?_)
              refine lv_if_ne (tgt := 95) hx hb dX9_copy_89 (by decide) (fun c21 => ?_) (fun c21 => ?_)
              · replace h := (if_neg c21).symm.trans h
                refine lv_aload hx hb dX9_copy_95 (lv_at hl 1 rfl) ?_
                refine bq_get (q0 := 36) S hK hP fl_X9_237_X6_0 rfl rfl rfl dX9_copy_97 ?_
                refine lv_iload_n hx hb dX9_copy_100 rfl (lv_at hl 4 rfl) ?_
                refine lv_aload hx hb dX9_copy_101 (lv_at hl 0 rfl) ?_
                refine bq_get (q0 := 38) S hK hP fl_X9_237_X6_0 rfl rfl rfl dX9_copy_103 ?_
                refine lv_iload hx hb dX9_copy_106 (lv_at hl 6 rfl) ?_
                refine lv_iload hx hb dX9_copy_108 (lv_at hl 7 rfl) ?_
                obtain ⟨⟨g221, g222, g223, g224, g225⟩, h⟩ := bq_gp h
                obtain ⟨x23, hx23, h⟩ := bq_b h
                refine va_copyl (D := D) hx hb (hml.trans hl.1.symm) hown (hts _ ml_X9_273) (hts _ acn) (hts _ acs) (hts _ aci) hK hP (hD _) hS 37 39 1 1 rfl rfl rfl rfl rfl g221 g222 g223 g224 g225 (fun _ _ => rfl) (by decide) (by decide +kernel) dX9_copy_110 (fun H locs hP _ hS => ?_)
                replace hP : va_P D bq_cl (bq_wC a k x23) H := by rw [hx23]; exact hP
                refine lv_iload hx hb dX9_copy_113 (lv_at hl 7 rfl) ?_
                obtain ⟨e1, e2⟩ := Prod.mk.inj (hret _ h)
                exact hR _ _ _ _ _ (congrArg some e1) rfl (by rw [e2]; exact hP) hS dX9_copy_115
              · replace h := (if_pos c21).symm.trans h
                refine lv_bipush (v := (-13 : Int32)) hx hb dX9_copy_92 (by decide) ?_
                obtain ⟨e1, e2⟩ := Prod.mk.inj (hret _ h)
                exact hR _ _ _ _ _ (congrArg some e1) rfl (by rw [e2]; exact hP) hS dX9_copy_94
          · replace h := (if_neg c13).symm.trans h
            refine lv_bipush (v := (-12 : Int32)) hx hb dX9_copy_66 (by decide) ?_
            obtain ⟨e1, e2⟩ := Prod.mk.inj (hret _ h)
            exact hR _ _ _ _ _ (congrArg some e1) rfl (by rw [e2]; exact hP) hS dX9_copy_68
        · replace h := (if_pos c12).symm.trans h
          refine lv_bipush (v := (-11 : Int32)) hx hb dX9_copy_50 (by decide) ?_
          obtain ⟨e1, e2⟩ := Prod.mk.inj (hret _ h)
          exact hR _ _ _ _ _ (congrArg some e1) rfl (by rw [e2]; exact hP) hS dX9_copy_52
    · replace h := (if_pos c8).symm.trans h
      refine lv_iconst (v := (-1 : Int32)) hx hb dX9_copy_14 (by decide) ?_
      obtain ⟨e1, e2⟩ := Prod.mk.inj (hret _ h)
      exact hR _ _ _ _ _ (congrArg some e1) rfl (by rw [e2]; exact hP) hS dX9_copy_15
set_option maxHeartbeats 4000000 in
set_option maxRecDepth 100000 in
theorem cX9_copy_k_0_s1_s3 {l : Launch} {D : va_G} {a : Nat → Nat} {k : Nat → ClassId} {p1 : Int32} {p2 : Int32} {p3 : Int32} {p4 : Int32} {p5 : Int32} {x0 xz : bq_S} {rz : Int32} (hkp1 : p1.toNatClampNeg = 1) (hkp3 : p3.toNatClampNeg = 3) (h : fX9_copy  p1 p2 p3 p4 p5 x0 = some (rz, xz)) : bq_M l D bq_cl (bq_ty k) (bq_wC a k) yX9_copy cX9_copy 8 (some .int) { frames := 1, cells := 0, slots := 0, locals := 60 } [.ref (a 0), .int p1, .int p2, .int p3, .int p4, .int p5] x0 (some rz) xz := by
  refine bq_ofW RX9 [(0, .ref (a 0)), (1, .int p1), (2, .int p2), (3, .int p3), (4, .int p4), (5, .int p5)] (by decide +kernel) rfl (Nat.le_of_ble_eq_true rfl) rfl (bq_adC a k) ?_
  intro p e s m below meth c A Q ls S hK hD hA hR hS hP hl
  have hx := S.1; have hb := S.2.1; have hml := S.2.2.1; have hown := S.2.2.2.1; have hts := S.2.2.2.2
  have hret : ∀ z, some z = some (rz, xz) → (rz, xz) = z := fun z h => (Option.some.inj h).symm
  unfold fX9_copy at h
  refine lv_iload_n hx hb dX9_copy_0 rfl (lv_at hl 1 rfl) ?_
  obtain ⟨o1, ho1, h⟩ := Option.bind_eq_some_iff.mp h
  obtain ⟨v3, x2⟩ := o1
  replace h := un2_e h
  refine bq_callSi (As := [.int _]) S hK hD hA hP hS (cX9_isSheet_k ho1) hd_yX9_isSheet ml_X9_252 st_yX9_isSheet ⟨rfl, rfl⟩ ⟨by decide, by decide⟩ rfl hl.1 rfl (Nat.le_of_ble_eq_true rfl) ⟨Nat.zero_le _, Nat.zero_le _⟩ dX9_copy_1 (fun H locs hP hS => ?_)
  refine lv_if_eq (tgt := 14) hx hb dX9_copy_4 (by decide) (fun c4 => ?_) (fun c4 => ?_)
  · replace h := (if_pos c4).symm.trans h
    refine lv_iconst (v := (-1 : Int32)) hx hb dX9_copy_14 (by decide) ?_
    obtain ⟨e1, e2⟩ := Prod.mk.inj (hret _ h)
    exact hR _ _ _ _ _ (congrArg some e1) rfl (by rw [e2]; exact hP) hS dX9_copy_15
  · replace h := (if_neg c4).symm.trans h
    refine lv_iload_n hx hb dX9_copy_7 rfl (lv_at hl 3 rfl) ?_
    obtain ⟨o5, ho5, h⟩ := Option.bind_eq_some_iff.mp h
    obtain ⟨v7, x6⟩ := o5
    replace h := un2_e h
    refine bq_callSi (As := [.int _]) S hK hD hA hP hS (cX9_isSheet_k ho5) hd_yX9_isSheet ml_X9_252 st_yX9_isSheet ⟨rfl, rfl⟩ ⟨by decide, by decide⟩ rfl hl.1 rfl (Nat.le_of_ble_eq_true rfl) ⟨Nat.zero_le _, Nat.zero_le _⟩ dX9_copy_8 (fun H locs hP hS => ?_)
    refine lv_if_ne (tgt := 16) hx hb dX9_copy_11 (by decide) (fun c8 => ?_) (fun c8 => ?_)
    · replace h := (if_neg c8).symm.trans h
      refine lv_aload_n hx hb dX9_copy_16 rfl (lv_at hl 0 rfl) ?_
      refine bq_get (q0 := 0) S hK hP fl_X9_70_X9_9 rfl rfl rfl dX9_copy_17 ?_
      refine lv_iload_n hx hb dX9_copy_20 rfl (lv_at hl 1 rfl) ?_
      obtain ⟨g9, h⟩ := bq_gd h
      refine va_aldq (D := D) hx hb hK hP 33 3 rfl rfl g9 dX9_copy_21 ?_
      rw [hkp1]
      try rw [hkp1] at h
      refine W.eq (g2 := F0 m 22 ls [.ref (a 36)]) rfl ?_
      refine lv_astore (lv' := [(6, .ref (a 36)), (0, .ref (a 0)), (1, .int p1), (2, .int p2), (3, .int p3), (4, .int p4), (5, .int p5)]) hx hb dX9_copy_22 hl (by decide) rfl (fun ls hl => ?_)
      refine lv_aload_n hx hb dX9_copy_24 rfl (lv_at hl 1 rfl) ?_
      refine bq_get (q0 := 0) S hK hP fl_X9_70_X9_9 rfl rfl rfl dX9_copy_25 ?_
      refine lv_iload_n hx hb dX9_copy_28 rfl (lv_at hl 4 rfl) ?_
      obtain ⟨g10, h⟩ := bq_gd h
      refine va_aldq (D := D) hx hb hK hP 33 3 rfl rfl g10 dX9_copy_29 ?_
      rw [hkp3]
      try rw [hkp3] at h
      refine W.eq (g2 := F0 m 30 ls [.ref (a 40)]) rfl ?_
      refine lv_astore (lv' := [(7, .ref (a 40)), (6, .ref (a 36)), (0, .ref (a 0)), (1, .int p1), (2, .int p2), (3, .int p3), (4, .int p4), (5, .int p5)]) hx hb dX9_copy_30 hl (by decide) rfl (fun ls hl => ?_)
      refine lv_aload hx hb dX9_copy_32 (lv_at hl 1 rfl) ?_
      refine bq_get (q0 := 36) S hK hP fl_X9_262_X6_1 rfl rfl rfl dX9_copy_34 ?_
      refine lv_iconst (v := (-1 : Int32)) hx hb dX9_copy_37 (by decide) ?_
      refine lv_icmp_eq (tgt := 50) hx hb dX9_copy_38 (by decide) (fun c11 => ?_) (fun c11 => ?_)
      · replace h := (if_pos c11).symm.trans h
        refine lv_bipush (v := (-11 : Int32)) hx hb dX9_copy_50 (by decide) ?_
        obtain ⟨e1, e2⟩ := Prod.mk.inj (hret _ h)
        exact hR _ _ _ _ _ (congrArg some e1) rfl (by rw [e2]; exact hP) hS dX9_copy_52
      · replace h := (if_neg c11).symm.trans h
        refine lv_aload hx hb dX9_copy_41 (lv_at hl 0 rfl) ?_
        refine bq_get (q0 := 40) S hK hP fl_X9_262_X6_1 rfl rfl rfl dX9_copy_43 ?_
        refine lv_iconst (v := (-1 : Int32)) hx hb dX9_copy_46 (by decide) ?_
        refine lv_icmp_ne (tgt := 53) hx hb dX9_copy_47 (by decide) (fun c12 => ?_) (fun c12 => ?_)
        · replace h := (if_neg c12).symm.trans h
          refine lv_aload hx hb dX9_copy_53 (lv_at hl 1 rfl) ?_
          refine bq_get (q0 := 36) S hK hP fl_X9_262_X6_1 rfl rfl rfl dX9_copy_55 ?_
          refine lv_aload hx hb dX9_copy_58 (lv_at hl 0 rfl) ?_
          refine bq_get (q0 := 40) S hK hP fl_X9_262_X6_1 rfl rfl rfl dX9_copy_60 ?_
          refine lv_icmp_eq (tgt := 69) hx hb dX9_copy_63 (by decide) (fun c13 => ?_) (fun c13 => ?_)
          · replace h := (if_pos c13).symm.trans h
            refine lv_aload hx hb dX9_copy_69 (lv_at hl 1 rfl) ?_
            refine lv_iload_n hx hb dX9_copy_71 rfl (lv_at hl 4 rfl) ?_
            refine lv_iload hx hb dX9_copy_72 (lv_at hl 7 rfl) ?_
            obtain ⟨o14, ho14, h⟩ := Option.bind_eq_some_iff.mp h
            obtain ⟨v16, x15⟩ := o14
            replace h := un2_e h
            refine bq_callVi (q0 := 36) (As := [.int _, .int _]) S hK hD hA hP hS (cX6_holds_k_36 ho14) hd_yX6_holds ml_X9_270 in_yX6_holds (hts _ sl_X6_X6_yX6_holds) ⟨rfl, rfl⟩ ⟨by decide, by decide⟩ rfl rfl rfl hl.1 rfl (Nat.le_of_ble_eq_true rfl) ⟨Nat.zero_le _, Nat.zero_le _⟩ dX9_copy_74 (fun H locs hP hS => ?_)
            refine lv_if_eq (tgt := 92) hx hb dX9_copy_77 (by decide) (fun c17 => ?_) (fun c17 => ?_)
            · replace h := (if_pos c17).symm.trans h
              refine lv_bipush (v := (-13 : Int32)) hx hb dX9_copy_92 (by decide) ?_
              obtain ⟨e1, e2⟩ := Prod.mk.inj (hret _ h)
              exact hR _ _ _ _ _ (congrArg some e1) rfl (by rw [e2]; exact hP) hS dX9_copy_94
            · replace h := (if_neg c17).symm.trans h
              refine lv_aload hx hb dX9_copy_80 (lv_at hl 0 rfl) ?_
              refine lv_iload hx hb dX9_copy_82 (lv_at hl 6 rfl) ?_
              refine lv_iload hx hb dX9_copy_84 (lv_at hl 7 rfl) ?_
              obtain ⟨o18, ho18, h⟩ := Option.bind_eq_some_iff.mp h
              obtain ⟨v20, x19⟩ := o18
              replace h := un2_e h
              refine bq_callVi (q0 := 40) (As := [.int _, .int _]) S hK hD hA hP hS (cX6_holds_k_40 ho18) hd_yX6_holds ml_X9_270 in_yX6_holds (hts _ sl_X6_X6_yX6_holds) ⟨rfl, rfl⟩ ⟨by decide, by decide⟩ rfl rfl rfl hl.1 rfl (Nat.le_of_ble_eq_true rfl) ⟨Nat.zero_le _, Nat.zero_le _⟩ dX9_copy_86 (fun H locs hP hS => ?_)
              refine lv_if_ne (tgt := 95) hx hb dX9_copy_89 (by decide) (fun c21 => ?_) (fun c21 => ?_)
              · replace h := (if_neg c21).symm.trans h
                refine lv_aload hx hb dX9_copy_95 (lv_at hl 1 rfl) ?_
                refine bq_get (q0 := 36) S hK hP fl_X9_237_X6_0 rfl rfl rfl dX9_copy_97 ?_
                refine lv_iload_n hx hb dX9_copy_100 rfl (lv_at hl 4 rfl) ?_
                refine lv_aload hx hb dX9_copy_101 (lv_at hl 0 rfl) ?_
                refine bq_get (q0 := 40) S hK hP fl_X9_237_X6_0 rfl rfl rfl dX9_copy_103 ?_
                refine lv_iload hx hb dX9_copy_106 (lv_at hl 6 rfl) ?_
                refine lv_iload hx hb dX9_copy_108 (lv_at hl 7 rfl) ?_
                obtain ⟨⟨g221, g222, g223, g224, g225⟩, h⟩ := bq_gp h
                obtain ⟨x23, hx23, h⟩ := bq_b h
                refine va_copyl (D := D) hx hb (hml.trans hl.1.symm) hown (hts _ ml_X9_273) (hts _ acn) (hts _ acs) (hts _ aci) hK hP (hD _) hS 37 41 1 1 rfl rfl rfl rfl rfl g221 g222 g223 g224 g225 (fun _ _ => rfl) (by decide) (by decide +kernel) dX9_copy_110 (fun H locs hP _ hS => ?_)
                replace hP : va_P D bq_cl (bq_wC a k x23) H := by rw [hx23]; exact hP
                refine lv_iload hx hb dX9_copy_113 (lv_at hl 7 rfl) ?_
                obtain ⟨e1, e2⟩ := Prod.mk.inj (hret _ h)
                exact hR _ _ _ _ _ (congrArg some e1) rfl (by rw [e2]; exact hP) hS dX9_copy_115
              · replace h := (if_pos c21).symm.trans h
                refine lv_bipush (v := (-13 : Int32)) hx hb dX9_copy_92 (by decide) ?_
                obtain ⟨e1, e2⟩ := Prod.mk.inj (hret _ h)
                exact hR _ _ _ _ _ (congrArg some e1) rfl (by rw [e2]; exact hP) hS dX9_copy_94
          · replace h := (if_neg c13).symm.trans h
            refine lv_bipush (v := (-12 : Int32)) hx hb dX9_copy_66 (by decide) ?_
            obtain ⟨e1, e2⟩ := Prod.mk.inj (hret _ h)
            exact hR _ _ _ _ _ (congrArg some e1) rfl (by rw [e2]; exact hP) hS dX9_copy_68
        · replace h := (if_pos c12).symm.trans h
          refine lv_bipush (v := (-11 : Int32)) hx hb dX9_copy_50 (by decide) ?_
          obtain ⟨e1, e2⟩ := Prod.mk.inj (hret _ h)
          exact hR _ _ _ _ _ (congrArg some e1) rfl (by rw [e2]; exact hP) hS dX9_copy_52
    · replace h := (if_pos c8).symm.trans h
      refine lv_iconst (v := (-1 : Int32)) hx hb dX9_copy_14 (by decide) ?_
      obtain ⟨e1, e2⟩ := Prod.mk.inj (hret _ h)
      exact hR _ _ _ _ _ (congrArg some e1) rfl (by rw [e2]; exact hP) hS dX9_copy_15
set_option maxHeartbeats 4000000 in
set_option maxRecDepth 100000 in
theorem cX9_copy_k_0_s1_sb {l : Launch} {D : va_G} {a : Nat → Nat} {k : Nat → ClassId} {p1 : Int32} {p2 : Int32} {p3 : Int32} {p4 : Int32} {p5 : Int32} {x0 xz : bq_S} {rz : Int32} (hkp1 : p1.toNatClampNeg = 1) (hkp3 : ¬ p3.toNatClampNeg < 4) (h : fX9_copy  p1 p2 p3 p4 p5 x0 = some (rz, xz)) : bq_M l D bq_cl (bq_ty k) (bq_wC a k) yX9_copy cX9_copy 8 (some .int) { frames := 1, cells := 0, slots := 0, locals := 60 } [.ref (a 0), .int p1, .int p2, .int p3, .int p4, .int p5] x0 (some rz) xz := by
  refine bq_ofW RX9 [(0, .ref (a 0)), (1, .int p1), (2, .int p2), (3, .int p3), (4, .int p4), (5, .int p5)] (by decide +kernel) rfl (Nat.le_of_ble_eq_true rfl) rfl (bq_adC a k) ?_
  intro p e s m below meth c A Q ls S hK hD hA hR hS hP hl
  have hx := S.1; have hb := S.2.1; have hml := S.2.2.1; have hown := S.2.2.2.1; have hts := S.2.2.2.2
  have hret : ∀ z, some z = some (rz, xz) → (rz, xz) = z := fun z h => (Option.some.inj h).symm
  unfold fX9_copy at h
  refine lv_iload_n hx hb dX9_copy_0 rfl (lv_at hl 1 rfl) ?_
  obtain ⟨o1, ho1, h⟩ := Option.bind_eq_some_iff.mp h
  obtain ⟨v3, x2⟩ := o1
  replace h := un2_e h
  refine bq_callSi (As := [.int _]) S hK hD hA hP hS (cX9_isSheet_k ho1) hd_yX9_isSheet ml_X9_252 st_yX9_isSheet ⟨rfl, rfl⟩ ⟨by decide, by decide⟩ rfl hl.1 rfl (Nat.le_of_ble_eq_true rfl) ⟨Nat.zero_le _, Nat.zero_le _⟩ dX9_copy_1 (fun H locs hP hS => ?_)
  refine lv_if_eq (tgt := 14) hx hb dX9_copy_4 (by decide) (fun c4 => ?_) (fun c4 => ?_)
  · replace h := (if_pos c4).symm.trans h
    refine lv_iconst (v := (-1 : Int32)) hx hb dX9_copy_14 (by decide) ?_
    obtain ⟨e1, e2⟩ := Prod.mk.inj (hret _ h)
    exact hR _ _ _ _ _ (congrArg some e1) rfl (by rw [e2]; exact hP) hS dX9_copy_15
  · replace h := (if_neg c4).symm.trans h
    refine lv_iload_n hx hb dX9_copy_7 rfl (lv_at hl 3 rfl) ?_
    obtain ⟨o5, ho5, h⟩ := Option.bind_eq_some_iff.mp h
    obtain ⟨v7, x6⟩ := o5
    replace h := un2_e h
    refine bq_callSi (As := [.int _]) S hK hD hA hP hS (cX9_isSheet_k ho5) hd_yX9_isSheet ml_X9_252 st_yX9_isSheet ⟨rfl, rfl⟩ ⟨by decide, by decide⟩ rfl hl.1 rfl (Nat.le_of_ble_eq_true rfl) ⟨Nat.zero_le _, Nat.zero_le _⟩ dX9_copy_8 (fun H locs hP hS => ?_)
    refine lv_if_ne (tgt := 16) hx hb dX9_copy_11 (by decide) (fun c8 => ?_) (fun c8 => ?_)
    · replace h := (if_neg c8).symm.trans h
      refine lv_aload_n hx hb dX9_copy_16 rfl (lv_at hl 0 rfl) ?_
      refine bq_get (q0 := 0) S hK hP fl_X9_70_X9_9 rfl rfl rfl dX9_copy_17 ?_
      refine lv_iload_n hx hb dX9_copy_20 rfl (lv_at hl 1 rfl) ?_
      obtain ⟨g9, h⟩ := bq_gd h
      refine va_aldq (D := D) hx hb hK hP 33 3 rfl rfl g9 dX9_copy_21 ?_
      rw [hkp1]
      try rw [hkp1] at h
      refine W.eq (g2 := F0 m 22 ls [.ref (a 36)]) rfl ?_
      refine lv_astore (lv' := [(6, .ref (a 36)), (0, .ref (a 0)), (1, .int p1), (2, .int p2), (3, .int p3), (4, .int p4), (5, .int p5)]) hx hb dX9_copy_22 hl (by decide) rfl (fun ls hl => ?_)
      refine lv_aload_n hx hb dX9_copy_24 rfl (lv_at hl 1 rfl) ?_
      refine bq_get (q0 := 0) S hK hP fl_X9_70_X9_9 rfl rfl rfl dX9_copy_25 ?_
      refine lv_iload_n hx hb dX9_copy_28 rfl (lv_at hl 4 rfl) ?_
      obtain ⟨g10, h⟩ := bq_gd h
      exact absurd (bq_lt g10) hkp3
    · replace h := (if_pos c8).symm.trans h
      refine lv_iconst (v := (-1 : Int32)) hx hb dX9_copy_14 (by decide) ?_
      obtain ⟨e1, e2⟩ := Prod.mk.inj (hret _ h)
      exact hR _ _ _ _ _ (congrArg some e1) rfl (by rw [e2]; exact hP) hS dX9_copy_15
set_option maxHeartbeats 4000000 in
set_option maxRecDepth 100000 in
theorem cX9_copy_k_0_s2_s0 {l : Launch} {D : va_G} {a : Nat → Nat} {k : Nat → ClassId} {p1 : Int32} {p2 : Int32} {p3 : Int32} {p4 : Int32} {p5 : Int32} {x0 xz : bq_S} {rz : Int32} (hkp1 : p1.toNatClampNeg = 2) (hkp3 : p3.toNatClampNeg = 0) (h : fX9_copy  p1 p2 p3 p4 p5 x0 = some (rz, xz)) : bq_M l D bq_cl (bq_ty k) (bq_wC a k) yX9_copy cX9_copy 8 (some .int) { frames := 1, cells := 0, slots := 0, locals := 60 } [.ref (a 0), .int p1, .int p2, .int p3, .int p4, .int p5] x0 (some rz) xz := by
  refine bq_ofW RX9 [(0, .ref (a 0)), (1, .int p1), (2, .int p2), (3, .int p3), (4, .int p4), (5, .int p5)] (by decide +kernel) rfl (Nat.le_of_ble_eq_true rfl) rfl (bq_adC a k) ?_
  intro p e s m below meth c A Q ls S hK hD hA hR hS hP hl
  have hx := S.1; have hb := S.2.1; have hml := S.2.2.1; have hown := S.2.2.2.1; have hts := S.2.2.2.2
  have hret : ∀ z, some z = some (rz, xz) → (rz, xz) = z := fun z h => (Option.some.inj h).symm
  unfold fX9_copy at h
  refine lv_iload_n hx hb dX9_copy_0 rfl (lv_at hl 1 rfl) ?_
  obtain ⟨o1, ho1, h⟩ := Option.bind_eq_some_iff.mp h
  obtain ⟨v3, x2⟩ := o1
  replace h := un2_e h
  refine bq_callSi (As := [.int _]) S hK hD hA hP hS (cX9_isSheet_k ho1) hd_yX9_isSheet ml_X9_252 st_yX9_isSheet ⟨rfl, rfl⟩ ⟨by decide, by decide⟩ rfl hl.1 rfl (Nat.le_of_ble_eq_true rfl) ⟨Nat.zero_le _, Nat.zero_le _⟩ dX9_copy_1 (fun H locs hP hS => ?_)
  refine lv_if_eq (tgt := 14) hx hb dX9_copy_4 (by decide) (fun c4 => ?_) (fun c4 => ?_)
  · replace h := (if_pos c4).symm.trans h
    refine lv_iconst (v := (-1 : Int32)) hx hb dX9_copy_14 (by decide) ?_
    obtain ⟨e1, e2⟩ := Prod.mk.inj (hret _ h)
    exact hR _ _ _ _ _ (congrArg some e1) rfl (by rw [e2]; exact hP) hS dX9_copy_15
  · replace h := (if_neg c4).symm.trans h
    refine lv_iload_n hx hb dX9_copy_7 rfl (lv_at hl 3 rfl) ?_
    obtain ⟨o5, ho5, h⟩ := Option.bind_eq_some_iff.mp h
    obtain ⟨v7, x6⟩ := o5
    replace h := un2_e h
    refine bq_callSi (As := [.int _]) S hK hD hA hP hS (cX9_isSheet_k ho5) hd_yX9_isSheet ml_X9_252 st_yX9_isSheet ⟨rfl, rfl⟩ ⟨by decide, by decide⟩ rfl hl.1 rfl (Nat.le_of_ble_eq_true rfl) ⟨Nat.zero_le _, Nat.zero_le _⟩ dX9_copy_8 (fun H locs hP hS => ?_)
    refine lv_if_ne (tgt := 16) hx hb dX9_copy_11 (by decide) (fun c8 => ?_) (fun c8 => ?_)
    · replace h := (if_neg c8).symm.trans h
      refine lv_aload_n hx hb dX9_copy_16 rfl (lv_at hl 0 rfl) ?_
      refine bq_get (q0 := 0) S hK hP fl_X9_70_X9_9 rfl rfl rfl dX9_copy_17 ?_
      refine lv_iload_n hx hb dX9_copy_20 rfl (lv_at hl 1 rfl) ?_
      obtain ⟨g9, h⟩ := bq_gd h
      refine va_aldq (D := D) hx hb hK hP 33 3 rfl rfl g9 dX9_copy_21 ?_
      rw [hkp1]
      try rw [hkp1] at h
      refine W.eq (g2 := F0 m 22 ls [.ref (a 38)]) rfl ?_
      refine lv_astore (lv' := [(6, .ref (a 38)), (0, .ref (a 0)), (1, .int p1), (2, .int p2), (3, .int p3), (4, .int p4), (5, .int p5)]) hx hb dX9_copy_22 hl (by decide) rfl (fun ls hl => ?_)
      refine lv_aload_n hx hb dX9_copy_24 rfl (lv_at hl 1 rfl) ?_
      refine bq_get (q0 := 0) S hK hP fl_X9_70_X9_9 rfl rfl rfl dX9_copy_25 ?_
      refine lv_iload_n hx hb dX9_copy_28 rfl (lv_at hl 4 rfl) ?_
      obtain ⟨g10, h⟩ := bq_gd h
      refine va_aldq (D := D) hx hb hK hP 33 3 rfl rfl g10 dX9_copy_29 ?_
      rw [hkp3]
      try rw [hkp3] at h
      refine W.eq (g2 := F0 m 30 ls [.ref (a 34)]) rfl ?_
      refine lv_astore (lv' := [(7, .ref (a 34)), (6, .ref (a 38)), (0, .ref (a 0)), (1, .int p1), (2, .int p2), (3, .int p3), (4, .int p4), (5, .int p5)]) hx hb dX9_copy_30 hl (by decide) rfl (fun ls hl => ?_)
      refine lv_aload hx hb dX9_copy_32 (lv_at hl 1 rfl) ?_
      refine bq_get (q0 := 38) S hK hP fl_X9_262_X6_1 rfl rfl rfl dX9_copy_34 ?_
      refine lv_iconst (v := (-1 : Int32)) hx hb dX9_copy_37 (by decide) ?_
      refine lv_icmp_eq (tgt := 50) hx hb dX9_copy_38 (by decide) (fun c11 => ?_) (fun c11 => ?_)
      · replace h := (if_pos c11).symm.trans h
        refine lv_bipush (v := (-11 : Int32)) hx hb dX9_copy_50 (by decide) ?_
        obtain ⟨e1, e2⟩ := Prod.mk.inj (hret _ h)
        exact hR _ _ _ _ _ (congrArg some e1) rfl (by rw [e2]; exact hP) hS dX9_copy_52
      · replace h := (if_neg c11).symm.trans h
        refine lv_aload hx hb dX9_copy_41 (lv_at hl 0 rfl) ?_
        refine bq_get (q0 := 34) S hK hP fl_X9_262_X6_1 rfl rfl rfl dX9_copy_43 ?_
        refine lv_iconst (v := (-1 : Int32)) hx hb dX9_copy_46 (by decide) ?_
        refine lv_icmp_ne (tgt := 53) hx hb dX9_copy_47 (by decide) (fun c12 => ?_) (fun c12 => ?_)
        · replace h := (if_neg c12).symm.trans h
          refine lv_aload hx hb dX9_copy_53 (lv_at hl 1 rfl) ?_
          refine bq_get (q0 := 38) S hK hP fl_X9_262_X6_1 rfl rfl rfl dX9_copy_55 ?_
          refine lv_aload hx hb dX9_copy_58 (lv_at hl 0 rfl) ?_
          refine bq_get (q0 := 34) S hK hP fl_X9_262_X6_1 rfl rfl rfl dX9_copy_60 ?_
          refine lv_icmp_eq (tgt := 69) hx hb dX9_copy_63 (by decide) (fun c13 => ?_) (fun c13 => ?_)
          · replace h := (if_pos c13).symm.trans h
            refine lv_aload hx hb dX9_copy_69 (lv_at hl 1 rfl) ?_
            refine lv_iload_n hx hb dX9_copy_71 rfl (lv_at hl 4 rfl) ?_
            refine lv_iload hx hb dX9_copy_72 (lv_at hl 7 rfl) ?_
            obtain ⟨o14, ho14, h⟩ := Option.bind_eq_some_iff.mp h
            obtain ⟨v16, x15⟩ := o14
            replace h := un2_e h
            refine bq_callVi (q0 := 38) (As := [.int _, .int _]) S hK hD hA hP hS (cX6_holds_k_38 ho14) hd_yX6_holds ml_X9_270 in_yX6_holds (hts _ sl_X6_X6_yX6_holds) ⟨rfl, rfl⟩ ⟨by decide, by decide⟩ rfl rfl rfl hl.1 rfl (Nat.le_of_ble_eq_true rfl) ⟨Nat.zero_le _, Nat.zero_le _⟩ dX9_copy_74 (fun H locs hP hS => ?_)
            refine lv_if_eq (tgt := 92) hx hb dX9_copy_77 (by decide) (fun c17 => ?_) (fun c17 => ?_)
            · replace h := (if_pos c17).symm.trans h
              refine lv_bipush (v := (-13 : Int32)) hx hb dX9_copy_92 (by decide) ?_
              obtain ⟨e1, e2⟩ := Prod.mk.inj (hret _ h)
              exact hR _ _ _ _ _ (congrArg some e1) rfl (by rw [e2]; exact hP) hS dX9_copy_94
            · replace h := (if_neg c17).symm.trans h
              refine lv_aload hx hb dX9_copy_80 (lv_at hl 0 rfl) ?_
              refine lv_iload hx hb dX9_copy_82 (lv_at hl 6 rfl) ?_
              refine lv_iload hx hb dX9_copy_84 (lv_at hl 7 rfl) ?_
              obtain ⟨o18, ho18, h⟩ := Option.bind_eq_some_iff.mp h
              obtain ⟨v20, x19⟩ := o18
              replace h := un2_e h
              refine bq_callVi (q0 := 34) (As := [.int _, .int _]) S hK hD hA hP hS (cX6_holds_k_34 ho18) hd_yX6_holds ml_X9_270 in_yX6_holds (hts _ sl_X6_X6_yX6_holds) ⟨rfl, rfl⟩ ⟨by decide, by decide⟩ rfl rfl rfl hl.1 rfl (Nat.le_of_ble_eq_true rfl) ⟨Nat.zero_le _, Nat.zero_le _⟩ dX9_copy_86 (fun H locs hP hS => ?_)
              refine lv_if_ne (tgt := 95) hx hb dX9_copy_89 (by decide) (fun c21 => ?_) (fun c21 => ?_)
              · replace h := (if_neg c21).symm.trans h
                refine lv_aload hx hb dX9_copy_95 (lv_at hl 1 rfl) ?_
                refine bq_get (q0 := 38) S hK hP fl_X9_237_X6_0 rfl rfl rfl dX9_copy_97 ?_
                refine lv_iload_n hx hb dX9_copy_100 rfl (lv_at hl 4 rfl) ?_
                refine lv_aload hx hb dX9_copy_101 (lv_at hl 0 rfl) ?_
                refine bq_get (q0 := 34) S hK hP fl_X9_237_X6_0 rfl rfl rfl dX9_copy_103 ?_
                refine lv_iload hx hb dX9_copy_106 (lv_at hl 6 rfl) ?_
                refine lv_iload hx hb dX9_copy_108 (lv_at hl 7 rfl) ?_
                obtain ⟨⟨g221, g222, g223, g224, g225⟩, h⟩ := bq_gp h
                obtain ⟨x23, hx23, h⟩ := bq_b h
                refine va_copyl (D := D) hx hb (hml.trans hl.1.symm) hown (hts _ ml_X9_273) (hts _ acn) (hts _ acs) (hts _ aci) hK hP (hD _) hS 39 35 1 1 rfl rfl rfl rfl rfl g221 g222 g223 g224 g225 (fun _ _ => rfl) (by decide) (by decide +kernel) dX9_copy_110 (fun H locs hP _ hS => ?_)
                replace hP : va_P D bq_cl (bq_wC a k x23) H := by rw [hx23]; exact hP
                refine lv_iload hx hb dX9_copy_113 (lv_at hl 7 rfl) ?_
                obtain ⟨e1, e2⟩ := Prod.mk.inj (hret _ h)
                exact hR _ _ _ _ _ (congrArg some e1) rfl (by rw [e2]; exact hP) hS dX9_copy_115
              · replace h := (if_pos c21).symm.trans h
                refine lv_bipush (v := (-13 : Int32)) hx hb dX9_copy_92 (by decide) ?_
                obtain ⟨e1, e2⟩ := Prod.mk.inj (hret _ h)
                exact hR _ _ _ _ _ (congrArg some e1) rfl (by rw [e2]; exact hP) hS dX9_copy_94
          · replace h := (if_neg c13).symm.trans h
            refine lv_bipush (v := (-12 : Int32)) hx hb dX9_copy_66 (by decide) ?_
            obtain ⟨e1, e2⟩ := Prod.mk.inj (hret _ h)
            exact hR _ _ _ _ _ (congrArg some e1) rfl (by rw [e2]; exact hP) hS dX9_copy_68
        · replace h := (if_pos c12).symm.trans h
          refine lv_bipush (v := (-11 : Int32)) hx hb dX9_copy_50 (by decide) ?_
          obtain ⟨e1, e2⟩ := Prod.mk.inj (hret _ h)
          exact hR _ _ _ _ _ (congrArg some e1) rfl (by rw [e2]; exact hP) hS dX9_copy_52
    · replace h := (if_pos c8).symm.trans h
      refine lv_iconst (v := (-1 : Int32)) hx hb dX9_copy_14 (by decide) ?_
      obtain ⟨e1, e2⟩ := Prod.mk.inj (hret _ h)
      exact hR _ _ _ _ _ (congrArg some e1) rfl (by rw [e2]; exact hP) hS dX9_copy_15
set_option maxHeartbeats 4000000 in
set_option maxRecDepth 100000 in
theorem cX9_copy_k_0_s2_s1 {l : Launch} {D : va_G} {a : Nat → Nat} {k : Nat → ClassId} {p1 : Int32} {p2 : Int32} {p3 : Int32} {p4 : Int32} {p5 : Int32} {x0 xz : bq_S} {rz : Int32} (hkp1 : p1.toNatClampNeg = 2) (hkp3 : p3.toNatClampNeg = 1) (h : fX9_copy  p1 p2 p3 p4 p5 x0 = some (rz, xz)) : bq_M l D bq_cl (bq_ty k) (bq_wC a k) yX9_copy cX9_copy 8 (some .int) { frames := 1, cells := 0, slots := 0, locals := 60 } [.ref (a 0), .int p1, .int p2, .int p3, .int p4, .int p5] x0 (some rz) xz := by
  refine bq_ofW RX9 [(0, .ref (a 0)), (1, .int p1), (2, .int p2), (3, .int p3), (4, .int p4), (5, .int p5)] (by decide +kernel) rfl (Nat.le_of_ble_eq_true rfl) rfl (bq_adC a k) ?_
  intro p e s m below meth c A Q ls S hK hD hA hR hS hP hl
  have hx := S.1; have hb := S.2.1; have hml := S.2.2.1; have hown := S.2.2.2.1; have hts := S.2.2.2.2
  have hret : ∀ z, some z = some (rz, xz) → (rz, xz) = z := fun z h => (Option.some.inj h).symm
  unfold fX9_copy at h
  refine lv_iload_n hx hb dX9_copy_0 rfl (lv_at hl 1 rfl) ?_
  obtain ⟨o1, ho1, h⟩ := Option.bind_eq_some_iff.mp h
  obtain ⟨v3, x2⟩ := o1
  replace h := un2_e h
  refine bq_callSi (As := [.int _]) S hK hD hA hP hS (cX9_isSheet_k ho1) hd_yX9_isSheet ml_X9_252 st_yX9_isSheet ⟨rfl, rfl⟩ ⟨by decide, by decide⟩ rfl hl.1 rfl (Nat.le_of_ble_eq_true rfl) ⟨Nat.zero_le _, Nat.zero_le _⟩ dX9_copy_1 (fun H locs hP hS => ?_)
  refine lv_if_eq (tgt := 14) hx hb dX9_copy_4 (by decide) (fun c4 => ?_) (fun c4 => ?_)
  · replace h := (if_pos c4).symm.trans h
    refine lv_iconst (v := (-1 : Int32)) hx hb dX9_copy_14 (by decide) ?_
    obtain ⟨e1, e2⟩ := Prod.mk.inj (hret _ h)
    exact hR _ _ _ _ _ (congrArg some e1) rfl (by rw [e2]; exact hP) hS dX9_copy_15
  · replace h := (if_neg c4).symm.trans h
    refine lv_iload_n hx hb dX9_copy_7 rfl (lv_at hl 3 rfl) ?_
    obtain ⟨o5, ho5, h⟩ := Option.bind_eq_some_iff.mp h
    obtain ⟨v7, x6⟩ := o5
    replace h := un2_e h
    refine bq_callSi (As := [.int _]) S hK hD hA hP hS (cX9_isSheet_k ho5) hd_yX9_isSheet ml_X9_252 st_yX9_isSheet ⟨rfl, rfl⟩ ⟨by decide, by decide⟩ rfl hl.1 rfl (Nat.le_of_ble_eq_true rfl) ⟨Nat.zero_le _, Nat.zero_le _⟩ dX9_copy_8 (fun H locs hP hS => ?_)
    refine lv_if_ne (tgt := 16) hx hb dX9_copy_11 (by decide) (fun c8 => ?_) (fun c8 => ?_)
    · replace h := (if_neg c8).symm.trans h
      refine lv_aload_n hx hb dX9_copy_16 rfl (lv_at hl 0 rfl) ?_
      refine bq_get (q0 := 0) S hK hP fl_X9_70_X9_9 rfl rfl rfl dX9_copy_17 ?_
      refine lv_iload_n hx hb dX9_copy_20 rfl (lv_at hl 1 rfl) ?_
      obtain ⟨g9, h⟩ := bq_gd h
      refine va_aldq (D := D) hx hb hK hP 33 3 rfl rfl g9 dX9_copy_21 ?_
      rw [hkp1]
      try rw [hkp1] at h
      refine W.eq (g2 := F0 m 22 ls [.ref (a 38)]) rfl ?_
      refine lv_astore (lv' := [(6, .ref (a 38)), (0, .ref (a 0)), (1, .int p1), (2, .int p2), (3, .int p3), (4, .int p4), (5, .int p5)]) hx hb dX9_copy_22 hl (by decide) rfl (fun ls hl => ?_)
      refine lv_aload_n hx hb dX9_copy_24 rfl (lv_at hl 1 rfl) ?_
      refine bq_get (q0 := 0) S hK hP fl_X9_70_X9_9 rfl rfl rfl dX9_copy_25 ?_
      refine lv_iload_n hx hb dX9_copy_28 rfl (lv_at hl 4 rfl) ?_
      obtain ⟨g10, h⟩ := bq_gd h
      refine va_aldq (D := D) hx hb hK hP 33 3 rfl rfl g10 dX9_copy_29 ?_
      rw [hkp3]
      try rw [hkp3] at h
      refine W.eq (g2 := F0 m 30 ls [.ref (a 36)]) rfl ?_
      refine lv_astore (lv' := [(7, .ref (a 36)), (6, .ref (a 38)), (0, .ref (a 0)), (1, .int p1), (2, .int p2), (3, .int p3), (4, .int p4), (5, .int p5)]) hx hb dX9_copy_30 hl (by decide) rfl (fun ls hl => ?_)
      refine lv_aload hx hb dX9_copy_32 (lv_at hl 1 rfl) ?_
      refine bq_get (q0 := 38) S hK hP fl_X9_262_X6_1 rfl rfl rfl dX9_copy_34 ?_
      refine lv_iconst (v := (-1 : Int32)) hx hb dX9_copy_37 (by decide) ?_
      refine lv_icmp_eq (tgt := 50) hx hb dX9_copy_38 (by decide) (fun c11 => ?_) (fun c11 => ?_)
      · replace h := (if_pos c11).symm.trans h
        refine lv_bipush (v := (-11 : Int32)) hx hb dX9_copy_50 (by decide) ?_
        obtain ⟨e1, e2⟩ := Prod.mk.inj (hret _ h)
        exact hR _ _ _ _ _ (congrArg some e1) rfl (by rw [e2]; exact hP) hS dX9_copy_52
      · replace h := (if_neg c11).symm.trans h
        refine lv_aload hx hb dX9_copy_41 (lv_at hl 0 rfl) ?_
        refine bq_get (q0 := 36) S hK hP fl_X9_262_X6_1 rfl rfl rfl dX9_copy_43 ?_
        refine lv_iconst (v := (-1 : Int32)) hx hb dX9_copy_46 (by decide) ?_
        refine lv_icmp_ne (tgt := 53) hx hb dX9_copy_47 (by decide) (fun c12 => ?_) (fun c12 => ?_)
        · replace h := (if_neg c12).symm.trans h
          refine lv_aload hx hb dX9_copy_53 (lv_at hl 1 rfl) ?_
          refine bq_get (q0 := 38) S hK hP fl_X9_262_X6_1 rfl rfl rfl dX9_copy_55 ?_
          refine lv_aload hx hb dX9_copy_58 (lv_at hl 0 rfl) ?_
          refine bq_get (q0 := 36) S hK hP fl_X9_262_X6_1 rfl rfl rfl dX9_copy_60 ?_
          refine lv_icmp_eq (tgt := 69) hx hb dX9_copy_63 (by decide) (fun c13 => ?_) (fun c13 => ?_)
          · replace h := (if_pos c13).symm.trans h
            refine lv_aload hx hb dX9_copy_69 (lv_at hl 1 rfl) ?_
            refine lv_iload_n hx hb dX9_copy_71 rfl (lv_at hl 4 rfl) ?_
            refine lv_iload hx hb dX9_copy_72 (lv_at hl 7 rfl) ?_
            obtain ⟨o14, ho14, h⟩ := Option.bind_eq_some_iff.mp h
            obtain ⟨v16, x15⟩ := o14
            replace h := un2_e h
            refine bq_callVi (q0 := 38) (As := [.int _, .int _]) S hK hD hA hP hS (cX6_holds_k_38 ho14) hd_yX6_holds ml_X9_270 in_yX6_holds (hts _ sl_X6_X6_yX6_holds) ⟨rfl, rfl⟩ ⟨by decide, by decide⟩ rfl rfl rfl hl.1 rfl (Nat.le_of_ble_eq_true rfl) ⟨Nat.zero_le _, Nat.zero_le _⟩ dX9_copy_74 (fun H locs hP hS => ?_)
            refine lv_if_eq (tgt := 92) hx hb dX9_copy_77 (by decide) (fun c17 => ?_) (fun c17 => ?_)
            · replace h := (if_pos c17).symm.trans h
              refine lv_bipush (v := (-13 : Int32)) hx hb dX9_copy_92 (by decide) ?_
              obtain ⟨e1, e2⟩ := Prod.mk.inj (hret _ h)
              exact hR _ _ _ _ _ (congrArg some e1) rfl (by rw [e2]; exact hP) hS dX9_copy_94
            · replace h := (if_neg c17).symm.trans h
              refine lv_aload hx hb dX9_copy_80 (lv_at hl 0 rfl) ?_
              refine lv_iload hx hb dX9_copy_82 (lv_at hl 6 rfl) ?_
              refine lv_iload hx hb dX9_copy_84 (lv_at hl 7 rfl) ?_
              obtain ⟨o18, ho18, h⟩ := Option.bind_eq_some_iff.mp h
              obtain ⟨v20, x19⟩ := o18
              replace h := un2_e h
              refine bq_callVi (q0 := 36) (As := [.int _, .int _]) S hK hD hA hP hS (cX6_holds_k_36 ho18) hd_yX6_holds ml_X9_270 in_yX6_holds (hts _ sl_X6_X6_yX6_holds) ⟨rfl, rfl⟩ ⟨by decide, by decide⟩ rfl rfl rfl hl.1 rfl (Nat.le_of_ble_eq_true rfl) ⟨Nat.zero_le _, Nat.zero_le _⟩ dX9_copy_86 (fun H locs hP hS => ?_)
              refine lv_if_ne (tgt := 95) hx hb dX9_copy_89 (by decide) (fun c21 => ?_) (fun c21 => ?_)
              · replace h := (if_neg c21).symm.trans h
                refine lv_aload hx hb dX9_copy_95 (lv_at hl 1 rfl) ?_
                refine bq_get (q0 := 38) S hK hP fl_X9_237_X6_0 rfl rfl rfl dX9_copy_97 ?_
                refine lv_iload_n hx hb dX9_copy_100 rfl (lv_at hl 4 rfl) ?_
                refine lv_aload hx hb dX9_copy_101 (lv_at hl 0 rfl) ?_
                refine bq_get (q0 := 36) S hK hP fl_X9_237_X6_0 rfl rfl rfl dX9_copy_103 ?_
                refine lv_iload hx hb dX9_copy_106 (lv_at hl 6 rfl) ?_
                refine lv_iload hx hb dX9_copy_108 (lv_at hl 7 rfl) ?_
                obtain ⟨⟨g221, g222, g223, g224, g225⟩, h⟩ := bq_gp h
                obtain ⟨x23, hx23, h⟩ := bq_b h
                refine va_copyl (D := D) hx hb (hml.trans hl.1.symm) hown (hts _ ml_X9_273) (hts _ acn) (hts _ acs) (hts _ aci) hK hP (hD _) hS 39 37 1 1 rfl rfl rfl rfl rfl g221 g222 g223 g224 g225 (fun _ _ => rfl) (by decide) (by decide +kernel) dX9_copy_110 (fun H locs hP _ hS => ?_)
                replace hP : va_P D bq_cl (bq_wC a k x23) H := by rw [hx23]; exact hP
                refine lv_iload hx hb dX9_copy_113 (lv_at hl 7 rfl) ?_
                obtain ⟨e1, e2⟩ := Prod.mk.inj (hret _ h)
                exact hR _ _ _ _ _ (congrArg some e1) rfl (by rw [e2]; exact hP) hS dX9_copy_115
              · replace h := (if_pos c21).symm.trans h
                refine lv_bipush (v := (-13 : Int32)) hx hb dX9_copy_92 (by decide) ?_
                obtain ⟨e1, e2⟩ := Prod.mk.inj (hret _ h)
                exact hR _ _ _ _ _ (congrArg some e1) rfl (by rw [e2]; exact hP) hS dX9_copy_94
          · replace h := (if_neg c13).symm.trans h
            refine lv_bipush (v := (-12 : Int32)) hx hb dX9_copy_66 (by decide) ?_
            obtain ⟨e1, e2⟩ := Prod.mk.inj (hret _ h)
            exact hR _ _ _ _ _ (congrArg some e1) rfl (by rw [e2]; exact hP) hS dX9_copy_68
        · replace h := (if_pos c12).symm.trans h
          refine lv_bipush (v := (-11 : Int32)) hx hb dX9_copy_50 (by decide) ?_
          obtain ⟨e1, e2⟩ := Prod.mk.inj (hret _ h)
          exact hR _ _ _ _ _ (congrArg some e1) rfl (by rw [e2]; exact hP) hS dX9_copy_52
    · replace h := (if_pos c8).symm.trans h
      refine lv_iconst (v := (-1 : Int32)) hx hb dX9_copy_14 (by decide) ?_
      obtain ⟨e1, e2⟩ := Prod.mk.inj (hret _ h)
      exact hR _ _ _ _ _ (congrArg some e1) rfl (by rw [e2]; exact hP) hS dX9_copy_15
set_option maxHeartbeats 4000000 in
set_option maxRecDepth 100000 in
theorem cX9_copy_k_0_s2_s2 {l : Launch} {D : va_G} {a : Nat → Nat} {k : Nat → ClassId} {p1 : Int32} {p2 : Int32} {p3 : Int32} {p4 : Int32} {p5 : Int32} {x0 xz : bq_S} {rz : Int32} (hkp1 : p1.toNatClampNeg = 2) (hkp3 : p3.toNatClampNeg = 2) (h : fX9_copy  p1 p2 p3 p4 p5 x0 = some (rz, xz)) : bq_M l D bq_cl (bq_ty k) (bq_wC a k) yX9_copy cX9_copy 8 (some .int) { frames := 1, cells := 0, slots := 0, locals := 60 } [.ref (a 0), .int p1, .int p2, .int p3, .int p4, .int p5] x0 (some rz) xz := by
  refine bq_ofW RX9 [(0, .ref (a 0)), (1, .int p1), (2, .int p2), (3, .int p3), (4, .int p4), (5, .int p5)] (by decide +kernel) rfl (Nat.le_of_ble_eq_true rfl) rfl (bq_adC a k) ?_
  intro p e s m below meth c A Q ls S hK hD hA hR hS hP hl
  have hx := S.1; have hb := S.2.1; have hml := S.2.2.1; have hown := S.2.2.2.1; have hts := S.2.2.2.2
  have hret : ∀ z, some z = some (rz, xz) → (rz, xz) = z := fun z h => (Option.some.inj h).symm
  unfold fX9_copy at h
  refine lv_iload_n hx hb dX9_copy_0 rfl (lv_at hl 1 rfl) ?_
  obtain ⟨o1, ho1, h⟩ := Option.bind_eq_some_iff.mp h
  obtain ⟨v3, x2⟩ := o1
  replace h := un2_e h
  refine bq_callSi (As := [.int _]) S hK hD hA hP hS (cX9_isSheet_k ho1) hd_yX9_isSheet ml_X9_252 st_yX9_isSheet ⟨rfl, rfl⟩ ⟨by decide, by decide⟩ rfl hl.1 rfl (Nat.le_of_ble_eq_true rfl) ⟨Nat.zero_le _, Nat.zero_le _⟩ dX9_copy_1 (fun H locs hP hS => ?_)
  refine lv_if_eq (tgt := 14) hx hb dX9_copy_4 (by decide) (fun c4 => ?_) (fun c4 => ?_)
  · replace h := (if_pos c4).symm.trans h
    refine lv_iconst (v := (-1 : Int32)) hx hb dX9_copy_14 (by decide) ?_
    obtain ⟨e1, e2⟩ := Prod.mk.inj (hret _ h)
    exact hR _ _ _ _ _ (congrArg some e1) rfl (by rw [e2]; exact hP) hS dX9_copy_15
  · replace h := (if_neg c4).symm.trans h
    refine lv_iload_n hx hb dX9_copy_7 rfl (lv_at hl 3 rfl) ?_
    obtain ⟨o5, ho5, h⟩ := Option.bind_eq_some_iff.mp h
    obtain ⟨v7, x6⟩ := o5
    replace h := un2_e h
    refine bq_callSi (As := [.int _]) S hK hD hA hP hS (cX9_isSheet_k ho5) hd_yX9_isSheet ml_X9_252 st_yX9_isSheet ⟨rfl, rfl⟩ ⟨by decide, by decide⟩ rfl hl.1 rfl (Nat.le_of_ble_eq_true rfl) ⟨Nat.zero_le _, Nat.zero_le _⟩ dX9_copy_8 (fun H locs hP hS => ?_)
    refine lv_if_ne (tgt := 16) hx hb dX9_copy_11 (by decide) (fun c8 => ?_) (fun c8 => ?_)
    · replace h := (if_neg c8).symm.trans h
      refine lv_aload_n hx hb dX9_copy_16 rfl (lv_at hl 0 rfl) ?_
      refine bq_get (q0 := 0) S hK hP fl_X9_70_X9_9 rfl rfl rfl dX9_copy_17 ?_
      refine lv_iload_n hx hb dX9_copy_20 rfl (lv_at hl 1 rfl) ?_
      obtain ⟨g9, h⟩ := bq_gd h
      refine va_aldq (D := D) hx hb hK hP 33 3 rfl rfl g9 dX9_copy_21 ?_
      rw [hkp1]
      try rw [hkp1] at h
      refine W.eq (g2 := F0 m 22 ls [.ref (a 38)]) rfl ?_
      refine lv_astore (lv' := [(6, .ref (a 38)), (0, .ref (a 0)), (1, .int p1), (2, .int p2), (3, .int p3), (4, .int p4), (5, .int p5)]) hx hb dX9_copy_22 hl (by decide) rfl (fun ls hl => ?_)
      refine lv_aload_n hx hb dX9_copy_24 rfl (lv_at hl 1 rfl) ?_
      refine bq_get (q0 := 0) S hK hP fl_X9_70_X9_9 rfl rfl rfl dX9_copy_25 ?_
      refine lv_iload_n hx hb dX9_copy_28 rfl (lv_at hl 4 rfl) ?_
      obtain ⟨g10, h⟩ := bq_gd h
      refine va_aldq (D := D) hx hb hK hP 33 3 rfl rfl g10 dX9_copy_29 ?_
      rw [hkp3]
      try rw [hkp3] at h
      refine W.eq (g2 := F0 m 30 ls [.ref (a 38)]) rfl ?_
      refine lv_astore (lv' := [(7, .ref (a 38)), (6, .ref (a 38)), (0, .ref (a 0)), (1, .int p1), (2, .int p2), (3, .int p3), (4, .int p4), (5, .int p5)]) hx hb dX9_copy_30 hl (by decide) rfl (fun ls hl => ?_)
      refine lv_aload hx hb dX9_copy_32 (lv_at hl 1 rfl) ?_
      refine bq_get (q0 := 38) S hK hP fl_X9_262_X6_1 rfl rfl rfl dX9_copy_34 ?_
      refine lv_iconst (v := (-1 : Int32)) hx hb dX9_copy_37 (by decide) ?_
      refine lv_icmp_eq (tgt := 50) hx hb dX9_copy_38 (by decide) (fun c11 => ?_) (fun c11 => ?_)
      · replace h := (if_pos c11).symm.trans h
        refine lv_bipush (v := (-11 : Int32)) hx hb dX9_copy_50 (by decide) ?_
        obtain ⟨e1, e2⟩ := Prod.mk.inj (hret _ h)
        exact hR _ _ _ _ _ (congrArg some e1) rfl (by rw [e2]; exact hP) hS dX9_copy_52
      · replace h := (if_neg c11).symm.trans h
        refine lv_aload hx hb dX9_copy_41 (lv_at hl 0 rfl) ?_
        refine bq_get (q0 := 38) S hK hP fl_X9_262_X6_1 rfl rfl rfl dX9_copy_43 ?_
        refine lv_iconst (v := (-1 : Int32)) hx hb dX9_copy_46 (by decide) ?_
        refine lv_icmp_ne (tgt := 53) hx hb dX9_copy_47 (by decide) (fun c12 => ?_) (fun c12 => ?_)
        · replace h := (if_neg c12).symm.trans h
          refine lv_aload hx hb dX9_copy_53 (lv_at hl 1 rfl) ?_
          refine bq_get (q0 := 38) S hK hP fl_X9_262_X6_1 rfl rfl rfl dX9_copy_55 ?_
          refine lv_aload hx hb dX9_copy_58 (lv_at hl 0 rfl) ?_
          refine bq_get (q0 := 38) S hK hP fl_X9_262_X6_1 rfl rfl rfl dX9_copy_60 ?_
          refine lv_icmp_eq (tgt := 69) hx hb dX9_copy_63 (by decide) (fun c13 => ?_) (fun c13 => ?_)
          · replace h := (if_pos c13).symm.trans h
            refine lv_aload hx hb dX9_copy_69 (lv_at hl 1 rfl) ?_
            refine lv_iload_n hx hb dX9_copy_71 rfl (lv_at hl 4 rfl) ?_
            refine lv_iload hx hb dX9_copy_72 (lv_at hl 7 rfl) ?_
            obtain ⟨o14, ho14, h⟩ := Option.bind_eq_some_iff.mp h
            obtain ⟨v16, x15⟩ := o14
            replace h := un2_e h
            refine bq_callVi (q0 := 38) (As := [.int _, .int _]) S hK hD hA hP hS (cX6_holds_k_38 ho14) hd_yX6_holds ml_X9_270 in_yX6_holds (hts _ sl_X6_X6_yX6_holds) ⟨rfl, rfl⟩ ⟨by decide, by decide⟩ rfl rfl rfl hl.1 rfl (Nat.le_of_ble_eq_true rfl) ⟨Nat.zero_le _, Nat.zero_le _⟩ dX9_copy_74 (fun H locs hP hS => ?_)
            refine lv_if_eq (tgt := 92) hx hb dX9_copy_77 (by decide) (fun c17 => ?_) (fun c17 => ?_)
            · replace h := (if_pos c17).symm.trans h
              refine lv_bipush (v := (-13 : Int32)) hx hb dX9_copy_92 (by decide) ?_
              obtain ⟨e1, e2⟩ := Prod.mk.inj (hret _ h)
              exact hR _ _ _ _ _ (congrArg some e1) rfl (by rw [e2]; exact hP) hS dX9_copy_94
            · replace h := (if_neg c17).symm.trans h
              refine lv_aload hx hb dX9_copy_80 (lv_at hl 0 rfl) ?_
              refine lv_iload hx hb dX9_copy_82 (lv_at hl 6 rfl) ?_
              refine lv_iload hx hb dX9_copy_84 (lv_at hl 7 rfl) ?_
              obtain ⟨o18, ho18, h⟩ := Option.bind_eq_some_iff.mp h
              obtain ⟨v20, x19⟩ := o18
              replace h := un2_e h
              refine bq_callVi (q0 := 38) (As := [.int _, .int _]) S hK hD hA hP hS (cX6_holds_k_38 ho18) hd_yX6_holds ml_X9_270 in_yX6_holds (hts _ sl_X6_X6_yX6_holds) ⟨rfl, rfl⟩ ⟨by decide, by decide⟩ rfl rfl rfl hl.1 rfl (Nat.le_of_ble_eq_true rfl) ⟨Nat.zero_le _, Nat.zero_le _⟩ dX9_copy_86 (fun H locs hP hS => ?_)
              refine lv_if_ne (tgt := 95) hx hb dX9_copy_89 (by decide) (fun c21 => ?_) (fun c21 => ?_)
              · replace h := (if_neg c21).symm.trans h
                refine lv_aload hx hb dX9_copy_95 (lv_at hl 1 rfl) ?_
                refine bq_get (q0 := 38) S hK hP fl_X9_237_X6_0 rfl rfl rfl dX9_copy_97 ?_
                refine lv_iload_n hx hb dX9_copy_100 rfl (lv_at hl 4 rfl) ?_
                refine lv_aload hx hb dX9_copy_101 (lv_at hl 0 rfl) ?_
                refine bq_get (q0 := 38) S hK hP fl_X9_237_X6_0 rfl rfl rfl dX9_copy_103 ?_
                refine lv_iload hx hb dX9_copy_106 (lv_at hl 6 rfl) ?_
                refine lv_iload hx hb dX9_copy_108 (lv_at hl 7 rfl) ?_
                obtain ⟨⟨g221, g222, g223, g224, g225⟩, h⟩ := bq_gp h
                obtain ⟨x23, hx23, h⟩ := bq_b h
                refine va_copyl (D := D) hx hb (hml.trans hl.1.symm) hown (hts _ ml_X9_273) (hts _ acn) (hts _ acs) (hts _ aci) hK hP (hD _) hS 39 39 1 1 rfl rfl rfl rfl rfl g221 g222 g223 g224 g225 (fun _ _ => rfl) (by decide) (by decide +kernel) dX9_copy_110 (fun H locs hP _ hS => ?_)
                replace hP : va_P D bq_cl (bq_wC a k x23) H := by rw [hx23]; exact hP
                refine lv_iload hx hb dX9_copy_113 (lv_at hl 7 rfl) ?_
                obtain ⟨e1, e2⟩ := Prod.mk.inj (hret _ h)
                exact hR _ _ _ _ _ (congrArg some e1) rfl (by rw [e2]; exact hP) hS dX9_copy_115
              · replace h := (if_pos c21).symm.trans h
                refine lv_bipush (v := (-13 : Int32)) hx hb dX9_copy_92 (by decide) ?_
                obtain ⟨e1, e2⟩ := Prod.mk.inj (hret _ h)
                exact hR _ _ _ _ _ (congrArg some e1) rfl (by rw [e2]; exact hP) hS dX9_copy_94
          · replace h := (if_neg c13).symm.trans h
            refine lv_bipush (v := (-12 : Int32)) hx hb dX9_copy_66 (by decide) ?_
            obtain ⟨e1, e2⟩ := Prod.mk.inj (hret _ h)
            exact hR _ _ _ _ _ (congrArg some e1) rfl (by rw [e2]; exact hP) hS dX9_copy_68
        · replace h := (if_pos c12).symm.trans h
          refine lv_bipush (v := (-11 : Int32)) hx hb dX9_copy_50 (by decide) ?_
          obtain ⟨e1, e2⟩ := Prod.mk.inj (hret _ h)
          exact hR _ _ _ _ _ (congrArg some e1) rfl (by rw [e2]; exact hP) hS dX9_copy_52
    · replace h := (if_pos c8).symm.trans h
      refine lv_iconst (v := (-1 : Int32)) hx hb dX9_copy_14 (by decide) ?_
      obtain ⟨e1, e2⟩ := Prod.mk.inj (hret _ h)
      exact hR _ _ _ _ _ (congrArg some e1) rfl (by rw [e2]; exact hP) hS dX9_copy_15
set_option maxHeartbeats 4000000 in
set_option maxRecDepth 100000 in
theorem cX9_copy_k_0_s2_s3 {l : Launch} {D : va_G} {a : Nat → Nat} {k : Nat → ClassId} {p1 : Int32} {p2 : Int32} {p3 : Int32} {p4 : Int32} {p5 : Int32} {x0 xz : bq_S} {rz : Int32} (hkp1 : p1.toNatClampNeg = 2) (hkp3 : p3.toNatClampNeg = 3) (h : fX9_copy  p1 p2 p3 p4 p5 x0 = some (rz, xz)) : bq_M l D bq_cl (bq_ty k) (bq_wC a k) yX9_copy cX9_copy 8 (some .int) { frames := 1, cells := 0, slots := 0, locals := 60 } [.ref (a 0), .int p1, .int p2, .int p3, .int p4, .int p5] x0 (some rz) xz := by
  refine bq_ofW RX9 [(0, .ref (a 0)), (1, .int p1), (2, .int p2), (3, .int p3), (4, .int p4), (5, .int p5)] (by decide +kernel) rfl (Nat.le_of_ble_eq_true rfl) rfl (bq_adC a k) ?_
  intro p e s m below meth c A Q ls S hK hD hA hR hS hP hl
  have hx := S.1; have hb := S.2.1; have hml := S.2.2.1; have hown := S.2.2.2.1; have hts := S.2.2.2.2
  have hret : ∀ z, some z = some (rz, xz) → (rz, xz) = z := fun z h => (Option.some.inj h).symm
  unfold fX9_copy at h
  refine lv_iload_n hx hb dX9_copy_0 rfl (lv_at hl 1 rfl) ?_
  obtain ⟨o1, ho1, h⟩ := Option.bind_eq_some_iff.mp h
  obtain ⟨v3, x2⟩ := o1
  replace h := un2_e h
  refine bq_callSi (As := [.int _]) S hK hD hA hP hS (cX9_isSheet_k ho1) hd_yX9_isSheet ml_X9_252 st_yX9_isSheet ⟨rfl, rfl⟩ ⟨by decide, by decide⟩ rfl hl.1 rfl (Nat.le_of_ble_eq_true rfl) ⟨Nat.zero_le _, Nat.zero_le _⟩ dX9_copy_1 (fun H locs hP hS => ?_)
  refine lv_if_eq (tgt := 14) hx hb dX9_copy_4 (by decide) (fun c4 => ?_) (fun c4 => ?_)
  · replace h := (if_pos c4).symm.trans h
    refine lv_iconst (v := (-1 : Int32)) hx hb dX9_copy_14 (by decide) ?_
    obtain ⟨e1, e2⟩ := Prod.mk.inj (hret _ h)
    exact hR _ _ _ _ _ (congrArg some e1) rfl (by rw [e2]; exact hP) hS dX9_copy_15
  · replace h := (if_neg c4).symm.trans h
    refine lv_iload_n hx hb dX9_copy_7 rfl (lv_at hl 3 rfl) ?_
    obtain ⟨o5, ho5, h⟩ := Option.bind_eq_some_iff.mp h
    obtain ⟨v7, x6⟩ := o5
    replace h := un2_e h
    refine bq_callSi (As := [.int _]) S hK hD hA hP hS (cX9_isSheet_k ho5) hd_yX9_isSheet ml_X9_252 st_yX9_isSheet ⟨rfl, rfl⟩ ⟨by decide, by decide⟩ rfl hl.1 rfl (Nat.le_of_ble_eq_true rfl) ⟨Nat.zero_le _, Nat.zero_le _⟩ dX9_copy_8 (fun H locs hP hS => ?_)
    refine lv_if_ne (tgt := 16) hx hb dX9_copy_11 (by decide) (fun c8 => ?_) (fun c8 => ?_)
    · replace h := (if_neg c8).symm.trans h
      refine lv_aload_n hx hb dX9_copy_16 rfl (lv_at hl 0 rfl) ?_
      refine bq_get (q0 := 0) S hK hP fl_X9_70_X9_9 rfl rfl rfl dX9_copy_17 ?_
      refine lv_iload_n hx hb dX9_copy_20 rfl (lv_at hl 1 rfl) ?_
      obtain ⟨g9, h⟩ := bq_gd h
      refine va_aldq (D := D) hx hb hK hP 33 3 rfl rfl g9 dX9_copy_21 ?_
      rw [hkp1]
      try rw [hkp1] at h
      refine W.eq (g2 := F0 m 22 ls [.ref (a 38)]) rfl ?_
      refine lv_astore (lv' := [(6, .ref (a 38)), (0, .ref (a 0)), (1, .int p1), (2, .int p2), (3, .int p3), (4, .int p4), (5, .int p5)]) hx hb dX9_copy_22 hl (by decide) rfl (fun ls hl => ?_)
      refine lv_aload_n hx hb dX9_copy_24 rfl (lv_at hl 1 rfl) ?_
      refine bq_get (q0 := 0) S hK hP fl_X9_70_X9_9 rfl rfl rfl dX9_copy_25 ?_
      refine lv_iload_n hx hb dX9_copy_28 rfl (lv_at hl 4 rfl) ?_
      obtain ⟨g10, h⟩ := bq_gd h
      refine va_aldq (D := D) hx hb hK hP 33 3 rfl rfl g10 dX9_copy_29 ?_
      rw [hkp3]
      try rw [hkp3] at h
      refine W.eq (g2 := F0 m 30 ls [.ref (a 40)]) rfl ?_
      refine lv_astore (lv' := [(7, .ref (a 40)), (6, .ref (a 38)), (0, .ref (a 0)), (1, .int p1), (2, .int p2), (3, .int p3), (4, .int p4), (5, .int p5)]) hx hb dX9_copy_30 hl (by decide) rfl (fun ls hl => ?_)
      refine lv_aload hx hb dX9_copy_32 (lv_at hl 1 rfl) ?_
      refine bq_get (q0 := 38) S hK hP fl_X9_262_X6_1 rfl rfl rfl dX9_copy_34 ?_
      refine lv_iconst (v := (-1 : Int32)) hx hb dX9_copy_37 (by decide) ?_
      refine lv_icmp_eq (tgt := 50) hx hb dX9_copy_38 (by decide) (fun c11 => ?_) (fun c11 => ?_)
      · replace h := (if_pos c11).symm.trans h
        refine lv_bipush (v := (-11 : Int32)) hx hb dX9_copy_50 (by decide) ?_
        obtain ⟨e1, e2⟩ := Prod.mk.inj (hret _ h)
        exact hR _ _ _ _ _ (congrArg some e1) rfl (by rw [e2]; exact hP) hS dX9_copy_52
      · replace h := (if_neg c11).symm.trans h
        refine lv_aload hx hb dX9_copy_41 (lv_at hl 0 rfl) ?_
        refine bq_get (q0 := 40) S hK hP fl_X9_262_X6_1 rfl rfl rfl dX9_copy_43 ?_
        refine lv_iconst (v := (-1 : Int32)) hx hb dX9_copy_46 (by decide) ?_
        refine lv_icmp_ne (tgt := 53) hx hb dX9_copy_47 (by decide) (fun c12 => ?_) (fun c12 => ?_)
        · replace h := (if_neg c12).symm.trans h
          refine lv_aload hx hb dX9_copy_53 (lv_at hl 1 rfl) ?_
          refine bq_get (q0 := 38) S hK hP fl_X9_262_X6_1 rfl rfl rfl dX9_copy_55 ?_
          refine lv_aload hx hb dX9_copy_58 (lv_at hl 0 rfl) ?_
          refine bq_get (q0 := 40) S hK hP fl_X9_262_X6_1 rfl rfl rfl dX9_copy_60 ?_
          refine lv_icmp_eq (tgt := 69) hx hb dX9_copy_63 (by decide) (fun c13 => ?_) (fun c13 => ?_)
          · replace h := (if_pos c13).symm.trans h
            refine lv_aload hx hb dX9_copy_69 (lv_at hl 1 rfl) ?_
            refine lv_iload_n hx hb dX9_copy_71 rfl (lv_at hl 4 rfl) ?_
            refine lv_iload hx hb dX9_copy_72 (lv_at hl 7 rfl) ?_
            obtain ⟨o14, ho14, h⟩ := Option.bind_eq_some_iff.mp h
            obtain ⟨v16, x15⟩ := o14
            replace h := un2_e h
            refine bq_callVi (q0 := 38) (As := [.int _, .int _]) S hK hD hA hP hS (cX6_holds_k_38 ho14) hd_yX6_holds ml_X9_270 in_yX6_holds (hts _ sl_X6_X6_yX6_holds) ⟨rfl, rfl⟩ ⟨by decide, by decide⟩ rfl rfl rfl hl.1 rfl (Nat.le_of_ble_eq_true rfl) ⟨Nat.zero_le _, Nat.zero_le _⟩ dX9_copy_74 (fun H locs hP hS => ?_)
            refine lv_if_eq (tgt := 92) hx hb dX9_copy_77 (by decide) (fun c17 => ?_) (fun c17 => ?_)
            · replace h := (if_pos c17).symm.trans h
              refine lv_bipush (v := (-13 : Int32)) hx hb dX9_copy_92 (by decide) ?_
              obtain ⟨e1, e2⟩ := Prod.mk.inj (hret _ h)
              exact hR _ _ _ _ _ (congrArg some e1) rfl (by rw [e2]; exact hP) hS dX9_copy_94
            · replace h := (if_neg c17).symm.trans h
              refine lv_aload hx hb dX9_copy_80 (lv_at hl 0 rfl) ?_
              refine lv_iload hx hb dX9_copy_82 (lv_at hl 6 rfl) ?_
              refine lv_iload hx hb dX9_copy_84 (lv_at hl 7 rfl) ?_
              obtain ⟨o18, ho18, h⟩ := Option.bind_eq_some_iff.mp h
              obtain ⟨v20, x19⟩ := o18
              replace h := un2_e h
              refine bq_callVi (q0 := 40) (As := [.int _, .int _]) S hK hD hA hP hS (cX6_holds_k_40 ho18) hd_yX6_holds ml_X9_270 in_yX6_holds (hts _ sl_X6_X6_yX6_holds) ⟨rfl, rfl⟩ ⟨by decide, by decide⟩ rfl rfl rfl hl.1 rfl (Nat.le_of_ble_eq_true rfl) ⟨Nat.zero_le _, Nat.zero_le _⟩ dX9_copy_86 (fun H locs hP hS => ?_)
              refine lv_if_ne (tgt := 95) hx hb dX9_copy_89 (by decide) (fun c21 => ?_) (fun c21 => ?_)
              · replace h := (if_neg c21).symm.trans h
                refine lv_aload hx hb dX9_copy_95 (lv_at hl 1 rfl) ?_
                refine bq_get (q0 := 38) S hK hP fl_X9_237_X6_0 rfl rfl rfl dX9_copy_97 ?_
                refine lv_iload_n hx hb dX9_copy_100 rfl (lv_at hl 4 rfl) ?_
                refine lv_aload hx hb dX9_copy_101 (lv_at hl 0 rfl) ?_
                refine bq_get (q0 := 40) S hK hP fl_X9_237_X6_0 rfl rfl rfl dX9_copy_103 ?_
                refine lv_iload hx hb dX9_copy_106 (lv_at hl 6 rfl) ?_
                refine lv_iload hx hb dX9_copy_108 (lv_at hl 7 rfl) ?_
                obtain ⟨⟨g221, g222, g223, g224, g225⟩, h⟩ := bq_gp h
                obtain ⟨x23, hx23, h⟩ := bq_b h
                refine va_copyl (D := D) hx hb (hml.trans hl.1.symm) hown (hts _ ml_X9_273) (hts _ acn) (hts _ acs) (hts _ aci) hK hP (hD _) hS 39 41 1 1 rfl rfl rfl rfl rfl g221 g222 g223 g224 g225 (fun _ _ => rfl) (by decide) (by decide +kernel) dX9_copy_110 (fun H locs hP _ hS => ?_)
                replace hP : va_P D bq_cl (bq_wC a k x23) H := by rw [hx23]; exact hP
                refine lv_iload hx hb dX9_copy_113 (lv_at hl 7 rfl) ?_
                obtain ⟨e1, e2⟩ := Prod.mk.inj (hret _ h)
                exact hR _ _ _ _ _ (congrArg some e1) rfl (by rw [e2]; exact hP) hS dX9_copy_115
              · replace h := (if_pos c21).symm.trans h
                refine lv_bipush (v := (-13 : Int32)) hx hb dX9_copy_92 (by decide) ?_
                obtain ⟨e1, e2⟩ := Prod.mk.inj (hret _ h)
                exact hR _ _ _ _ _ (congrArg some e1) rfl (by rw [e2]; exact hP) hS dX9_copy_94
          · replace h := (if_neg c13).symm.trans h
            refine lv_bipush (v := (-12 : Int32)) hx hb dX9_copy_66 (by decide) ?_
            obtain ⟨e1, e2⟩ := Prod.mk.inj (hret _ h)
            exact hR _ _ _ _ _ (congrArg some e1) rfl (by rw [e2]; exact hP) hS dX9_copy_68
        · replace h := (if_pos c12).symm.trans h
          refine lv_bipush (v := (-11 : Int32)) hx hb dX9_copy_50 (by decide) ?_
          obtain ⟨e1, e2⟩ := Prod.mk.inj (hret _ h)
          exact hR _ _ _ _ _ (congrArg some e1) rfl (by rw [e2]; exact hP) hS dX9_copy_52
    · replace h := (if_pos c8).symm.trans h
      refine lv_iconst (v := (-1 : Int32)) hx hb dX9_copy_14 (by decide) ?_
      obtain ⟨e1, e2⟩ := Prod.mk.inj (hret _ h)
      exact hR _ _ _ _ _ (congrArg some e1) rfl (by rw [e2]; exact hP) hS dX9_copy_15
set_option maxHeartbeats 4000000 in
set_option maxRecDepth 100000 in
theorem cX9_copy_k_0_s2_sb {l : Launch} {D : va_G} {a : Nat → Nat} {k : Nat → ClassId} {p1 : Int32} {p2 : Int32} {p3 : Int32} {p4 : Int32} {p5 : Int32} {x0 xz : bq_S} {rz : Int32} (hkp1 : p1.toNatClampNeg = 2) (hkp3 : ¬ p3.toNatClampNeg < 4) (h : fX9_copy  p1 p2 p3 p4 p5 x0 = some (rz, xz)) : bq_M l D bq_cl (bq_ty k) (bq_wC a k) yX9_copy cX9_copy 8 (some .int) { frames := 1, cells := 0, slots := 0, locals := 60 } [.ref (a 0), .int p1, .int p2, .int p3, .int p4, .int p5] x0 (some rz) xz := by
  refine bq_ofW RX9 [(0, .ref (a 0)), (1, .int p1), (2, .int p2), (3, .int p3), (4, .int p4), (5, .int p5)] (by decide +kernel) rfl (Nat.le_of_ble_eq_true rfl) rfl (bq_adC a k) ?_
  intro p e s m below meth c A Q ls S hK hD hA hR hS hP hl
  have hx := S.1; have hb := S.2.1; have hml := S.2.2.1; have hown := S.2.2.2.1; have hts := S.2.2.2.2
  have hret : ∀ z, some z = some (rz, xz) → (rz, xz) = z := fun z h => (Option.some.inj h).symm
  unfold fX9_copy at h
  refine lv_iload_n hx hb dX9_copy_0 rfl (lv_at hl 1 rfl) ?_
  obtain ⟨o1, ho1, h⟩ := Option.bind_eq_some_iff.mp h
  obtain ⟨v3, x2⟩ := o1
  replace h := un2_e h
  refine bq_callSi (As := [.int _]) S hK hD hA hP hS (cX9_isSheet_k ho1) hd_yX9_isSheet ml_X9_252 st_yX9_isSheet ⟨rfl, rfl⟩ ⟨by decide, by decide⟩ rfl hl.1 rfl (Nat.le_of_ble_eq_true rfl) ⟨Nat.zero_le _, Nat.zero_le _⟩ dX9_copy_1 (fun H locs hP hS => ?_)
  refine lv_if_eq (tgt := 14) hx hb dX9_copy_4 (by decide) (fun c4 => ?_) (fun c4 => ?_)
  · replace h := (if_pos c4).symm.trans h
    refine lv_iconst (v := (-1 : Int32)) hx hb dX9_copy_14 (by decide) ?_
    obtain ⟨e1, e2⟩ := Prod.mk.inj (hret _ h)
    exact hR _ _ _ _ _ (congrArg some e1) rfl (by rw [e2]; exact hP) hS dX9_copy_15
  · replace h := (if_neg c4).symm.trans h
    refine lv_iload_n hx hb dX9_copy_7 rfl (lv_at hl 3 rfl) ?_
    obtain ⟨o5, ho5, h⟩ := Option.bind_eq_some_iff.mp h
    obtain ⟨v7, x6⟩ := o5
    replace h := un2_e h
    refine bq_callSi (As := [.int _]) S hK hD hA hP hS (cX9_isSheet_k ho5) hd_yX9_isSheet ml_X9_252 st_yX9_isSheet ⟨rfl, rfl⟩ ⟨by decide, by decide⟩ rfl hl.1 rfl (Nat.le_of_ble_eq_true rfl) ⟨Nat.zero_le _, Nat.zero_le _⟩ dX9_copy_8 (fun H locs hP hS => ?_)
    refine lv_if_ne (tgt := 16) hx hb dX9_copy_11 (by decide) (fun c8 => ?_) (fun c8 => ?_)
    · replace h := (if_neg c8).symm.trans h
      refine lv_aload_n hx hb dX9_copy_16 rfl (lv_at hl 0 rfl) ?_
      refine bq_get (q0 := 0) S hK hP fl_X9_70_X9_9 rfl rfl rfl dX9_copy_17 ?_
      refine lv_iload_n hx hb dX9_copy_20 rfl (lv_at hl 1 rfl) ?_
      obtain ⟨g9, h⟩ := bq_gd h
      refine va_aldq (D := D) hx hb hK hP 33 3 rfl rfl g9 dX9_copy_21 ?_
      rw [hkp1]
      try rw [hkp1] at h
      refine W.eq (g2 := F0 m 22 ls [.ref (a 38)]) rfl ?_
      refine lv_astore (lv' := [(6, .ref (a 38)), (0, .ref (a 0)), (1, .int p1), (2, .int p2), (3, .int p3), (4, .int p4), (5, .int p5)]) hx hb dX9_copy_22 hl (by decide) rfl (fun ls hl => ?_)
      refine lv_aload_n hx hb dX9_copy_24 rfl (lv_at hl 1 rfl) ?_
      refine bq_get (q0 := 0) S hK hP fl_X9_70_X9_9 rfl rfl rfl dX9_copy_25 ?_
      refine lv_iload_n hx hb dX9_copy_28 rfl (lv_at hl 4 rfl) ?_
      obtain ⟨g10, h⟩ := bq_gd h
      exact absurd (bq_lt g10) hkp3
    · replace h := (if_pos c8).symm.trans h
      refine lv_iconst (v := (-1 : Int32)) hx hb dX9_copy_14 (by decide) ?_
      obtain ⟨e1, e2⟩ := Prod.mk.inj (hret _ h)
      exact hR _ _ _ _ _ (congrArg some e1) rfl (by rw [e2]; exact hP) hS dX9_copy_15
set_option maxHeartbeats 4000000 in
set_option maxRecDepth 100000 in
theorem cX9_copy_k_0_s3_s0 {l : Launch} {D : va_G} {a : Nat → Nat} {k : Nat → ClassId} {p1 : Int32} {p2 : Int32} {p3 : Int32} {p4 : Int32} {p5 : Int32} {x0 xz : bq_S} {rz : Int32} (hkp1 : p1.toNatClampNeg = 3) (hkp3 : p3.toNatClampNeg = 0) (h : fX9_copy  p1 p2 p3 p4 p5 x0 = some (rz, xz)) : bq_M l D bq_cl (bq_ty k) (bq_wC a k) yX9_copy cX9_copy 8 (some .int) { frames := 1, cells := 0, slots := 0, locals := 60 } [.ref (a 0), .int p1, .int p2, .int p3, .int p4, .int p5] x0 (some rz) xz := by
  refine bq_ofW RX9 [(0, .ref (a 0)), (1, .int p1), (2, .int p2), (3, .int p3), (4, .int p4), (5, .int p5)] (by decide +kernel) rfl (Nat.le_of_ble_eq_true rfl) rfl (bq_adC a k) ?_
  intro p e s m below meth c A Q ls S hK hD hA hR hS hP hl
  have hx := S.1; have hb := S.2.1; have hml := S.2.2.1; have hown := S.2.2.2.1; have hts := S.2.2.2.2
  have hret : ∀ z, some z = some (rz, xz) → (rz, xz) = z := fun z h => (Option.some.inj h).symm
  unfold fX9_copy at h
  refine lv_iload_n hx hb dX9_copy_0 rfl (lv_at hl 1 rfl) ?_
  obtain ⟨o1, ho1, h⟩ := Option.bind_eq_some_iff.mp h
  obtain ⟨v3, x2⟩ := o1
  replace h := un2_e h
  refine bq_callSi (As := [.int _]) S hK hD hA hP hS (cX9_isSheet_k ho1) hd_yX9_isSheet ml_X9_252 st_yX9_isSheet ⟨rfl, rfl⟩ ⟨by decide, by decide⟩ rfl hl.1 rfl (Nat.le_of_ble_eq_true rfl) ⟨Nat.zero_le _, Nat.zero_le _⟩ dX9_copy_1 (fun H locs hP hS => ?_)
  refine lv_if_eq (tgt := 14) hx hb dX9_copy_4 (by decide) (fun c4 => ?_) (fun c4 => ?_)
  · replace h := (if_pos c4).symm.trans h
    refine lv_iconst (v := (-1 : Int32)) hx hb dX9_copy_14 (by decide) ?_
    obtain ⟨e1, e2⟩ := Prod.mk.inj (hret _ h)
    exact hR _ _ _ _ _ (congrArg some e1) rfl (by rw [e2]; exact hP) hS dX9_copy_15
  · replace h := (if_neg c4).symm.trans h
    refine lv_iload_n hx hb dX9_copy_7 rfl (lv_at hl 3 rfl) ?_
    obtain ⟨o5, ho5, h⟩ := Option.bind_eq_some_iff.mp h
    obtain ⟨v7, x6⟩ := o5
    replace h := un2_e h
    refine bq_callSi (As := [.int _]) S hK hD hA hP hS (cX9_isSheet_k ho5) hd_yX9_isSheet ml_X9_252 st_yX9_isSheet ⟨rfl, rfl⟩ ⟨by decide, by decide⟩ rfl hl.1 rfl (Nat.le_of_ble_eq_true rfl) ⟨Nat.zero_le _, Nat.zero_le _⟩ dX9_copy_8 (fun H locs hP hS => ?_)
    refine lv_if_ne (tgt := 16) hx hb dX9_copy_11 (by decide) (fun c8 => ?_) (fun c8 => ?_)
    · replace h := (if_neg c8).symm.trans h
      refine lv_aload_n hx hb dX9_copy_16 rfl (lv_at hl 0 rfl) ?_
      refine bq_get (q0 := 0) S hK hP fl_X9_70_X9_9 rfl rfl rfl dX9_copy_17 ?_
      refine lv_iload_n hx hb dX9_copy_20 rfl (lv_at hl 1 rfl) ?_
      obtain ⟨g9, h⟩ := bq_gd h
      refine va_aldq (D := D) hx hb hK hP 33 3 rfl rfl g9 dX9_copy_21 ?_
      rw [hkp1]
      try rw [hkp1] at h
      refine W.eq (g2 := F0 m 22 ls [.ref (a 40)]) rfl ?_
      refine lv_astore (lv' := [(6, .ref (a 40)), (0, .ref (a 0)), (1, .int p1), (2, .int p2), (3, .int p3), (4, .int p4), (5, .int p5)]) hx hb dX9_copy_22 hl (by decide) rfl (fun ls hl => ?_)
      refine lv_aload_n hx hb dX9_copy_24 rfl (lv_at hl 1 rfl) ?_
      refine bq_get (q0 := 0) S hK hP fl_X9_70_X9_9 rfl rfl rfl dX9_copy_25 ?_
      refine lv_iload_n hx hb dX9_copy_28 rfl (lv_at hl 4 rfl) ?_
      obtain ⟨g10, h⟩ := bq_gd h
      refine va_aldq (D := D) hx hb hK hP 33 3 rfl rfl g10 dX9_copy_29 ?_
      rw [hkp3]
      try rw [hkp3] at h
      refine W.eq (g2 := F0 m 30 ls [.ref (a 34)]) rfl ?_
      refine lv_astore (lv' := [(7, .ref (a 34)), (6, .ref (a 40)), (0, .ref (a 0)), (1, .int p1), (2, .int p2), (3, .int p3), (4, .int p4), (5, .int p5)]) hx hb dX9_copy_30 hl (by decide) rfl (fun ls hl => ?_)
      refine lv_aload hx hb dX9_copy_32 (lv_at hl 1 rfl) ?_
      refine bq_get (q0 := 40) S hK hP fl_X9_262_X6_1 rfl rfl rfl dX9_copy_34 ?_
      refine lv_iconst (v := (-1 : Int32)) hx hb dX9_copy_37 (by decide) ?_
      refine lv_icmp_eq (tgt := 50) hx hb dX9_copy_38 (by decide) (fun c11 => ?_) (fun c11 => ?_)
      · replace h := (if_pos c11).symm.trans h
        refine lv_bipush (v := (-11 : Int32)) hx hb dX9_copy_50 (by decide) ?_
        obtain ⟨e1, e2⟩ := Prod.mk.inj (hret _ h)
        exact hR _ _ _ _ _ (congrArg some e1) rfl (by rw [e2]; exact hP) hS dX9_copy_52
      · replace h := (if_neg c11).symm.trans h
        refine lv_aload hx hb dX9_copy_41 (lv_at hl 0 rfl) ?_
        refine bq_get (q0 := 34) S hK hP fl_X9_262_X6_1 rfl rfl rfl dX9_copy_43 ?_
        refine lv_iconst (v := (-1 : Int32)) hx hb dX9_copy_46 (by decide) ?_
        refine lv_icmp_ne (tgt := 53) hx hb dX9_copy_47 (by decide) (fun c12 => ?_) (fun c12 => ?_)
        · replace h := (if_neg c12).symm.trans h
          refine lv_aload hx hb dX9_copy_53 (lv_at hl 1 rfl) ?_
          refine bq_get (q0 := 40) S hK hP fl_X9_262_X6_1 rfl rfl rfl dX9_copy_55 ?_
          refine lv_aload hx hb dX9_copy_58 (lv_at hl 0 rfl) ?_
          refine bq_get (q0 := 34) S hK hP fl_X9_262_X6_1 rfl rfl rfl dX9_copy_60 ?_
          refine lv_icmp_eq (tgt := 69) hx hb dX9_copy_63 (by decide) (fun c13 => ?_) (fun c13 => ?_)
          · replace h := (if_pos c13).symm.trans h
            refine lv_aload hx hb dX9_copy_69 (lv_at hl 1 rfl) ?_
            refine lv_iload_n hx hb dX9_copy_71 rfl (lv_at hl 4 rfl) ?_
            refine lv_iload hx hb dX9_copy_72 (lv_at hl 7 rfl) ?_
            obtain ⟨o14, ho14, h⟩ := Option.bind_eq_some_iff.mp h
            obtain ⟨v16, x15⟩ := o14
            replace h := un2_e h
            refine bq_callVi (q0 := 40) (As := [.int _, .int _]) S hK hD hA hP hS (cX6_holds_k_40 ho14) hd_yX6_holds ml_X9_270 in_yX6_holds (hts _ sl_X6_X6_yX6_holds) ⟨rfl, rfl⟩ ⟨by decide, by decide⟩ rfl rfl rfl hl.1 rfl (Nat.le_of_ble_eq_true rfl) ⟨Nat.zero_le _, Nat.zero_le _⟩ dX9_copy_74 (fun H locs hP hS => ?_)
            refine lv_if_eq (tgt := 92) hx hb dX9_copy_77 (by decide) (fun c17 => ?_) (fun c17 => ?_)
            · replace h := (if_pos c17).symm.trans h
              refine lv_bipush (v := (-13 : Int32)) hx hb dX9_copy_92 (by decide) ?_
              obtain ⟨e1, e2⟩ := Prod.mk.inj (hret _ h)
              exact hR _ _ _ _ _ (congrArg some e1) rfl (by rw [e2]; exact hP) hS dX9_copy_94
            · replace h := (if_neg c17).symm.trans h
              refine lv_aload hx hb dX9_copy_80 (lv_at hl 0 rfl) ?_
              refine lv_iload hx hb dX9_copy_82 (lv_at hl 6 rfl) ?_
              refine lv_iload hx hb dX9_copy_84 (lv_at hl 7 rfl) ?_
              obtain ⟨o18, ho18, h⟩ := Option.bind_eq_some_iff.mp h
              obtain ⟨v20, x19⟩ := o18
              replace h := un2_e h
              refine bq_callVi (q0 := 34) (As := [.int _, .int _]) S hK hD hA hP hS (cX6_holds_k_34 ho18) hd_yX6_holds ml_X9_270 in_yX6_holds (hts _ sl_X6_X6_yX6_holds) ⟨rfl, rfl⟩ ⟨by decide, by decide⟩ rfl rfl rfl hl.1 rfl (Nat.le_of_ble_eq_true rfl) ⟨Nat.zero_le _, Nat.zero_le _⟩ dX9_copy_86 (fun H locs hP hS => ?_)
              refine lv_if_ne (tgt := 95) hx hb dX9_copy_89 (by decide) (fun c21 => ?_) (fun c21 => ?_)
              · replace h := (if_neg c21).symm.trans h
                refine lv_aload hx hb dX9_copy_95 (lv_at hl 1 rfl) ?_
                refine bq_get (q0 := 40) S hK hP fl_X9_237_X6_0 rfl rfl rfl dX9_copy_97 ?_
                refine lv_iload_n hx hb dX9_copy_100 rfl (lv_at hl 4 rfl) ?_
                refine lv_aload hx hb dX9_copy_101 (lv_at hl 0 rfl) ?_
                refine bq_get (q0 := 34) S hK hP fl_X9_237_X6_0 rfl rfl rfl dX9_copy_103 ?_
                refine lv_iload hx hb dX9_copy_106 (lv_at hl 6 rfl) ?_
                refine lv_iload hx hb dX9_copy_108 (lv_at hl 7 rfl) ?_
                obtain ⟨⟨g221, g222, g223, g224, g225⟩, h⟩ := bq_gp h
                obtain ⟨x23, hx23, h⟩ := bq_b h
                refine va_copyl (D := D) hx hb (hml.trans hl.1.symm) hown (hts _ ml_X9_273) (hts _ acn) (hts _ acs) (hts _ aci) hK hP (hD _) hS 41 35 1 1 rfl rfl rfl rfl rfl g221 g222 g223 g224 g225 (fun _ _ => rfl) (by decide) (by decide +kernel) dX9_copy_110 (fun H locs hP _ hS => ?_)
                replace hP : va_P D bq_cl (bq_wC a k x23) H := by rw [hx23]; exact hP
                refine lv_iload hx hb dX9_copy_113 (lv_at hl 7 rfl) ?_
                obtain ⟨e1, e2⟩ := Prod.mk.inj (hret _ h)
                exact hR _ _ _ _ _ (congrArg some e1) rfl (by rw [e2]; exact hP) hS dX9_copy_115
              · replace h := (if_pos c21).symm.trans h
                refine lv_bipush (v := (-13 : Int32)) hx hb dX9_copy_92 (by decide) ?_
                obtain ⟨e1, e2⟩ := Prod.mk.inj (hret _ h)
                exact hR _ _ _ _ _ (congrArg some e1) rfl (by rw [e2]; exact hP) hS dX9_copy_94
          · replace h := (if_neg c13).symm.trans h
            refine lv_bipush (v := (-12 : Int32)) hx hb dX9_copy_66 (by decide) ?_
            obtain ⟨e1, e2⟩ := Prod.mk.inj (hret _ h)
            exact hR _ _ _ _ _ (congrArg some e1) rfl (by rw [e2]; exact hP) hS dX9_copy_68
        · replace h := (if_pos c12).symm.trans h
          refine lv_bipush (v := (-11 : Int32)) hx hb dX9_copy_50 (by decide) ?_
          obtain ⟨e1, e2⟩ := Prod.mk.inj (hret _ h)
          exact hR _ _ _ _ _ (congrArg some e1) rfl (by rw [e2]; exact hP) hS dX9_copy_52
    · replace h := (if_pos c8).symm.trans h
      refine lv_iconst (v := (-1 : Int32)) hx hb dX9_copy_14 (by decide) ?_
      obtain ⟨e1, e2⟩ := Prod.mk.inj (hret _ h)
      exact hR _ _ _ _ _ (congrArg some e1) rfl (by rw [e2]; exact hP) hS dX9_copy_15
set_option maxHeartbeats 4000000 in
set_option maxRecDepth 100000 in
theorem cX9_copy_k_0_s3_s1 {l : Launch} {D : va_G} {a : Nat → Nat} {k : Nat → ClassId} {p1 : Int32} {p2 : Int32} {p3 : Int32} {p4 : Int32} {p5 : Int32} {x0 xz : bq_S} {rz : Int32} (hkp1 : p1.toNatClampNeg = 3) (hkp3 : p3.toNatClampNeg = 1) (h : fX9_copy  p1 p2 p3 p4 p5 x0 = some (rz, xz)) : bq_M l D bq_cl (bq_ty k) (bq_wC a k) yX9_copy cX9_copy 8 (some .int) { frames := 1, cells := 0, slots := 0, locals := 60 } [.ref (a 0), .int p1, .int p2, .int p3, .int p4, .int p5] x0 (some rz) xz := by
  refine bq_ofW RX9 [(0, .ref (a 0)), (1, .int p1), (2, .int p2), (3, .int p3), (4, .int p4), (5, .int p5)] (by decide +kernel) rfl (Nat.le_of_ble_eq_true rfl) rfl (bq_adC a k) ?_
  intro p e s m below meth c A Q ls S hK hD hA hR hS hP hl
  have hx := S.1; have hb := S.2.1; have hml := S.2.2.1; have hown := S.2.2.2.1; have hts := S.2.2.2.2
  have hret : ∀ z, some z = some (rz, xz) → (rz, xz) = z := fun z h => (Option.some.inj h).symm
  unfold fX9_copy at h
  refine lv_iload_n hx hb dX9_copy_0 rfl (lv_at hl 1 rfl) ?_
  obtain ⟨o1, ho1, h⟩ := Option.bind_eq_some_iff.mp h
  obtain ⟨v3, x2⟩ := o1
  replace h := un2_e h
  refine bq_callSi (As := [.int _]) S hK hD hA hP hS (cX9_isSheet_k ho1) hd_yX9_isSheet ml_X9_252 st_yX9_isSheet ⟨rfl, rfl⟩ ⟨by decide, by decide⟩ rfl hl.1 rfl (Nat.le_of_ble_eq_true rfl) ⟨Nat.zero_le _, Nat.zero_le _⟩ dX9_copy_1 (fun H locs hP hS => ?_)
  refine lv_if_eq (tgt := 14) hx hb dX9_copy_4 (by decide) (fun c4 => ?_) (fun c4 => ?_)
  · replace h := (if_pos c4).symm.trans h
    refine lv_iconst (v := (-1 : Int32)) hx hb dX9_copy_14 (by decide) ?_
    obtain ⟨e1, e2⟩ := Prod.mk.inj (hret _ h)
    exact hR _ _ _ _ _ (congrArg some e1) rfl (by rw [e2]; exact hP) hS dX9_copy_15
  · replace h := (if_neg c4).symm.trans h
    refine lv_iload_n hx hb dX9_copy_7 rfl (lv_at hl 3 rfl) ?_
    obtain ⟨o5, ho5, h⟩ := Option.bind_eq_some_iff.mp h
    obtain ⟨v7, x6⟩ := o5
    replace h := un2_e h
    refine bq_callSi (As := [.int _]) S hK hD hA hP hS (cX9_isSheet_k ho5) hd_yX9_isSheet ml_X9_252 st_yX9_isSheet ⟨rfl, rfl⟩ ⟨by decide, by decide⟩ rfl hl.1 rfl (Nat.le_of_ble_eq_true rfl) ⟨Nat.zero_le _, Nat.zero_le _⟩ dX9_copy_8 (fun H locs hP hS => ?_)
    refine lv_if_ne (tgt := 16) hx hb dX9_copy_11 (by decide) (fun c8 => ?_) (fun c8 => ?_)
    · replace h := (if_neg c8).symm.trans h
      refine lv_aload_n hx hb dX9_copy_16 rfl (lv_at hl 0 rfl) ?_
      refine bq_get (q0 := 0) S hK hP fl_X9_70_X9_9 rfl rfl rfl dX9_copy_17 ?_
      refine lv_iload_n hx hb dX9_copy_20 rfl (lv_at hl 1 rfl) ?_
      obtain ⟨g9, h⟩ := bq_gd h
      refine va_aldq (D := D) hx hb hK hP 33 3 rfl rfl g9 dX9_copy_21 ?_
      rw [hkp1]
      try rw [hkp1] at h
      refine W.eq (g2 := F0 m 22 ls [.ref (a 40)]) rfl ?_
      refine lv_astore (lv' := [(6, .ref (a 40)), (0, .ref (a 0)), (1, .int p1), (2, .int p2), (3, .int p3), (4, .int p4), (5, .int p5)]) hx hb dX9_copy_22 hl (by decide) rfl (fun ls hl => ?_)
      refine lv_aload_n hx hb dX9_copy_24 rfl (lv_at hl 1 rfl) ?_
      refine bq_get (q0 := 0) S hK hP fl_X9_70_X9_9 rfl rfl rfl dX9_copy_25 ?_
      refine lv_iload_n hx hb dX9_copy_28 rfl (lv_at hl 4 rfl) ?_
      obtain ⟨g10, h⟩ := bq_gd h
      refine va_aldq (D := D) hx hb hK hP 33 3 rfl rfl g10 dX9_copy_29 ?_
      rw [hkp3]
      try rw [hkp3] at h
      refine W.eq (g2 := F0 m 30 ls [.ref (a 36)]) rfl ?_
      refine lv_astore (lv' := [(7, .ref (a 36)), (6, .ref (a 40)), (0, .ref (a 0)), (1, .int p1), (2, .int p2), (3, .int p3), (4, .int p4), (5, .int p5)]) hx hb dX9_copy_30 hl (by decide) rfl (fun ls hl => ?_)
      refine lv_aload hx hb dX9_copy_32 (lv_at hl 1 rfl) ?_
      refine bq_get (q0 := 40) S hK hP fl_X9_262_X6_1 rfl rfl rfl dX9_copy_34 ?_
      refine lv_iconst (v := (-1 : Int32)) hx hb dX9_copy_37 (by decide) ?_
      refine lv_icmp_eq (tgt := 50) hx hb dX9_copy_38 (by decide) (fun c11 => ?_) (fun c11 => ?_)
      · replace h := (if_pos c11).symm.trans h
        refine lv_bipush (v := (-11 : Int32)) hx hb dX9_copy_50 (by decide) ?_
        obtain ⟨e1, e2⟩ := Prod.mk.inj (hret _ h)
        exact hR _ _ _ _ _ (congrArg some e1) rfl (by rw [e2]; exact hP) hS dX9_copy_52
      · replace h := (if_neg c11).symm.trans h
        refine lv_aload hx hb dX9_copy_41 (lv_at hl 0 rfl) ?_
        refine bq_get (q0 := 36) S hK hP fl_X9_262_X6_1 rfl rfl rfl dX9_copy_43 ?_
        refine lv_iconst (v := (-1 : Int32)) hx hb dX9_copy_46 (by decide) ?_
        refine lv_icmp_ne (tgt := 53) hx hb dX9_copy_47 (by decide) (fun c12 => ?_) (fun c12 => ?_)
        · replace h := (if_neg c12).symm.trans h
          refine lv_aload hx hb dX9_copy_53 (lv_at hl 1 rfl) ?_
          refine bq_get (q0 := 40) S hK hP fl_X9_262_X6_1 rfl rfl rfl dX9_copy_55 ?_
          refine lv_aload hx hb dX9_copy_58 (lv_at hl 0 rfl) ?_
          refine bq_get (q0 := 36) S hK hP fl_X9_262_X6_1 rfl rfl rfl dX9_copy_60 ?_
          refine lv_icmp_eq (tgt := 69) hx hb dX9_copy_63 (by decide) (fun c13 => ?_) (fun c13 => ?_)
          · replace h := (if_pos c13).symm.trans h
            refine lv_aload hx hb dX9_copy_69 (lv_at hl 1 rfl) ?_
            refine lv_iload_n hx hb dX9_copy_71 rfl (lv_at hl 4 rfl) ?_
            refine lv_iload hx hb dX9_copy_72 (lv_at hl 7 rfl) ?_
            obtain ⟨o14, ho14, h⟩ := Option.bind_eq_some_iff.mp h
            obtain ⟨v16, x15⟩ := o14
            replace h := un2_e h
            refine bq_callVi (q0 := 40) (As := [.int _, .int _]) S hK hD hA hP hS (cX6_holds_k_40 ho14) hd_yX6_holds ml_X9_270 in_yX6_holds (hts _ sl_X6_X6_yX6_holds) ⟨rfl, rfl⟩ ⟨by decide, by decide⟩ rfl rfl rfl hl.1 rfl (Nat.le_of_ble_eq_true rfl) ⟨Nat.zero_le _, Nat.zero_le _⟩ dX9_copy_74 (fun H locs hP hS => ?_)
            refine lv_if_eq (tgt := 92) hx hb dX9_copy_77 (by decide) (fun c17 => ?_) (fun c17 => ?_)
            · replace h := (if_pos c17).symm.trans h
              refine lv_bipush (v := (-13 : Int32)) hx hb dX9_copy_92 (by decide) ?_
              obtain ⟨e1, e2⟩ := Prod.mk.inj (hret _ h)
              exact hR _ _ _ _ _ (congrArg some e1) rfl (by rw [e2]; exact hP) hS dX9_copy_94
            · replace h := (if_neg c17).symm.trans h
              refine lv_aload hx hb dX9_copy_80 (lv_at hl 0 rfl) ?_
              refine lv_iload hx hb dX9_copy_82 (lv_at hl 6 rfl) ?_
              refine lv_iload hx hb dX9_copy_84 (lv_at hl 7 rfl) ?_
              obtain ⟨o18, ho18, h⟩ := Option.bind_eq_some_iff.mp h
              obtain ⟨v20, x19⟩ := o18
              replace h := un2_e h
              refine bq_callVi (q0 := 36) (As := [.int _, .int _]) S hK hD hA hP hS (cX6_holds_k_36 ho18) hd_yX6_holds ml_X9_270 in_yX6_holds (hts _ sl_X6_X6_yX6_holds) ⟨rfl, rfl⟩ ⟨by decide, by decide⟩ rfl rfl rfl hl.1 rfl (Nat.le_of_ble_eq_true rfl) ⟨Nat.zero_le _, Nat.zero_le _⟩ dX9_copy_86 (fun H locs hP hS => ?_)
              refine lv_if_ne (tgt := 95) hx hb dX9_copy_89 (by decide) (fun c21 => ?_) (fun c21 => ?_)
              · replace h := (if_neg c21).symm.trans h
                refine lv_aload hx hb dX9_copy_95 (lv_at hl 1 rfl) ?_
                refine bq_get (q0 := 40) S hK hP fl_X9_237_X6_0 rfl rfl rfl dX9_copy_97 ?_
                refine lv_iload_n hx hb dX9_copy_100 rfl (lv_at hl 4 rfl) ?_
                refine lv_aload hx hb dX9_copy_101 (lv_at hl 0 rfl) ?_
                refine bq_get (q0 := 36) S hK hP fl_X9_237_X6_0 rfl rfl rfl dX9_copy_103 ?_
                refine lv_iload hx hb dX9_copy_106 (lv_at hl 6 rfl) ?_
                refine lv_iload hx hb dX9_copy_108 (lv_at hl 7 rfl) ?_
                obtain ⟨⟨g221, g222, g223, g224, g225⟩, h⟩ := bq_gp h
                obtain ⟨x23, hx23, h⟩ := bq_b h
                refine va_copyl (D := D) hx hb (hml.trans hl.1.symm) hown (hts _ ml_X9_273) (hts _ acn) (hts _ acs) (hts _ aci) hK hP (hD _) hS 41 37 1 1 rfl rfl rfl rfl rfl g221 g222 g223 g224 g225 (fun _ _ => rfl) (by decide) (by decide +kernel) dX9_copy_110 (fun H locs hP _ hS => ?_)
                replace hP : va_P D bq_cl (bq_wC a k x23) H := by rw [hx23]; exact hP
                refine lv_iload hx hb dX9_copy_113 (lv_at hl 7 rfl) ?_
                obtain ⟨e1, e2⟩ := Prod.mk.inj (hret _ h)
                exact hR _ _ _ _ _ (congrArg some e1) rfl (by rw [e2]; exact hP) hS dX9_copy_115
              · replace h := (if_pos c21).symm.trans h
                refine lv_bipush (v := (-13 : Int32)) hx hb dX9_copy_92 (by decide) ?_
                obtain ⟨e1, e2⟩ := Prod.mk.inj (hret _ h)
                exact hR _ _ _ _ _ (congrArg some e1) rfl (by rw [e2]; exact hP) hS dX9_copy_94
          · replace h := (if_neg c13).symm.trans h
            refine lv_bipush (v := (-12 : Int32)) hx hb dX9_copy_66 (by decide) ?_
            obtain ⟨e1, e2⟩ := Prod.mk.inj (hret _ h)
            exact hR _ _ _ _ _ (congrArg some e1) rfl (by rw [e2]; exact hP) hS dX9_copy_68
        · replace h := (if_pos c12).symm.trans h
          refine lv_bipush (v := (-11 : Int32)) hx hb dX9_copy_50 (by decide) ?_
          obtain ⟨e1, e2⟩ := Prod.mk.inj (hret _ h)
          exact hR _ _ _ _ _ (congrArg some e1) rfl (by rw [e2]; exact hP) hS dX9_copy_52
    · replace h := (if_pos c8).symm.trans h
      refine lv_iconst (v := (-1 : Int32)) hx hb dX9_copy_14 (by decide) ?_
      obtain ⟨e1, e2⟩ := Prod.mk.inj (hret _ h)
      exact hR _ _ _ _ _ (congrArg some e1) rfl (by rw [e2]; exact hP) hS dX9_copy_15
set_option maxHeartbeats 4000000 in
set_option maxRecDepth 100000 in
theorem cX9_copy_k_0_s3_s2 {l : Launch} {D : va_G} {a : Nat → Nat} {k : Nat → ClassId} {p1 : Int32} {p2 : Int32} {p3 : Int32} {p4 : Int32} {p5 : Int32} {x0 xz : bq_S} {rz : Int32} (hkp1 : p1.toNatClampNeg = 3) (hkp3 : p3.toNatClampNeg = 2) (h : fX9_copy  p1 p2 p3 p4 p5 x0 = some (rz, xz)) : bq_M l D bq_cl (bq_ty k) (bq_wC a k) yX9_copy cX9_copy 8 (some .int) { frames := 1, cells := 0, slots := 0, locals := 60 } [.ref (a 0), .int p1, .int p2, .int p3, .int p4, .int p5] x0 (some rz) xz := by
  refine bq_ofW RX9 [(0, .ref (a 0)), (1, .int p1), (2, .int p2), (3, .int p3), (4, .int p4), (5, .int p5)] (by decide +kernel) rfl (Nat.le_of_ble_eq_true rfl) rfl (bq_adC a k) ?_
  intro p e s m below meth c A Q ls S hK hD hA hR hS hP hl
  have hx := S.1; have hb := S.2.1; have hml := S.2.2.1; have hown := S.2.2.2.1; have hts := S.2.2.2.2
  have hret : ∀ z, some z = some (rz, xz) → (rz, xz) = z := fun z h => (Option.some.inj h).symm
  unfold fX9_copy at h
  refine lv_iload_n hx hb dX9_copy_0 rfl (lv_at hl 1 rfl) ?_
  obtain ⟨o1, ho1, h⟩ := Option.bind_eq_some_iff.mp h
  obtain ⟨v3, x2⟩ := o1
  replace h := un2_e h
  refine bq_callSi (As := [.int _]) S hK hD hA hP hS (cX9_isSheet_k ho1) hd_yX9_isSheet ml_X9_252 st_yX9_isSheet ⟨rfl, rfl⟩ ⟨by decide, by decide⟩ rfl hl.1 rfl (Nat.le_of_ble_eq_true rfl) ⟨Nat.zero_le _, Nat.zero_le _⟩ dX9_copy_1 (fun H locs hP hS => ?_)
  refine lv_if_eq (tgt := 14) hx hb dX9_copy_4 (by decide) (fun c4 => ?_) (fun c4 => ?_)
  · replace h := (if_pos c4).symm.trans h
    refine lv_iconst (v := (-1 : Int32)) hx hb dX9_copy_14 (by decide) ?_
    obtain ⟨e1, e2⟩ := Prod.mk.inj (hret _ h)
    exact hR _ _ _ _ _ (congrArg some e1) rfl (by rw [e2]; exact hP) hS dX9_copy_15
  · replace h := (if_neg c4).symm.trans h
    refine lv_iload_n hx hb dX9_copy_7 rfl (lv_at hl 3 rfl) ?_
    obtain ⟨o5, ho5, h⟩ := Option.bind_eq_some_iff.mp h
    obtain ⟨v7, x6⟩ := o5
    replace h := un2_e h
    refine bq_callSi (As := [.int _]) S hK hD hA hP hS (cX9_isSheet_k ho5) hd_yX9_isSheet ml_X9_252 st_yX9_isSheet ⟨rfl, rfl⟩ ⟨by decide, by decide⟩ rfl hl.1 rfl (Nat.le_of_ble_eq_true rfl) ⟨Nat.zero_le _, Nat.zero_le _⟩ dX9_copy_8 (fun H locs hP hS => ?_)
    refine lv_if_ne (tgt := 16) hx hb dX9_copy_11 (by decide) (fun c8 => ?_) (fun c8 => ?_)
    · replace h := (if_neg c8).symm.trans h
      refine lv_aload_n hx hb dX9_copy_16 rfl (lv_at hl 0 rfl) ?_
      refine bq_get (q0 := 0) S hK hP fl_X9_70_X9_9 rfl rfl rfl dX9_copy_17 ?_
      refine lv_iload_n hx hb dX9_copy_20 rfl (lv_at hl 1 rfl) ?_
      obtain ⟨g9, h⟩ := bq_gd h
      refine va_aldq (D := D) hx hb hK hP 33 3 rfl rfl g9 dX9_copy_21 ?_
      rw [hkp1]
      try rw [hkp1] at h
      refine W.eq (g2 := F0 m 22 ls [.ref (a 40)]) rfl ?_
      refine lv_astore (lv' := [(6, .ref (a 40)), (0, .ref (a 0)), (1, .int p1), (2, .int p2), (3, .int p3), (4, .int p4), (5, .int p5)]) hx hb dX9_copy_22 hl (by decide) rfl (fun ls hl => ?_)
      refine lv_aload_n hx hb dX9_copy_24 rfl (lv_at hl 1 rfl) ?_
      refine bq_get (q0 := 0) S hK hP fl_X9_70_X9_9 rfl rfl rfl dX9_copy_25 ?_
      refine lv_iload_n hx hb dX9_copy_28 rfl (lv_at hl 4 rfl) ?_
      obtain ⟨g10, h⟩ := bq_gd h
      refine va_aldq (D := D) hx hb hK hP 33 3 rfl rfl g10 dX9_copy_29 ?_
      rw [hkp3]
      try rw [hkp3] at h
      refine W.eq (g2 := F0 m 30 ls [.ref (a 38)]) rfl ?_
      refine lv_astore (lv' := [(7, .ref (a 38)), (6, .ref (a 40)), (0, .ref (a 0)), (1, .int p1), (2, .int p2), (3, .int p3), (4, .int p4), (5, .int p5)]) hx hb dX9_copy_30 hl (by decide) rfl (fun ls hl => ?_)
      refine lv_aload hx hb dX9_copy_32 (lv_at hl 1 rfl) ?_
      refine bq_get (q0 := 40) S hK hP fl_X9_262_X6_1 rfl rfl rfl dX9_copy_34 ?_
      refine lv_iconst (v := (-1 : Int32)) hx hb dX9_copy_37 (by decide) ?_
      refine lv_icmp_eq (tgt := 50) hx hb dX9_copy_38 (by decide) (fun c11 => ?_) (fun c11 => ?_)
      · replace h := (if_pos c11).symm.trans h
        refine lv_bipush (v := (-11 : Int32)) hx hb dX9_copy_50 (by decide) ?_
        obtain ⟨e1, e2⟩ := Prod.mk.inj (hret _ h)
        exact hR _ _ _ _ _ (congrArg some e1) rfl (by rw [e2]; exact hP) hS dX9_copy_52
      · replace h := (if_neg c11).symm.trans h
        refine lv_aload hx hb dX9_copy_41 (lv_at hl 0 rfl) ?_
        refine bq_get (q0 := 38) S hK hP fl_X9_262_X6_1 rfl rfl rfl dX9_copy_43 ?_
        refine lv_iconst (v := (-1 : Int32)) hx hb dX9_copy_46 (by decide) ?_
        refine lv_icmp_ne (tgt := 53) hx hb dX9_copy_47 (by decide) (fun c12 => ?_) (fun c12 => ?_)
        · replace h := (if_neg c12).symm.trans h
          refine lv_aload hx hb dX9_copy_53 (lv_at hl 1 rfl) ?_
          refine bq_get (q0 := 40) S hK hP fl_X9_262_X6_1 rfl rfl rfl dX9_copy_55 ?_
          refine lv_aload hx hb dX9_copy_58 (lv_at hl 0 rfl) ?_
          refine bq_get (q0 := 38) S hK hP fl_X9_262_X6_1 rfl rfl rfl dX9_copy_60 ?_
          refine lv_icmp_eq (tgt := 69) hx hb dX9_copy_63 (by decide) (fun c13 => ?_) (fun c13 => ?_)
          · replace h := (if_pos c13).symm.trans h
            refine lv_aload hx hb dX9_copy_69 (lv_at hl 1 rfl) ?_
            refine lv_iload_n hx hb dX9_copy_71 rfl (lv_at hl 4 rfl) ?_
            refine lv_iload hx hb dX9_copy_72 (lv_at hl 7 rfl) ?_
            obtain ⟨o14, ho14, h⟩ := Option.bind_eq_some_iff.mp h
            obtain ⟨v16, x15⟩ := o14
            replace h := un2_e h
            refine bq_callVi (q0 := 40) (As := [.int _, .int _]) S hK hD hA hP hS (cX6_holds_k_40 ho14) hd_yX6_holds ml_X9_270 in_yX6_holds (hts _ sl_X6_X6_yX6_holds) ⟨rfl, rfl⟩ ⟨by decide, by decide⟩ rfl rfl rfl hl.1 rfl (Nat.le_of_ble_eq_true rfl) ⟨Nat.zero_le _, Nat.zero_le _⟩ dX9_copy_74 (fun H locs hP hS => ?_)
            refine lv_if_eq (tgt := 92) hx hb dX9_copy_77 (by decide) (fun c17 => ?_) (fun c17 => ?_)
            · replace h := (if_pos c17).symm.trans h
              refine lv_bipush (v := (-13 : Int32)) hx hb dX9_copy_92 (by decide) ?_
              obtain ⟨e1, e2⟩ := Prod.mk.inj (hret _ h)
              exact hR _ _ _ _ _ (congrArg some e1) rfl (by rw [e2]; exact hP) hS dX9_copy_94
            · replace h := (if_neg c17).symm.trans h
              refine lv_aload hx hb dX9_copy_80 (lv_at hl 0 rfl) ?_
              refine lv_iload hx hb dX9_copy_82 (lv_at hl 6 rfl) ?_
              refine lv_iload hx hb dX9_copy_84 (lv_at hl 7 rfl) ?_
              obtain ⟨o18, ho18, h⟩ := Option.bind_eq_some_iff.mp h
              obtain ⟨v20, x19⟩ := o18
              replace h := un2_e h
              refine bq_callVi (q0 := 38) (As := [.int _, .int _]) S hK hD hA hP hS (cX6_holds_k_38 ho18) hd_yX6_holds ml_X9_270 in_yX6_holds (hts _ sl_X6_X6_yX6_holds) ⟨rfl, rfl⟩ ⟨by decide, by decide⟩ rfl rfl rfl hl.1 rfl (Nat.le_of_ble_eq_true rfl) ⟨Nat.zero_le _, Nat.zero_le _⟩ dX9_copy_86 (fun H locs hP hS => ?_)
              refine lv_if_ne (tgt := 95) hx hb dX9_copy_89 (by decide) (fun c21 => ?_) (fun c21 => ?_)
              · replace h := (if_neg c21).symm.trans h
                refine lv_aload hx hb dX9_copy_95 (lv_at hl 1 rfl) ?_
                refine bq_get (q0 := 40) S hK hP fl_X9_237_X6_0 rfl rfl rfl dX9_copy_97 ?_
                refine lv_iload_n hx hb dX9_copy_100 rfl (lv_at hl 4 rfl) ?_
                refine lv_aload hx hb dX9_copy_101 (lv_at hl 0 rfl) ?_
                refine bq_get (q0 := 38) S hK hP fl_X9_237_X6_0 rfl rfl rfl dX9_copy_103 ?_
                refine lv_iload hx hb dX9_copy_106 (lv_at hl 6 rfl) ?_
                refine lv_iload hx hb dX9_copy_108 (lv_at hl 7 rfl) ?_
                obtain ⟨⟨g221, g222, g223, g224, g225⟩, h⟩ := bq_gp h
                obtain ⟨x23, hx23, h⟩ := bq_b h
                refine va_copyl (D := D) hx hb (hml.trans hl.1.symm) hown (hts _ ml_X9_273) (hts _ acn) (hts _ acs) (hts _ aci) hK hP (hD _) hS 41 39 1 1 rfl rfl rfl rfl rfl g221 g222 g223 g224 g225 (fun _ _ => rfl) (by decide) (by decide +kernel) dX9_copy_110 (fun H locs hP _ hS => ?_)
                replace hP : va_P D bq_cl (bq_wC a k x23) H := by rw [hx23]; exact hP
                refine lv_iload hx hb dX9_copy_113 (lv_at hl 7 rfl) ?_
                obtain ⟨e1, e2⟩ := Prod.mk.inj (hret _ h)
                exact hR _ _ _ _ _ (congrArg some e1) rfl (by rw [e2]; exact hP) hS dX9_copy_115
              · replace h := (if_pos c21).symm.trans h
                refine lv_bipush (v := (-13 : Int32)) hx hb dX9_copy_92 (by decide) ?_
                obtain ⟨e1, e2⟩ := Prod.mk.inj (hret _ h)
                exact hR _ _ _ _ _ (congrArg some e1) rfl (by rw [e2]; exact hP) hS dX9_copy_94
          · replace h := (if_neg c13).symm.trans h
            refine lv_bipush (v := (-12 : Int32)) hx hb dX9_copy_66 (by decide) ?_
            obtain ⟨e1, e2⟩ := Prod.mk.inj (hret _ h)
            exact hR _ _ _ _ _ (congrArg some e1) rfl (by rw [e2]; exact hP) hS dX9_copy_68
        · replace h := (if_pos c12).symm.trans h
          refine lv_bipush (v := (-11 : Int32)) hx hb dX9_copy_50 (by decide) ?_
          obtain ⟨e1, e2⟩ := Prod.mk.inj (hret _ h)
          exact hR _ _ _ _ _ (congrArg some e1) rfl (by rw [e2]; exact hP) hS dX9_copy_52
    · replace h := (if_pos c8).symm.trans h
      refine lv_iconst (v := (-1 : Int32)) hx hb dX9_copy_14 (by decide) ?_
      obtain ⟨e1, e2⟩ := Prod.mk.inj (hret _ h)
      exact hR _ _ _ _ _ (congrArg some e1) rfl (by rw [e2]; exact hP) hS dX9_copy_15
set_option maxHeartbeats 4000000 in
set_option maxRecDepth 100000 in
theorem cX9_copy_k_0_s3_s3 {l : Launch} {D : va_G} {a : Nat → Nat} {k : Nat → ClassId} {p1 : Int32} {p2 : Int32} {p3 : Int32} {p4 : Int32} {p5 : Int32} {x0 xz : bq_S} {rz : Int32} (hkp1 : p1.toNatClampNeg = 3) (hkp3 : p3.toNatClampNeg = 3) (h : fX9_copy  p1 p2 p3 p4 p5 x0 = some (rz, xz)) : bq_M l D bq_cl (bq_ty k) (bq_wC a k) yX9_copy cX9_copy 8 (some .int) { frames := 1, cells := 0, slots := 0, locals := 60 } [.ref (a 0), .int p1, .int p2, .int p3, .int p4, .int p5] x0 (some rz) xz := by
  refine bq_ofW RX9 [(0, .ref (a 0)), (1, .int p1), (2, .int p2), (3, .int p3), (4, .int p4), (5, .int p5)] (by decide +kernel) rfl (Nat.le_of_ble_eq_true rfl) rfl (bq_adC a k) ?_
  intro p e s m below meth c A Q ls S hK hD hA hR hS hP hl
  have hx := S.1; have hb := S.2.1; have hml := S.2.2.1; have hown := S.2.2.2.1; have hts := S.2.2.2.2
  have hret : ∀ z, some z = some (rz, xz) → (rz, xz) = z := fun z h => (Option.some.inj h).symm
  unfold fX9_copy at h
  refine lv_iload_n hx hb dX9_copy_0 rfl (lv_at hl 1 rfl) ?_
  obtain ⟨o1, ho1, h⟩ := Option.bind_eq_some_iff.mp h
  obtain ⟨v3, x2⟩ := o1
  replace h := un2_e h
  refine bq_callSi (As := [.int _]) S hK hD hA hP hS (cX9_isSheet_k ho1) hd_yX9_isSheet ml_X9_252 st_yX9_isSheet ⟨rfl, rfl⟩ ⟨by decide, by decide⟩ rfl hl.1 rfl (Nat.le_of_ble_eq_true rfl) ⟨Nat.zero_le _, Nat.zero_le _⟩ dX9_copy_1 (fun H locs hP hS => ?_)
  refine lv_if_eq (tgt := 14) hx hb dX9_copy_4 (by decide) (fun c4 => ?_) (fun c4 => ?_)
  · replace h := (if_pos c4).symm.trans h
    refine lv_iconst (v := (-1 : Int32)) hx hb dX9_copy_14 (by decide) ?_
    obtain ⟨e1, e2⟩ := Prod.mk.inj (hret _ h)
    exact hR _ _ _ _ _ (congrArg some e1) rfl (by rw [e2]; exact hP) hS dX9_copy_15
  · replace h := (if_neg c4).symm.trans h
    refine lv_iload_n hx hb dX9_copy_7 rfl (lv_at hl 3 rfl) ?_
    obtain ⟨o5, ho5, h⟩ := Option.bind_eq_some_iff.mp h
    obtain ⟨v7, x6⟩ := o5
    replace h := un2_e h
    refine bq_callSi (As := [.int _]) S hK hD hA hP hS (cX9_isSheet_k ho5) hd_yX9_isSheet ml_X9_252 st_yX9_isSheet ⟨rfl, rfl⟩ ⟨by decide, by decide⟩ rfl hl.1 rfl (Nat.le_of_ble_eq_true rfl) ⟨Nat.zero_le _, Nat.zero_le _⟩ dX9_copy_8 (fun H locs hP hS => ?_)
    refine lv_if_ne (tgt := 16) hx hb dX9_copy_11 (by decide) (fun c8 => ?_) (fun c8 => ?_)
    · replace h := (if_neg c8).symm.trans h
      refine lv_aload_n hx hb dX9_copy_16 rfl (lv_at hl 0 rfl) ?_
      refine bq_get (q0 := 0) S hK hP fl_X9_70_X9_9 rfl rfl rfl dX9_copy_17 ?_
      refine lv_iload_n hx hb dX9_copy_20 rfl (lv_at hl 1 rfl) ?_
      obtain ⟨g9, h⟩ := bq_gd h
      refine va_aldq (D := D) hx hb hK hP 33 3 rfl rfl g9 dX9_copy_21 ?_
      rw [hkp1]
      try rw [hkp1] at h
      refine W.eq (g2 := F0 m 22 ls [.ref (a 40)]) rfl ?_
      refine lv_astore (lv' := [(6, .ref (a 40)), (0, .ref (a 0)), (1, .int p1), (2, .int p2), (3, .int p3), (4, .int p4), (5, .int p5)]) hx hb dX9_copy_22 hl (by decide) rfl (fun ls hl => ?_)
      refine lv_aload_n hx hb dX9_copy_24 rfl (lv_at hl 1 rfl) ?_
      refine bq_get (q0 := 0) S hK hP fl_X9_70_X9_9 rfl rfl rfl dX9_copy_25 ?_
      refine lv_iload_n hx hb dX9_copy_28 rfl (lv_at hl 4 rfl) ?_
      obtain ⟨g10, h⟩ := bq_gd h
      refine va_aldq (D := D) hx hb hK hP 33 3 rfl rfl g10 dX9_copy_29 ?_
      rw [hkp3]
      try rw [hkp3] at h
      refine W.eq (g2 := F0 m 30 ls [.ref (a 40)]) rfl ?_
      refine lv_astore (lv' := [(7, .ref (a 40)), (6, .ref (a 40)), (0, .ref (a 0)), (1, .int p1), (2, .int p2), (3, .int p3), (4, .int p4), (5, .int p5)]) hx hb dX9_copy_30 hl (by decide) rfl (fun ls hl => ?_)
      refine lv_aload hx hb dX9_copy_32 (lv_at hl 1 rfl) ?_
      refine bq_get (q0 := 40) S hK hP fl_X9_262_X6_1 rfl rfl rfl dX9_copy_34 ?_
      refine lv_iconst (v := (-1 : Int32)) hx hb dX9_copy_37 (by decide) ?_
      refine lv_icmp_eq (tgt := 50) hx hb dX9_copy_38 (by decide) (fun c11 => ?_) (fun c11 => ?_)
      · replace h := (if_pos c11).symm.trans h
        refine lv_bipush (v := (-11 : Int32)) hx hb dX9_copy_50 (by decide) ?_
        obtain ⟨e1, e2⟩ := Prod.mk.inj (hret _ h)
        exact hR _ _ _ _ _ (congrArg some e1) rfl (by rw [e2]; exact hP) hS dX9_copy_52
      · replace h := (if_neg c11).symm.trans h
        refine lv_aload hx hb dX9_copy_41 (lv_at hl 0 rfl) ?_
        refine bq_get (q0 := 40) S hK hP fl_X9_262_X6_1 rfl rfl rfl dX9_copy_43 ?_
        refine lv_iconst (v := (-1 : Int32)) hx hb dX9_copy_46 (by decide) ?_
        refine lv_icmp_ne (tgt := 53) hx hb dX9_copy_47 (by decide) (fun c12 => ?_) (fun c12 => ?_)
        · replace h := (if_neg c12).symm.trans h
          refine lv_aload hx hb dX9_copy_53 (lv_at hl 1 rfl) ?_
          refine bq_get (q0 := 40) S hK hP fl_X9_262_X6_1 rfl rfl rfl dX9_copy_55 ?_
          refine lv_aload hx hb dX9_copy_58 (lv_at hl 0 rfl) ?_
          refine bq_get (q0 := 40) S hK hP fl_X9_262_X6_1 rfl rfl rfl dX9_copy_60 ?_
          refine lv_icmp_eq (tgt := 69) hx hb dX9_copy_63 (by decide) (fun c13 => ?_) (fun c13 => ?_)
          · replace h := (if_pos c13).symm.trans h
            refine lv_aload hx hb dX9_copy_69 (lv_at hl 1 rfl) ?_
            refine lv_iload_n hx hb dX9_copy_71 rfl (lv_at hl 4 rfl) ?_
            refine lv_iload hx hb dX9_copy_72 (lv_at hl 7 rfl) ?_
            obtain ⟨o14, ho14, h⟩ := Option.bind_eq_some_iff.mp h
            obtain ⟨v16, x15⟩ := o14
            replace h := un2_e h
            refine bq_callVi (q0 := 40) (As := [.int _, .int _]) S hK hD hA hP hS (cX6_holds_k_40 ho14) hd_yX6_holds ml_X9_270 in_yX6_holds (hts _ sl_X6_X6_yX6_holds) ⟨rfl, rfl⟩ ⟨by decide, by decide⟩ rfl rfl rfl hl.1 rfl (Nat.le_of_ble_eq_true rfl) ⟨Nat.zero_le _, Nat.zero_le _⟩ dX9_copy_74 (fun H locs hP hS => ?_)
            refine lv_if_eq (tgt := 92) hx hb dX9_copy_77 (by decide) (fun c17 => ?_) (fun c17 => ?_)
            · replace h := (if_pos c17).symm.trans h
              refine lv_bipush (v := (-13 : Int32)) hx hb dX9_copy_92 (by decide) ?_
              obtain ⟨e1, e2⟩ := Prod.mk.inj (hret _ h)
              exact hR _ _ _ _ _ (congrArg some e1) rfl (by rw [e2]; exact hP) hS dX9_copy_94
            · replace h := (if_neg c17).symm.trans h
              refine lv_aload hx hb dX9_copy_80 (lv_at hl 0 rfl) ?_
              refine lv_iload hx hb dX9_copy_82 (lv_at hl 6 rfl) ?_
              refine lv_iload hx hb dX9_copy_84 (lv_at hl 7 rfl) ?_
              obtain ⟨o18, ho18, h⟩ := Option.bind_eq_some_iff.mp h
              obtain ⟨v20, x19⟩ := o18
              replace h := un2_e h
              refine bq_callVi (q0 := 40) (As := [.int _, .int _]) S hK hD hA hP hS (cX6_holds_k_40 ho18) hd_yX6_holds ml_X9_270 in_yX6_holds (hts _ sl_X6_X6_yX6_holds) ⟨rfl, rfl⟩ ⟨by decide, by decide⟩ rfl rfl rfl hl.1 rfl (Nat.le_of_ble_eq_true rfl) ⟨Nat.zero_le _, Nat.zero_le _⟩ dX9_copy_86 (fun H locs hP hS => ?_)
              refine lv_if_ne (tgt := 95) hx hb dX9_copy_89 (by decide) (fun c21 => ?_) (fun c21 => ?_)
              · replace h := (if_neg c21).symm.trans h
                refine lv_aload hx hb dX9_copy_95 (lv_at hl 1 rfl) ?_
                refine bq_get (q0 := 40) S hK hP fl_X9_237_X6_0 rfl rfl rfl dX9_copy_97 ?_
                refine lv_iload_n hx hb dX9_copy_100 rfl (lv_at hl 4 rfl) ?_
                refine lv_aload hx hb dX9_copy_101 (lv_at hl 0 rfl) ?_
                refine bq_get (q0 := 40) S hK hP fl_X9_237_X6_0 rfl rfl rfl dX9_copy_103 ?_
                refine lv_iload hx hb dX9_copy_106 (lv_at hl 6 rfl) ?_
                refine lv_iload hx hb dX9_copy_108 (lv_at hl 7 rfl) ?_
                obtain ⟨⟨g221, g222, g223, g224, g225⟩, h⟩ := bq_gp h
                obtain ⟨x23, hx23, h⟩ := bq_b h
                refine va_copyl (D := D) hx hb (hml.trans hl.1.symm) hown (hts _ ml_X9_273) (hts _ acn) (hts _ acs) (hts _ aci) hK hP (hD _) hS 41 41 1 1 rfl rfl rfl rfl rfl g221 g222 g223 g224 g225 (fun _ _ => rfl) (by decide) (by decide +kernel) dX9_copy_110 (fun H locs hP _ hS => ?_)
                replace hP : va_P D bq_cl (bq_wC a k x23) H := by rw [hx23]; exact hP
                refine lv_iload hx hb dX9_copy_113 (lv_at hl 7 rfl) ?_
                obtain ⟨e1, e2⟩ := Prod.mk.inj (hret _ h)
                exact hR _ _ _ _ _ (congrArg some e1) rfl (by rw [e2]; exact hP) hS dX9_copy_115
              · replace h := (if_pos c21).symm.trans h
                refine lv_bipush (v := (-13 : Int32)) hx hb dX9_copy_92 (by decide) ?_
                obtain ⟨e1, e2⟩ := Prod.mk.inj (hret _ h)
                exact hR _ _ _ _ _ (congrArg some e1) rfl (by rw [e2]; exact hP) hS dX9_copy_94
          · replace h := (if_neg c13).symm.trans h
            refine lv_bipush (v := (-12 : Int32)) hx hb dX9_copy_66 (by decide) ?_
            obtain ⟨e1, e2⟩ := Prod.mk.inj (hret _ h)
            exact hR _ _ _ _ _ (congrArg some e1) rfl (by rw [e2]; exact hP) hS dX9_copy_68
        · replace h := (if_pos c12).symm.trans h
          refine lv_bipush (v := (-11 : Int32)) hx hb dX9_copy_50 (by decide) ?_
          obtain ⟨e1, e2⟩ := Prod.mk.inj (hret _ h)
          exact hR _ _ _ _ _ (congrArg some e1) rfl (by rw [e2]; exact hP) hS dX9_copy_52
    · replace h := (if_pos c8).symm.trans h
      refine lv_iconst (v := (-1 : Int32)) hx hb dX9_copy_14 (by decide) ?_
      obtain ⟨e1, e2⟩ := Prod.mk.inj (hret _ h)
      exact hR _ _ _ _ _ (congrArg some e1) rfl (by rw [e2]; exact hP) hS dX9_copy_15
set_option maxHeartbeats 4000000 in
set_option maxRecDepth 100000 in
theorem cX9_copy_k_0_s3_sb {l : Launch} {D : va_G} {a : Nat → Nat} {k : Nat → ClassId} {p1 : Int32} {p2 : Int32} {p3 : Int32} {p4 : Int32} {p5 : Int32} {x0 xz : bq_S} {rz : Int32} (hkp1 : p1.toNatClampNeg = 3) (hkp3 : ¬ p3.toNatClampNeg < 4) (h : fX9_copy  p1 p2 p3 p4 p5 x0 = some (rz, xz)) : bq_M l D bq_cl (bq_ty k) (bq_wC a k) yX9_copy cX9_copy 8 (some .int) { frames := 1, cells := 0, slots := 0, locals := 60 } [.ref (a 0), .int p1, .int p2, .int p3, .int p4, .int p5] x0 (some rz) xz := by
  refine bq_ofW RX9 [(0, .ref (a 0)), (1, .int p1), (2, .int p2), (3, .int p3), (4, .int p4), (5, .int p5)] (by decide +kernel) rfl (Nat.le_of_ble_eq_true rfl) rfl (bq_adC a k) ?_
  intro p e s m below meth c A Q ls S hK hD hA hR hS hP hl
  have hx := S.1; have hb := S.2.1; have hml := S.2.2.1; have hown := S.2.2.2.1; have hts := S.2.2.2.2
  have hret : ∀ z, some z = some (rz, xz) → (rz, xz) = z := fun z h => (Option.some.inj h).symm
  unfold fX9_copy at h
  refine lv_iload_n hx hb dX9_copy_0 rfl (lv_at hl 1 rfl) ?_
  obtain ⟨o1, ho1, h⟩ := Option.bind_eq_some_iff.mp h
  obtain ⟨v3, x2⟩ := o1
  replace h := un2_e h
  refine bq_callSi (As := [.int _]) S hK hD hA hP hS (cX9_isSheet_k ho1) hd_yX9_isSheet ml_X9_252 st_yX9_isSheet ⟨rfl, rfl⟩ ⟨by decide, by decide⟩ rfl hl.1 rfl (Nat.le_of_ble_eq_true rfl) ⟨Nat.zero_le _, Nat.zero_le _⟩ dX9_copy_1 (fun H locs hP hS => ?_)
  refine lv_if_eq (tgt := 14) hx hb dX9_copy_4 (by decide) (fun c4 => ?_) (fun c4 => ?_)
  · replace h := (if_pos c4).symm.trans h
    refine lv_iconst (v := (-1 : Int32)) hx hb dX9_copy_14 (by decide) ?_
    obtain ⟨e1, e2⟩ := Prod.mk.inj (hret _ h)
    exact hR _ _ _ _ _ (congrArg some e1) rfl (by rw [e2]; exact hP) hS dX9_copy_15
  · replace h := (if_neg c4).symm.trans h
    refine lv_iload_n hx hb dX9_copy_7 rfl (lv_at hl 3 rfl) ?_
    obtain ⟨o5, ho5, h⟩ := Option.bind_eq_some_iff.mp h
    obtain ⟨v7, x6⟩ := o5
    replace h := un2_e h
    refine bq_callSi (As := [.int _]) S hK hD hA hP hS (cX9_isSheet_k ho5) hd_yX9_isSheet ml_X9_252 st_yX9_isSheet ⟨rfl, rfl⟩ ⟨by decide, by decide⟩ rfl hl.1 rfl (Nat.le_of_ble_eq_true rfl) ⟨Nat.zero_le _, Nat.zero_le _⟩ dX9_copy_8 (fun H locs hP hS => ?_)
    refine lv_if_ne (tgt := 16) hx hb dX9_copy_11 (by decide) (fun c8 => ?_) (fun c8 => ?_)
    · replace h := (if_neg c8).symm.trans h
      refine lv_aload_n hx hb dX9_copy_16 rfl (lv_at hl 0 rfl) ?_
      refine bq_get (q0 := 0) S hK hP fl_X9_70_X9_9 rfl rfl rfl dX9_copy_17 ?_
      refine lv_iload_n hx hb dX9_copy_20 rfl (lv_at hl 1 rfl) ?_
      obtain ⟨g9, h⟩ := bq_gd h
      refine va_aldq (D := D) hx hb hK hP 33 3 rfl rfl g9 dX9_copy_21 ?_
      rw [hkp1]
      try rw [hkp1] at h
      refine W.eq (g2 := F0 m 22 ls [.ref (a 40)]) rfl ?_
      refine lv_astore (lv' := [(6, .ref (a 40)), (0, .ref (a 0)), (1, .int p1), (2, .int p2), (3, .int p3), (4, .int p4), (5, .int p5)]) hx hb dX9_copy_22 hl (by decide) rfl (fun ls hl => ?_)
      refine lv_aload_n hx hb dX9_copy_24 rfl (lv_at hl 1 rfl) ?_
      refine bq_get (q0 := 0) S hK hP fl_X9_70_X9_9 rfl rfl rfl dX9_copy_25 ?_
      refine lv_iload_n hx hb dX9_copy_28 rfl (lv_at hl 4 rfl) ?_
      obtain ⟨g10, h⟩ := bq_gd h
      exact absurd (bq_lt g10) hkp3
    · replace h := (if_pos c8).symm.trans h
      refine lv_iconst (v := (-1 : Int32)) hx hb dX9_copy_14 (by decide) ?_
      obtain ⟨e1, e2⟩ := Prod.mk.inj (hret _ h)
      exact hR _ _ _ _ _ (congrArg some e1) rfl (by rw [e2]; exact hP) hS dX9_copy_15
set_option maxHeartbeats 4000000 in
set_option maxRecDepth 100000 in
theorem cX9_copy_k_0_sb_s0 {l : Launch} {D : va_G} {a : Nat → Nat} {k : Nat → ClassId} {p1 : Int32} {p2 : Int32} {p3 : Int32} {p4 : Int32} {p5 : Int32} {x0 xz : bq_S} {rz : Int32} (hkp1 : ¬ p1.toNatClampNeg < 4) (hkp3 : p3.toNatClampNeg = 0) (h : fX9_copy  p1 p2 p3 p4 p5 x0 = some (rz, xz)) : bq_M l D bq_cl (bq_ty k) (bq_wC a k) yX9_copy cX9_copy 8 (some .int) { frames := 1, cells := 0, slots := 0, locals := 60 } [.ref (a 0), .int p1, .int p2, .int p3, .int p4, .int p5] x0 (some rz) xz := by
  refine bq_ofW RX9 [(0, .ref (a 0)), (1, .int p1), (2, .int p2), (3, .int p3), (4, .int p4), (5, .int p5)] (by decide +kernel) rfl (Nat.le_of_ble_eq_true rfl) rfl (bq_adC a k) ?_
  intro p e s m below meth c A Q ls S hK hD hA hR hS hP hl
  have hx := S.1; have hb := S.2.1; have hml := S.2.2.1; have hown := S.2.2.2.1; have hts := S.2.2.2.2
  have hret : ∀ z, some z = some (rz, xz) → (rz, xz) = z := fun z h => (Option.some.inj h).symm
  unfold fX9_copy at h
  refine lv_iload_n hx hb dX9_copy_0 rfl (lv_at hl 1 rfl) ?_
  obtain ⟨o1, ho1, h⟩ := Option.bind_eq_some_iff.mp h
  obtain ⟨v3, x2⟩ := o1
  replace h := un2_e h
  refine bq_callSi (As := [.int _]) S hK hD hA hP hS (cX9_isSheet_k ho1) hd_yX9_isSheet ml_X9_252 st_yX9_isSheet ⟨rfl, rfl⟩ ⟨by decide, by decide⟩ rfl hl.1 rfl (Nat.le_of_ble_eq_true rfl) ⟨Nat.zero_le _, Nat.zero_le _⟩ dX9_copy_1 (fun H locs hP hS => ?_)
  refine lv_if_eq (tgt := 14) hx hb dX9_copy_4 (by decide) (fun c4 => ?_) (fun c4 => ?_)
  · replace h := (if_pos c4).symm.trans h
    refine lv_iconst (v := (-1 : Int32)) hx hb dX9_copy_14 (by decide) ?_
    obtain ⟨e1, e2⟩ := Prod.mk.inj (hret _ h)
    exact hR _ _ _ _ _ (congrArg some e1) rfl (by rw [e2]; exact hP) hS dX9_copy_15
  · replace h := (if_neg c4).symm.trans h
    refine lv_iload_n hx hb dX9_copy_7 rfl (lv_at hl 3 rfl) ?_
    obtain ⟨o5, ho5, h⟩ := Option.bind_eq_some_iff.mp h
    obtain ⟨v7, x6⟩ := o5
    replace h := un2_e h
    refine bq_callSi (As := [.int _]) S hK hD hA hP hS (cX9_isSheet_k ho5) hd_yX9_isSheet ml_X9_252 st_yX9_isSheet ⟨rfl, rfl⟩ ⟨by decide, by decide⟩ rfl hl.1 rfl (Nat.le_of_ble_eq_true rfl) ⟨Nat.zero_le _, Nat.zero_le _⟩ dX9_copy_8 (fun H locs hP hS => ?_)
    refine lv_if_ne (tgt := 16) hx hb dX9_copy_11 (by decide) (fun c8 => ?_) (fun c8 => ?_)
    · replace h := (if_neg c8).symm.trans h
      refine lv_aload_n hx hb dX9_copy_16 rfl (lv_at hl 0 rfl) ?_
      refine bq_get (q0 := 0) S hK hP fl_X9_70_X9_9 rfl rfl rfl dX9_copy_17 ?_
      refine lv_iload_n hx hb dX9_copy_20 rfl (lv_at hl 1 rfl) ?_
      obtain ⟨g9, h⟩ := bq_gd h
      exact absurd (bq_lt g9) hkp1
    · replace h := (if_pos c8).symm.trans h
      refine lv_iconst (v := (-1 : Int32)) hx hb dX9_copy_14 (by decide) ?_
      obtain ⟨e1, e2⟩ := Prod.mk.inj (hret _ h)
      exact hR _ _ _ _ _ (congrArg some e1) rfl (by rw [e2]; exact hP) hS dX9_copy_15
set_option maxHeartbeats 4000000 in
set_option maxRecDepth 100000 in
theorem cX9_copy_k_0_sb_s1 {l : Launch} {D : va_G} {a : Nat → Nat} {k : Nat → ClassId} {p1 : Int32} {p2 : Int32} {p3 : Int32} {p4 : Int32} {p5 : Int32} {x0 xz : bq_S} {rz : Int32} (hkp1 : ¬ p1.toNatClampNeg < 4) (hkp3 : p3.toNatClampNeg = 1) (h : fX9_copy  p1 p2 p3 p4 p5 x0 = some (rz, xz)) : bq_M l D bq_cl (bq_ty k) (bq_wC a k) yX9_copy cX9_copy 8 (some .int) { frames := 1, cells := 0, slots := 0, locals := 60 } [.ref (a 0), .int p1, .int p2, .int p3, .int p4, .int p5] x0 (some rz) xz := by
  refine bq_ofW RX9 [(0, .ref (a 0)), (1, .int p1), (2, .int p2), (3, .int p3), (4, .int p4), (5, .int p5)] (by decide +kernel) rfl (Nat.le_of_ble_eq_true rfl) rfl (bq_adC a k) ?_
  intro p e s m below meth c A Q ls S hK hD hA hR hS hP hl
  have hx := S.1; have hb := S.2.1; have hml := S.2.2.1; have hown := S.2.2.2.1; have hts := S.2.2.2.2
  have hret : ∀ z, some z = some (rz, xz) → (rz, xz) = z := fun z h => (Option.some.inj h).symm
  unfold fX9_copy at h
  refine lv_iload_n hx hb dX9_copy_0 rfl (lv_at hl 1 rfl) ?_
  obtain ⟨o1, ho1, h⟩ := Option.bind_eq_some_iff.mp h
  obtain ⟨v3, x2⟩ := o1
  replace h := un2_e h
  refine bq_callSi (As := [.int _]) S hK hD hA hP hS (cX9_isSheet_k ho1) hd_yX9_isSheet ml_X9_252 st_yX9_isSheet ⟨rfl, rfl⟩ ⟨by decide, by decide⟩ rfl hl.1 rfl (Nat.le_of_ble_eq_true rfl) ⟨Nat.zero_le _, Nat.zero_le _⟩ dX9_copy_1 (fun H locs hP hS => ?_)
  refine lv_if_eq (tgt := 14) hx hb dX9_copy_4 (by decide) (fun c4 => ?_) (fun c4 => ?_)
  · replace h := (if_pos c4).symm.trans h
    refine lv_iconst (v := (-1 : Int32)) hx hb dX9_copy_14 (by decide) ?_
    obtain ⟨e1, e2⟩ := Prod.mk.inj (hret _ h)
    exact hR _ _ _ _ _ (congrArg some e1) rfl (by rw [e2]; exact hP) hS dX9_copy_15
  · replace h := (if_neg c4).symm.trans h
    refine lv_iload_n hx hb dX9_copy_7 rfl (lv_at hl 3 rfl) ?_
    obtain ⟨o5, ho5, h⟩ := Option.bind_eq_some_iff.mp h
    obtain ⟨v7, x6⟩ := o5
    replace h := un2_e h
    refine bq_callSi (As := [.int _]) S hK hD hA hP hS (cX9_isSheet_k ho5) hd_yX9_isSheet ml_X9_252 st_yX9_isSheet ⟨rfl, rfl⟩ ⟨by decide, by decide⟩ rfl hl.1 rfl (Nat.le_of_ble_eq_true rfl) ⟨Nat.zero_le _, Nat.zero_le _⟩ dX9_copy_8 (fun H locs hP hS => ?_)
    refine lv_if_ne (tgt := 16) hx hb dX9_copy_11 (by decide) (fun c8 => ?_) (fun c8 => ?_)
    · replace h := (if_neg c8).symm.trans h
      refine lv_aload_n hx hb dX9_copy_16 rfl (lv_at hl 0 rfl) ?_
      refine bq_get (q0 := 0) S hK hP fl_X9_70_X9_9 rfl rfl rfl dX9_copy_17 ?_
      refine lv_iload_n hx hb dX9_copy_20 rfl (lv_at hl 1 rfl) ?_
      obtain ⟨g9, h⟩ := bq_gd h
      exact absurd (bq_lt g9) hkp1
    · replace h := (if_pos c8).symm.trans h
      refine lv_iconst (v := (-1 : Int32)) hx hb dX9_copy_14 (by decide) ?_
      obtain ⟨e1, e2⟩ := Prod.mk.inj (hret _ h)
      exact hR _ _ _ _ _ (congrArg some e1) rfl (by rw [e2]; exact hP) hS dX9_copy_15
set_option maxHeartbeats 4000000 in
set_option maxRecDepth 100000 in
theorem cX9_copy_k_0_sb_s2 {l : Launch} {D : va_G} {a : Nat → Nat} {k : Nat → ClassId} {p1 : Int32} {p2 : Int32} {p3 : Int32} {p4 : Int32} {p5 : Int32} {x0 xz : bq_S} {rz : Int32} (hkp1 : ¬ p1.toNatClampNeg < 4) (hkp3 : p3.toNatClampNeg = 2) (h : fX9_copy  p1 p2 p3 p4 p5 x0 = some (rz, xz)) : bq_M l D bq_cl (bq_ty k) (bq_wC a k) yX9_copy cX9_copy 8 (some .int) { frames := 1, cells := 0, slots := 0, locals := 60 } [.ref (a 0), .int p1, .int p2, .int p3, .int p4, .int p5] x0 (some rz) xz := by
  refine bq_ofW RX9 [(0, .ref (a 0)), (1, .int p1), (2, .int p2), (3, .int p3), (4, .int p4), (5, .int p5)] (by decide +kernel) rfl (Nat.le_of_ble_eq_true rfl) rfl (bq_adC a k) ?_
  intro p e s m below meth c A Q ls S hK hD hA hR hS hP hl
  have hx := S.1; have hb := S.2.1; have hml := S.2.2.1; have hown := S.2.2.2.1; have hts := S.2.2.2.2
  have hret : ∀ z, some z = some (rz, xz) → (rz, xz) = z := fun z h => (Option.some.inj h).symm
  unfold fX9_copy at h
  refine lv_iload_n hx hb dX9_copy_0 rfl (lv_at hl 1 rfl) ?_
  obtain ⟨o1, ho1, h⟩ := Option.bind_eq_some_iff.mp h
  obtain ⟨v3, x2⟩ := o1
  replace h := un2_e h
  refine bq_callSi (As := [.int _]) S hK hD hA hP hS (cX9_isSheet_k ho1) hd_yX9_isSheet ml_X9_252 st_yX9_isSheet ⟨rfl, rfl⟩ ⟨by decide, by decide⟩ rfl hl.1 rfl (Nat.le_of_ble_eq_true rfl) ⟨Nat.zero_le _, Nat.zero_le _⟩ dX9_copy_1 (fun H locs hP hS => ?_)
  refine lv_if_eq (tgt := 14) hx hb dX9_copy_4 (by decide) (fun c4 => ?_) (fun c4 => ?_)
  · replace h := (if_pos c4).symm.trans h
    refine lv_iconst (v := (-1 : Int32)) hx hb dX9_copy_14 (by decide) ?_
    obtain ⟨e1, e2⟩ := Prod.mk.inj (hret _ h)
    exact hR _ _ _ _ _ (congrArg some e1) rfl (by rw [e2]; exact hP) hS dX9_copy_15
  · replace h := (if_neg c4).symm.trans h
    refine lv_iload_n hx hb dX9_copy_7 rfl (lv_at hl 3 rfl) ?_
    obtain ⟨o5, ho5, h⟩ := Option.bind_eq_some_iff.mp h
    obtain ⟨v7, x6⟩ := o5
    replace h := un2_e h
    refine bq_callSi (As := [.int _]) S hK hD hA hP hS (cX9_isSheet_k ho5) hd_yX9_isSheet ml_X9_252 st_yX9_isSheet ⟨rfl, rfl⟩ ⟨by decide, by decide⟩ rfl hl.1 rfl (Nat.le_of_ble_eq_true rfl) ⟨Nat.zero_le _, Nat.zero_le _⟩ dX9_copy_8 (fun H locs hP hS => ?_)
    refine lv_if_ne (tgt := 16) hx hb dX9_copy_11 (by decide) (fun c8 => ?_) (fun c8 => ?_)
    · replace h := (if_neg c8).symm.trans h
      refine lv_aload_n hx hb dX9_copy_16 rfl (lv_at hl 0 rfl) ?_
      refine bq_get (q0 := 0) S hK hP fl_X9_70_X9_9 rfl rfl rfl dX9_copy_17 ?_
      refine lv_iload_n hx hb dX9_copy_20 rfl (lv_at hl 1 rfl) ?_
      obtain ⟨g9, h⟩ := bq_gd h
      exact absurd (bq_lt g9) hkp1
    · replace h := (if_pos c8).symm.trans h
      refine lv_iconst (v := (-1 : Int32)) hx hb dX9_copy_14 (by decide) ?_
      obtain ⟨e1, e2⟩ := Prod.mk.inj (hret _ h)
      exact hR _ _ _ _ _ (congrArg some e1) rfl (by rw [e2]; exact hP) hS dX9_copy_15
set_option maxHeartbeats 4000000 in
set_option maxRecDepth 100000 in
theorem cX9_copy_k_0_sb_s3 {l : Launch} {D : va_G} {a : Nat → Nat} {k : Nat → ClassId} {p1 : Int32} {p2 : Int32} {p3 : Int32} {p4 : Int32} {p5 : Int32} {x0 xz : bq_S} {rz : Int32} (hkp1 : ¬ p1.toNatClampNeg < 4) (hkp3 : p3.toNatClampNeg = 3) (h : fX9_copy  p1 p2 p3 p4 p5 x0 = some (rz, xz)) : bq_M l D bq_cl (bq_ty k) (bq_wC a k) yX9_copy cX9_copy 8 (some .int) { frames := 1, cells := 0, slots := 0, locals := 60 } [.ref (a 0), .int p1, .int p2, .int p3, .int p4, .int p5] x0 (some rz) xz := by
  refine bq_ofW RX9 [(0, .ref (a 0)), (1, .int p1), (2, .int p2), (3, .int p3), (4, .int p4), (5, .int p5)] (by decide +kernel) rfl (Nat.le_of_ble_eq_true rfl) rfl (bq_adC a k) ?_
  intro p e s m below meth c A Q ls S hK hD hA hR hS hP hl
  have hx := S.1; have hb := S.2.1; have hml := S.2.2.1; have hown := S.2.2.2.1; have hts := S.2.2.2.2
  have hret : ∀ z, some z = some (rz, xz) → (rz, xz) = z := fun z h => (Option.some.inj h).symm
  unfold fX9_copy at h
  refine lv_iload_n hx hb dX9_copy_0 rfl (lv_at hl 1 rfl) ?_
  obtain ⟨o1, ho1, h⟩ := Option.bind_eq_some_iff.mp h
  obtain ⟨v3, x2⟩ := o1
  replace h := un2_e h
  refine bq_callSi (As := [.int _]) S hK hD hA hP hS (cX9_isSheet_k ho1) hd_yX9_isSheet ml_X9_252 st_yX9_isSheet ⟨rfl, rfl⟩ ⟨by decide, by decide⟩ rfl hl.1 rfl (Nat.le_of_ble_eq_true rfl) ⟨Nat.zero_le _, Nat.zero_le _⟩ dX9_copy_1 (fun H locs hP hS => ?_)
  refine lv_if_eq (tgt := 14) hx hb dX9_copy_4 (by decide) (fun c4 => ?_) (fun c4 => ?_)
  · replace h := (if_pos c4).symm.trans h
    refine lv_iconst (v := (-1 : Int32)) hx hb dX9_copy_14 (by decide) ?_
    obtain ⟨e1, e2⟩ := Prod.mk.inj (hret _ h)
    exact hR _ _ _ _ _ (congrArg some e1) rfl (by rw [e2]; exact hP) hS dX9_copy_15
  · replace h := (if_neg c4).symm.trans h
    refine lv_iload_n hx hb dX9_copy_7 rfl (lv_at hl 3 rfl) ?_
    obtain ⟨o5, ho5, h⟩ := Option.bind_eq_some_iff.mp h
    obtain ⟨v7, x6⟩ := o5
    replace h := un2_e h
    refine bq_callSi (As := [.int _]) S hK hD hA hP hS (cX9_isSheet_k ho5) hd_yX9_isSheet ml_X9_252 st_yX9_isSheet ⟨rfl, rfl⟩ ⟨by decide, by decide⟩ rfl hl.1 rfl (Nat.le_of_ble_eq_true rfl) ⟨Nat.zero_le _, Nat.zero_le _⟩ dX9_copy_8 (fun H locs hP hS => ?_)
    refine lv_if_ne (tgt := 16) hx hb dX9_copy_11 (by decide) (fun c8 => ?_) (fun c8 => ?_)
    · replace h := (if_neg c8).symm.trans h
      refine lv_aload_n hx hb dX9_copy_16 rfl (lv_at hl 0 rfl) ?_
      refine bq_get (q0 := 0) S hK hP fl_X9_70_X9_9 rfl rfl rfl dX9_copy_17 ?_
      refine lv_iload_n hx hb dX9_copy_20 rfl (lv_at hl 1 rfl) ?_
      obtain ⟨g9, h⟩ := bq_gd h
      exact absurd (bq_lt g9) hkp1
    · replace h := (if_pos c8).symm.trans h
      refine lv_iconst (v := (-1 : Int32)) hx hb dX9_copy_14 (by decide) ?_
      obtain ⟨e1, e2⟩ := Prod.mk.inj (hret _ h)
      exact hR _ _ _ _ _ (congrArg some e1) rfl (by rw [e2]; exact hP) hS dX9_copy_15
set_option maxHeartbeats 4000000 in
set_option maxRecDepth 100000 in
theorem cX9_copy_k_0_sb_sb {l : Launch} {D : va_G} {a : Nat → Nat} {k : Nat → ClassId} {p1 : Int32} {p2 : Int32} {p3 : Int32} {p4 : Int32} {p5 : Int32} {x0 xz : bq_S} {rz : Int32} (hkp1 : ¬ p1.toNatClampNeg < 4) (hkp3 : ¬ p3.toNatClampNeg < 4) (h : fX9_copy  p1 p2 p3 p4 p5 x0 = some (rz, xz)) : bq_M l D bq_cl (bq_ty k) (bq_wC a k) yX9_copy cX9_copy 8 (some .int) { frames := 1, cells := 0, slots := 0, locals := 60 } [.ref (a 0), .int p1, .int p2, .int p3, .int p4, .int p5] x0 (some rz) xz := by
  refine bq_ofW RX9 [(0, .ref (a 0)), (1, .int p1), (2, .int p2), (3, .int p3), (4, .int p4), (5, .int p5)] (by decide +kernel) rfl (Nat.le_of_ble_eq_true rfl) rfl (bq_adC a k) ?_
  intro p e s m below meth c A Q ls S hK hD hA hR hS hP hl
  have hx := S.1; have hb := S.2.1; have hml := S.2.2.1; have hown := S.2.2.2.1; have hts := S.2.2.2.2
  have hret : ∀ z, some z = some (rz, xz) → (rz, xz) = z := fun z h => (Option.some.inj h).symm
  unfold fX9_copy at h
  refine lv_iload_n hx hb dX9_copy_0 rfl (lv_at hl 1 rfl) ?_
  obtain ⟨o1, ho1, h⟩ := Option.bind_eq_some_iff.mp h
  obtain ⟨v3, x2⟩ := o1
  replace h := un2_e h
  refine bq_callSi (As := [.int _]) S hK hD hA hP hS (cX9_isSheet_k ho1) hd_yX9_isSheet ml_X9_252 st_yX9_isSheet ⟨rfl, rfl⟩ ⟨by decide, by decide⟩ rfl hl.1 rfl (Nat.le_of_ble_eq_true rfl) ⟨Nat.zero_le _, Nat.zero_le _⟩ dX9_copy_1 (fun H locs hP hS => ?_)
  refine lv_if_eq (tgt := 14) hx hb dX9_copy_4 (by decide) (fun c4 => ?_) (fun c4 => ?_)
  · replace h := (if_pos c4).symm.trans h
    refine lv_iconst (v := (-1 : Int32)) hx hb dX9_copy_14 (by decide) ?_
    obtain ⟨e1, e2⟩ := Prod.mk.inj (hret _ h)
    exact hR _ _ _ _ _ (congrArg some e1) rfl (by rw [e2]; exact hP) hS dX9_copy_15
  · replace h := (if_neg c4).symm.trans h
    refine lv_iload_n hx hb dX9_copy_7 rfl (lv_at hl 3 rfl) ?_
    obtain ⟨o5, ho5, h⟩ := Option.bind_eq_some_iff.mp h
    obtain ⟨v7, x6⟩ := o5
    replace h := un2_e h
    refine bq_callSi (As := [.int _]) S hK hD hA hP hS (cX9_isSheet_k ho5) hd_yX9_isSheet ml_X9_252 st_yX9_isSheet ⟨rfl, rfl⟩ ⟨by decide, by decide⟩ rfl hl.1 rfl (Nat.le_of_ble_eq_true rfl) ⟨Nat.zero_le _, Nat.zero_le _⟩ dX9_copy_8 (fun H locs hP hS => ?_)
    refine lv_if_ne (tgt := 16) hx hb dX9_copy_11 (by decide) (fun c8 => ?_) (fun c8 => ?_)
    · replace h := (if_neg c8).symm.trans h
      refine lv_aload_n hx hb dX9_copy_16 rfl (lv_at hl 0 rfl) ?_
      refine bq_get (q0 := 0) S hK hP fl_X9_70_X9_9 rfl rfl rfl dX9_copy_17 ?_
      refine lv_iload_n hx hb dX9_copy_20 rfl (lv_at hl 1 rfl) ?_
      obtain ⟨g9, h⟩ := bq_gd h
      exact absurd (bq_lt g9) hkp1
    · replace h := (if_pos c8).symm.trans h
      refine lv_iconst (v := (-1 : Int32)) hx hb dX9_copy_14 (by decide) ?_
      obtain ⟨e1, e2⟩ := Prod.mk.inj (hret _ h)
      exact hR _ _ _ _ _ (congrArg some e1) rfl (by rw [e2]; exact hP) hS dX9_copy_15
theorem cX9_copy_k_0 {l : Launch} {D : va_G} {a : Nat → Nat} {k : Nat → ClassId} {p1 : Int32} {p2 : Int32} {p3 : Int32} {p4 : Int32} {p5 : Int32} {x0 xz : bq_S} {rz : Int32} (h : fX9_copy  p1 p2 p3 p4 p5 x0 = some (rz, xz)) : bq_M l D bq_cl (bq_ty k) (bq_wC a k) yX9_copy cX9_copy 8 (some .int) { frames := 1, cells := 0, slots := 0, locals := 60 } [.ref (a 0), .int p1, .int p2, .int p3, .int p4, .int p5] x0 (some rz) xz := by
  by_cases k0 : p1.toNatClampNeg < 4
  · rcases (show p1.toNatClampNeg = 0 ∨ p1.toNatClampNeg = 1 ∨ p1.toNatClampNeg = 2 ∨ p1.toNatClampNeg = 3 by omega) with e0 | e0 | e0 | e0
    · skip
      by_cases k1 : p3.toNatClampNeg < 4
      · rcases (show p3.toNatClampNeg = 0 ∨ p3.toNatClampNeg = 1 ∨ p3.toNatClampNeg = 2 ∨ p3.toNatClampNeg = 3 by omega) with e1 | e1 | e1 | e1
        · skip
          exact cX9_copy_k_0_s0_s0 e0 e1 h
        · skip
          exact cX9_copy_k_0_s0_s1 e0 e1 h
        · skip
          exact cX9_copy_k_0_s0_s2 e0 e1 h
        · skip
          exact cX9_copy_k_0_s0_s3 e0 e1 h
      · skip
        exact cX9_copy_k_0_s0_sb e0 k1 h
    · skip
      by_cases k1 : p3.toNatClampNeg < 4
      · rcases (show p3.toNatClampNeg = 0 ∨ p3.toNatClampNeg = 1 ∨ p3.toNatClampNeg = 2 ∨ p3.toNatClampNeg = 3 by omega) with e1 | e1 | e1 | e1
        · skip
          exact cX9_copy_k_0_s1_s0 e0 e1 h
        · skip
          exact cX9_copy_k_0_s1_s1 e0 e1 h
        · skip
          exact cX9_copy_k_0_s1_s2 e0 e1 h
        · skip
          exact cX9_copy_k_0_s1_s3 e0 e1 h
      · skip
        exact cX9_copy_k_0_s1_sb e0 k1 h
    · skip
      by_cases k1 : p3.toNatClampNeg < 4
      · rcases (show p3.toNatClampNeg = 0 ∨ p3.toNatClampNeg = 1 ∨ p3.toNatClampNeg = 2 ∨ p3.toNatClampNeg = 3 by omega) with e1 | e1 | e1 | e1
        · skip
          exact cX9_copy_k_0_s2_s0 e0 e1 h
        · skip
          exact cX9_copy_k_0_s2_s1 e0 e1 h
        · skip
          exact cX9_copy_k_0_s2_s2 e0 e1 h
        · skip
          exact cX9_copy_k_0_s2_s3 e0 e1 h
      · skip
        exact cX9_copy_k_0_s2_sb e0 k1 h
    · skip
      by_cases k1 : p3.toNatClampNeg < 4
      · rcases (show p3.toNatClampNeg = 0 ∨ p3.toNatClampNeg = 1 ∨ p3.toNatClampNeg = 2 ∨ p3.toNatClampNeg = 3 by omega) with e1 | e1 | e1 | e1
        · skip
          exact cX9_copy_k_0_s3_s0 e0 e1 h
        · skip
          exact cX9_copy_k_0_s3_s1 e0 e1 h
        · skip
          exact cX9_copy_k_0_s3_s2 e0 e1 h
        · skip
          exact cX9_copy_k_0_s3_s3 e0 e1 h
      · skip
        exact cX9_copy_k_0_s3_sb e0 k1 h
  · skip
    by_cases k1 : p3.toNatClampNeg < 4
    · rcases (show p3.toNatClampNeg = 0 ∨ p3.toNatClampNeg = 1 ∨ p3.toNatClampNeg = 2 ∨ p3.toNatClampNeg = 3 by omega) with e1 | e1 | e1 | e1
      · skip
        exact cX9_copy_k_0_sb_s0 k0 e1 h
      · skip
        exact cX9_copy_k_0_sb_s1 k0 e1 h
      · skip
        exact cX9_copy_k_0_sb_s2 k0 e1 h
      · skip
        exact cX9_copy_k_0_sb_s3 k0 e1 h
    · skip
      exact cX9_copy_k_0_sb_sb k0 k1 h
def fX10_in (p0 : Int64) (p2 : Int64) (p4 : Int64) (x0 : bq_S) : Option (Int32 × bq_S) :=
  if (lg_cmp p0 p2) < 0 then
  some ((0 : Int32), x0)
  else
  if 0 < (lg_cmp p0 p4) then
  some ((0 : Int32), x0)
  else
  some ((1 : Int32), x0)
theorem dX10_in_0 : decode cX10_in 0 = .ok (.lload_n 0, 1) := by decide +kernel
theorem dX10_in_1 : decode cX10_in 1 = .ok (.lload_n 2, 1) := by decide +kernel
theorem dX10_in_2 : decode cX10_in 2 = .ok (.lcmp, 1) := by decide +kernel
theorem dX10_in_3 : decode cX10_in 3 = .ok (.ifCond .lt 14, 3) := by decide +kernel
theorem dX10_in_6 : decode cX10_in 6 = .ok (.lload_n 0, 1) := by decide +kernel
theorem dX10_in_7 : decode cX10_in 7 = .ok (.lload 4, 2) := by decide +kernel
theorem dX10_in_9 : decode cX10_in 9 = .ok (.lcmp, 1) := by decide +kernel
theorem dX10_in_10 : decode cX10_in 10 = .ok (.ifCond .gt 7, 3) := by decide +kernel
theorem dX10_in_13 : decode cX10_in 13 = .ok (.iconst 1, 1) := by decide +kernel
theorem dX10_in_14 : decode cX10_in 14 = .ok (.goto 4, 3) := by decide +kernel
theorem dX10_in_17 : decode cX10_in 17 = .ok (.iconst 0, 1) := by decide +kernel
theorem dX10_in_18 : decode cX10_in 18 = .ok (.ireturn, 1) := by decide +kernel
set_option maxHeartbeats 4000000 in
set_option maxRecDepth 100000 in
theorem cX10_in_k {l : Launch} {D : va_G} {a : Nat → Nat} {k : Nat → ClassId} {p0 : Int64} {p2 : Int64} {p4 : Int64} {x0 xz : bq_S} {rz : Int32} (h : fX10_in  p0 p2 p4 x0 = some (rz, xz)) : bq_M l D bq_cl (bq_ty k) (bq_wM a k) yX10_in cX10_in 6 (some .boolean) { frames := 0, cells := 0, slots := 0, locals := 0 } [.long p0, .long p2, .long p4] x0 (some rz) xz := by
  refine bq_ofW RX10 [(0, .long p0), (2, .long p2), (4, .long p4)] (by decide +kernel) rfl (Nat.le_of_ble_eq_true rfl) rfl (bq_adM a k) ?_
  intro p e s m below meth c A Q ls S hK hD hA hR hS hP hl
  have hx := S.1; have hb := S.2.1; have hml := S.2.2.1; have hown := S.2.2.2.1; have hts := S.2.2.2.2
  have hret : ∀ z, some z = some (rz, xz) → (rz, xz) = z := fun z h => (Option.some.inj h).symm
  unfold fX10_in at h
  refine lv_lload_n hx hb dX10_in_0 rfl (lv_at hl 0 rfl) ?_
  refine lv_lload_n hx hb dX10_in_1 rfl (lv_at hl 1 rfl) ?_
  refine W.lcmp hx hb dX10_in_2 ?_
  refine lv_if_lt (tgt := 17) hx hb dX10_in_3 (by decide) (fun c1 => ?_) (fun c1 => ?_)
  · replace h := (if_pos c1).symm.trans h
    refine lv_iconst (v := (0 : Int32)) hx hb dX10_in_17 (by decide) ?_
    obtain ⟨e1, e2⟩ := Prod.mk.inj (hret _ h)
    exact hR _ _ _ _ _ (congrArg some e1) rfl (by rw [e2]; exact hP) hS dX10_in_18
  · replace h := (if_neg c1).symm.trans h
    refine lv_lload_n hx hb dX10_in_6 rfl (lv_at hl 0 rfl) ?_
    refine lv_lload hx hb dX10_in_7 (lv_at hl 2 rfl) ?_
    refine W.lcmp hx hb dX10_in_9 ?_
    refine lv_if_gt (tgt := 17) hx hb dX10_in_10 (by decide) (fun c2 => ?_) (fun c2 => ?_)
    · replace h := (if_pos c2).symm.trans h
      refine lv_iconst (v := (0 : Int32)) hx hb dX10_in_17 (by decide) ?_
      obtain ⟨e1, e2⟩ := Prod.mk.inj (hret _ h)
      exact hR _ _ _ _ _ (congrArg some e1) rfl (by rw [e2]; exact hP) hS dX10_in_18
    · replace h := (if_neg c2).symm.trans h
      refine lv_iconst (v := (1 : Int32)) hx hb dX10_in_13 (by decide) ?_
      refine lv_goto (tgt := 18) hx hb dX10_in_14 (by decide) ?_
      obtain ⟨e1, e2⟩ := Prod.mk.inj (hret _ h)
      exact hR _ _ _ _ _ (congrArg some e1) rfl (by rw [e2]; exact hP) hS dX10_in_18
