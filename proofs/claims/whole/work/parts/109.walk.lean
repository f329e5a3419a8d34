def fX6_begin (n : Nat) (q0 : Nat) (p1 : Int32) (p2 : Int32) (x0 : bq_S) : Option (bq_S) :=
  (fJ7_fill_d0a16 n (q0 + 1) 16 (0 : Int64) x0).bind (fun x2 =>
  bd (bq_sI x2 q0 1 p1) (fun x3 =>
  bd (bq_sI x3 q0 2 p2) (fun x4 =>
  some x4)))
theorem dX6_begin_0 : decode cX6_begin 0 = .ok (.aload_n 0, 1) := by decide +kernel
theorem dX6_begin_1 : decode cX6_begin 1 = .ok (.getfield 9, 3) := by decide +kernel
theorem dX6_begin_4 : decode cX6_begin 4 = .ok (.lconst 0, 1) := by decide +kernel
theorem dX6_begin_5 : decode cX6_begin 5 = .ok (.invokestatic 22, 3) := by decide +kernel
theorem dX6_begin_8 : decode cX6_begin 8 = .ok (.aload_n 0, 1) := by decide +kernel
theorem dX6_begin_9 : decode cX6_begin 9 = .ok (.iload_n 1, 1) := by decide +kernel
theorem dX6_begin_10 : decode cX6_begin 10 = .ok (.putfield 15, 3) := by decide +kernel
theorem dX6_begin_13 : decode cX6_begin 13 = .ok (.aload_n 0, 1) := by decide +kernel
theorem dX6_begin_14 : decode cX6_begin 14 = .ok (.iload_n 2, 1) := by decide +kernel
theorem dX6_begin_15 : decode cX6_begin 15 = .ok (.putfield 19, 3) := by decide +kernel
theorem dX6_begin_18 : decode cX6_begin 18 = .ok (.return_, 1) := by decide +kernel
set_option maxHeartbeats 4000000 in
set_option maxRecDepth 100000 in
theorem cX6_begin_k_34 {l : Launch} {D : va_G} {a : Nat → Nat} {k : Nat → ClassId} {n : Nat} {p1 : Int32} {p2 : Int32} {x0 xz : bq_S} (h : fX6_begin n 34 p1 p2 x0 = some xz) : bq_M l D bq_cl (bq_ty k) (bq_wC a k) yX6_begin cX6_begin 3 none { frames := 1, cells := 0, slots := 0, locals := 24 } [.ref (a 34), .int p1, .int p2] x0 none xz := by
  refine bq_ofWv RX6 [(0, .ref (a 34)), (1, .int p1), (2, .int p2)] (by decide +kernel) rfl (Nat.le_of_ble_eq_true rfl) rfl (bq_adC a k) ?_
  intro p e s m below meth c A Q ls S hK hD hA hR hS hP hl
  have hx := S.1; have hb := S.2.1; have hml := S.2.2.1; have hown := S.2.2.2.1; have hts := S.2.2.2.2
  have hret : ∀ z, some z = some xz → xz = z := fun z h => (Option.some.inj h).symm
  unfold fX6_begin at h
  refine lv_aload_n hx hb dX6_begin_0 rfl (lv_at hl 0 rfl) ?_
  refine bq_get (q0 := 34) S hK hP fl_X6_9_X6_0 rfl rfl rfl dX6_begin_1 ?_
  refine lv_lconst (v := (0 : Int64)) hx hb dX6_begin_4 (by decide) ?_
  obtain ⟨x2, ho1, h⟩ := Option.bind_eq_some_iff.mp h
  refine bq_callSv (As := [.ref (a 35), .long _]) S hK hD hA hP hS (cJ7_fill_d0a16_k_35 ho1) hd_yJ7_fill_d0a16 ml_X6_22 st_yJ7_fill_d0a16 ⟨rfl, rfl⟩ ⟨by decide, by decide⟩ rfl hl.1 rfl (Nat.le_of_ble_eq_true rfl) ⟨Nat.zero_le _, Nat.zero_le _⟩ dX6_begin_5 (fun H locs hP hS => ?_)
  refine lv_aload_n hx hb dX6_begin_8 rfl (lv_at hl 0 rfl) ?_
  refine lv_iload_n hx hb dX6_begin_9 rfl (lv_at hl 1 rfl) ?_
  obtain ⟨x3, hx3, h⟩ := bq_b h
  refine bq_put (x1 := x3) (q0 := 34) (ty := .int) S hK hD hP hS fl_X6_15_X6_1 bt_X6 rfl (by decide +kernel) rfl rfl (Nat.le_of_ble_eq_true rfl) rfl rfl (by rw [hx3]; rfl) dX6_begin_10 (fun H locs hP hS => ?_)
  refine lv_aload_n hx hb dX6_begin_13 rfl (lv_at hl 0 rfl) ?_
  refine lv_iload_n hx hb dX6_begin_14 rfl (lv_at hl 2 rfl) ?_
  obtain ⟨x4, hx4, h⟩ := bq_b h
  refine bq_put (x1 := x4) (q0 := 34) (ty := .int) S hK hD hP hS fl_X6_19_X6_2 bt_X6 rfl (by decide +kernel) rfl rfl (Nat.le_of_ble_eq_true rfl) rfl rfl (by rw [hx4]; rfl) dX6_begin_15 (fun H locs hP hS => ?_)
  have e2 := hret _ h
  exact hR _ _ _ _ rfl (by rw [e2]; exact hP) hS dX6_begin_18
def fX9_sheet (n : Nat) (p1 : Int32) (p2 : Int32) (p3 : Int32) (x0 : bq_S) : Option (Int32 × bq_S) :=
  (fX9_isSheet p1 x0).bind (fun o1 => un2 o1 (fun v3 x2 =>
  if v3 = 0 then
  some ((-1 : Int32), x2)
  else
  (fX9_isLane p2 x2).bind (fun o5 => un2 o5 (fun v7 x6 =>
  if v7 = 0 then
  some ((-1 : Int32), x6)
  else
  if p3 ≤ (16 : Int32) then
  if 0 ≤ p3 then
  if ok_i p1 4 then
  (fX6_begin n (34 + 2 * p1.toNatClampNeg) p2 p3 x6).bind (fun x13 =>
  some (p3, x13))
  else none
  else
  some ((-14 : Int32), x6)
  else
  some ((-1 : Int32), x6)))))
theorem dX9_sheet_0 : decode cX9_sheet 0 = .ok (.iload_n 1, 1) := by decide +kernel
theorem dX9_sheet_1 : decode cX9_sheet 1 = .ok (.invokestatic 252, 3) := by decide +kernel
theorem dX9_sheet_4 : decode cX9_sheet 4 = .ok (.ifCond .eq 16, 3) := by decide +kernel
theorem dX9_sheet_7 : decode cX9_sheet 7 = .ok (.iload_n 2, 1) := by decide +kernel
theorem dX9_sheet_8 : decode cX9_sheet 8 = .ok (.invokestatic 255, 3) := by decide +kernel
theorem dX9_sheet_11 : decode cX9_sheet 11 = .ok (.ifCond .eq 9, 3) := by decide +kernel
theorem dX9_sheet_14 : decode cX9_sheet 14 = .ok (.iload_n 3, 1) := by decide +kernel
theorem dX9_sheet_15 : decode cX9_sheet 15 = .ok (.bipush 16, 2) := by decide +kernel
theorem dX9_sheet_17 : decode cX9_sheet 17 = .ok (.if_icmp .le 5, 3) := by decide +kernel
theorem dX9_sheet_20 : decode cX9_sheet 20 = .ok (.iconst (-1), 1) := by decide +kernel
theorem dX9_sheet_21 : decode cX9_sheet 21 = .ok (.ireturn, 1) := by decide +kernel
theorem dX9_sheet_22 : decode cX9_sheet 22 = .ok (.iload_n 3, 1) := by decide +kernel
theorem dX9_sheet_23 : decode cX9_sheet 23 = .ok (.ifCond .ge 6, 3) := by decide +kernel
theorem dX9_sheet_26 : decode cX9_sheet 26 = .ok (.bipush (-14), 2) := by decide +kernel
theorem dX9_sheet_28 : decode cX9_sheet 28 = .ok (.ireturn, 1) := by decide +kernel
theorem dX9_sheet_29 : decode cX9_sheet 29 = .ok (.aload_n 0, 1) := by decide +kernel
theorem dX9_sheet_30 : decode cX9_sheet 30 = .ok (.getfield 70, 3) := by decide +kernel
theorem dX9_sheet_33 : decode cX9_sheet 33 = .ok (.iload_n 1, 1) := by decide +kernel
theorem dX9_sheet_34 : decode cX9_sheet 34 = .ok (.aaload, 1) := by decide +kernel
theorem dX9_sheet_35 : decode cX9_sheet 35 = .ok (.iload_n 2, 1) := by decide +kernel
theorem dX9_sheet_36 : decode cX9_sheet 36 = .ok (.iload_n 3, 1) := by decide +kernel
theorem dX9_sheet_37 : decode cX9_sheet 37 = .ok (.invokevirtual 258, 3) := by decide +kernel
theorem dX9_sheet_40 : decode cX9_sheet 40 = .ok (.iload_n 3, 1) := by decide +kernel
theorem dX9_sheet_41 : decode cX9_sheet 41 = .ok (.ireturn, 1) := by decide +kernel
set_option maxHeartbeats 4000000 in
set_option maxRecDepth 100000 in
theorem cX9_sheet_k_0_s0 {l : Launch} {D : va_G} {a : Nat → Nat} {k : Nat → ClassId} {n : Nat} {p1 : Int32} {p2 : Int32} {p3 : Int32} {x0 xz : bq_S} {rz : Int32} (hkp1 : p1.toNatClampNeg = 0) (h : fX9_sheet n p1 p2 p3 x0 = some (rz, xz)) : bq_M l D bq_cl (bq_ty k) (bq_wC a k) yX9_sheet cX9_sheet 4 (some .int) { frames := 2, cells := 0, slots := 0, locals := 46 } [.ref (a 0), .int p1, .int p2, .int p3] x0 (some rz) xz := by
  refine bq_ofW RX9 [(0, .ref (a 0)), (1, .int p1), (2, .int p2), (3, .int p3)] (by decide +kernel) rfl (Nat.le_of_ble_eq_true rfl) rfl (bq_adC a k) ?_
  intro p e s m below meth c A Q ls S hK hD hA hR hS hP hl
  have hx := S.1; have hb := S.2.1; have hml := S.2.2.1; have hown := S.2.2.2.1; have hts := S.2.2.2.2
  have hret : ∀ z, some z = some (rz, xz) → (rz, xz) = z := fun z h => (Option.some.inj h).symm
  unfold fX9_sheet at h
  refine lv_iload_n hx hb dX9_sheet_0 rfl (lv_at hl 1 rfl) ?_
  obtain ⟨o1, ho1, h⟩ := Option.bind_eq_some_iff.mp h
  obtain ⟨v3, x2⟩ := o1
  replace h := un2_e h
  refine bq_callSi (As := [.int _]) S hK hD hA hP hS (cX9_isSheet_k ho1) hd_yX9_isSheet ml_X9_252 st_yX9_isSheet ⟨rfl, rfl⟩ ⟨by decide, by decide⟩ rfl hl.1 rfl (Nat.le_of_ble_eq_true rfl) ⟨Nat.zero_le _, Nat.zero_le _⟩ dX9_sheet_1 (fun H locs hP hS => ?_)
  refine lv_if_eq (tgt := 20) hx hb dX9_sheet_4 (by decide) (fun c4 => ?_) (fun c4 => ?_)
  · replace h := (if_pos c4).symm.trans h
    refine lv_iconst (v := (-1 : Int32)) hx hb dX9_sheet_20 (by decide) ?_
    obtain ⟨e1, e2⟩ := Prod.mk.inj (hret _ h)
    exact hR _ _ _ _ _ (congrArg some e1) rfl (by rw [e2]; exact hP) hS dX9_sheet_21
  · replace h := (if_neg c4).symm.trans h
    refine lv_iload_n hx hb dX9_sheet_7 rfl (lv_at hl 2 rfl) ?_
    obtain ⟨o5, ho5, h⟩ := Option.bind_eq_some_iff.mp h
    obtain ⟨v7, x6⟩ := o5
    replace h := un2_e h
    refine bq_callSi (As := [.int _]) S hK hD hA hP hS (cX9_isLane_k ho5) hd_yX9_isLane ml_X9_255 st_yX9_isLane ⟨rfl, rfl⟩ ⟨by decide, by decide⟩ rfl hl.1 rfl (Nat.le_of_ble_eq_true rfl) ⟨Nat.zero_le _, Nat.zero_le _⟩ dX9_sheet_8 (fun H locs hP hS => ?_)
    refine lv_if_eq (tgt := 20) hx hb dX9_sheet_11 (by decide) (fun c8 => ?_) (fun c8 => ?_)
    · replace h := (if_pos c8).symm.trans h
      refine lv_iconst (v := (-1 : Int32)) hx hb dX9_sheet_20 (by decide) ?_
      obtain ⟨e1, e2⟩ := Prod.mk.inj (hret _ h)
      exact hR _ _ _ _ _ (congrArg some e1) rfl (by rw [e2]; exact hP) hS dX9_sheet_21
    · replace h := (if_neg c8).symm.trans h
      refine lv_iload_n hx hb dX9_sheet_14 rfl (lv_at hl 3 rfl) ?_
      refine lv_bipush (v := (16 : Int32)) hx hb dX9_sheet_15 (by decide) ?_
      refine lv_icmp_le (tgt := 22) hx hb dX9_sheet_17 (by decide) (fun c9 => ?_) (fun c9 => ?_)
      · replace h := (if_pos c9).symm.trans h
        refine lv_iload_n hx hb dX9_sheet_22 rfl (lv_at hl 3 rfl) ?_
        refine lv_if_ge (tgt := 29) hx hb dX9_sheet_23 (by decide) (fun c10 => ?_) (fun c10 => ?_)
        · replace h := (if_pos c10).symm.trans h
          refine lv_aload_n hx hb dX9_sheet_29 rfl (lv_at hl 0 rfl) ?_
          refine bq_get (q0 := 0) S hK hP fl_X9_70_X9_9 rfl rfl rfl dX9_sheet_30 ?_
          refine lv_iload_n hx hb dX9_sheet_33 rfl (lv_at hl 1 rfl) ?_
          obtain ⟨g11, h⟩ := bq_gd h
          refine va_aldq (D := D) hx hb hK hP 33 3 rfl rfl g11 dX9_sheet_34 ?_
          rw [hkp1]
          try rw [hkp1] at h
          refine W.eq (g2 := F0 m 35 ls [.ref (a 34)]) rfl ?_
          refine lv_iload_n hx hb dX9_sheet_35 rfl (lv_at hl 2 rfl) ?_
          refine lv_iload_n hx hb dX9_sheet_36 rfl (lv_at hl 3 rfl) ?_
          obtain ⟨x13, ho12, h⟩ := Option.bind_eq_some_iff.mp h
          refine bq_callVv (q0 := 34) (As := [.int _, .int _]) S hK hD hA hP hS (cX6_begin_k_34 ho12) hd_yX6_begin ml_X9_258 in_yX6_begin (hts _ sl_X6_X6_yX6_begin) ⟨rfl, rfl⟩ ⟨by decide, by decide⟩ rfl rfl rfl hl.1 rfl (Nat.le_of_ble_eq_true rfl) ⟨Nat.zero_le _, Nat.zero_le _⟩ dX9_sheet_37 (fun H locs hP hS => ?_)
          refine lv_iload_n hx hb dX9_sheet_40 rfl (lv_at hl 3 rfl) ?_
          obtain ⟨e1, e2⟩ := Prod.mk.inj (hret _ h)
          exact hR _ _ _ _ _ (congrArg some e1) rfl (by rw [e2]; exact hP) hS dX9_sheet_41
        · replace h := (if_neg c10).symm.trans h
          refine lv_bipush (v := (-14 : Int32)) hx hb dX9_sheet_26 (by decide) ?_
          obtain ⟨e1, e2⟩ := Prod.mk.inj (hret _ h)
          exact hR _ _ _ _ _ (congrArg some e1) rfl (by rw [e2]; exact hP) hS dX9_sheet_28
      · replace h := (if_neg c9).symm.trans h
        refine lv_iconst (v := (-1 : Int32)) hx hb dX9_sheet_20 (by decide) ?_
        obtain ⟨e1, e2⟩ := Prod.mk.inj (hret _ h)
        exact hR _ _ _ _ _ (congrArg some e1) rfl (by rw [e2]; exact hP) hS dX9_sheet_21
set_option maxHeartbeats 4000000 in
set_option maxRecDepth 100000 in
theorem cJ7_fill_d0a16_k_37 {l : Launch} {D : va_G} {a : Nat → Nat} {k : Nat → ClassId} {n : Nat} {p1 : Int64} {x0 xz : bq_S} (h : fJ7_fill_d0a16 n 37 16 p1 x0 = some xz) : bq_M l D bq_cl (bq_ty k) (bq_wC a k) yJ7_fill_d0a16 cJ7_fill_d0a16 5 none { frames := 0, cells := 0, slots := 0, locals := 0 } [.ref (a 37), .long p1] x0 none xz := by
  refine bq_ofWv RJ7 [(0, .ref (a 37)), (1, .long p1)] (by decide +kernel) rfl (Nat.le_of_ble_eq_true rfl) rfl (bq_adC a k) ?_
  intro p e s m below meth c A Q ls S hK hD hA hR hS hP hl
  have hx := S.1; have hb := S.2.1; have hml := S.2.2.1; have hown := S.2.2.2.1; have hts := S.2.2.2.2
  have hret : ∀ z, some z = some xz → xz = z := fun z h => (Option.some.inj h).symm
  unfold fJ7_fill_d0a16 at h
  refine lv_iconst (v := (0 : Int32)) hx hb dJ7_fill_d0a16_0 (by decide) ?_
  refine lv_istore_n (lv' := [(3, .int (0 : Int32)), (0, .ref (a 37)), (1, .long p1)]) hx hb dJ7_fill_d0a16_1 rfl hl (by decide) rfl (fun ls hl => ?_)
  refine lv_aload_n hx hb dJ7_fill_d0a16_2 rfl (lv_at hl 1 rfl) ?_
  refine va_alen (D := D) (v := (16 : Int32)) hx hb hK hP 37 1 rfl rfl rfl dJ7_fill_d0a16_3 ?_
  refine lv_topi (fun v1 hv1 => ?_)
  replace h := bq_bv h hv1
  refine lv_istore (lv' := [(4, .int v1), (3, .int (0 : Int32)), (0, .ref (a 37)), (1, .long p1)]) hx hb dJ7_fill_d0a16_4 hl (by decide) rfl (fun ls hl => ?_)
  have hl6 : ∀ (v4 : Int64) (v6 : Int32) (kf : Nat) (v5 : Int32) (x7 : bq_S) (eo : Int32 × bq_S) (H : Heap) (locs : List Loc) (ls : Array Slot), wh kf (fJ7_fill_d0a16_b6 n 37 16 v4 v6) (v5, x7) = some eo → va_P D bq_cl (bq_wC a k x7) H → va_S A s.heap H locs → lv_has ls 5 [(0, .ref (a 37)), (1, .long v4), (3, .int v5), (4, .int v6)] → (∀ (H : Heap) (locs : List Loc) (ls : Array Slot) (v13 : Int32) (x14 : bq_S), eo = (v13, x14) → va_P D bq_cl (bq_wC a k x14) H → va_S A s.heap H locs → lv_has ls 5 [] → W p l e { frames := 0, cells := 0, slots := 0, locals := 0 } s m [.ref (a 37), .long p1].toArray below meth c H locs 0 0 Q (F0 m 22 ls [])) → W p l e { frames := 0, cells := 0, slots := 0, locals := 0 } s m [.ref (a 37), .long p1].toArray below meth c H locs 0 0 Q (F0 m 6 ls []) := by
    intro v4 v6 kf
    induction kf with
    | zero => intro v5 x7 eo H locs ls h; cases h
    | succ kf ih =>
      intro v5 x7 eo H locs ls h hP hS hl kx
      obtain ⟨out, h, hw⟩ := wh_s h
      unfold fJ7_fill_d0a16_b6 at h
      replace h := un2_e h
      refine lv_iload_n hx hb dJ7_fill_d0a16_6 rfl (lv_at hl 2 rfl) ?_
      refine lv_iload hx hb dJ7_fill_d0a16_7 (lv_at hl 3 rfl) ?_
      refine lv_icmp_ge (tgt := 22) hx hb dJ7_fill_d0a16_9 (by decide) (fun c8 => ?_) (fun c8 => ?_)
      · replace h := (if_pos c8).symm.trans h
        cases h
        exact kx _ _ _ _ _ (Option.some.inj hw).symm hP hS (lv_sub hl [] rfl)
      · replace h := (if_neg c8).symm.trans h
        refine lv_aload_n hx hb dJ7_fill_d0a16_12 rfl (lv_at hl 0 rfl) ?_
        refine lv_iload_n hx hb dJ7_fill_d0a16_13 rfl (lv_at hl 2 rfl) ?_
        refine lv_lload_n hx hb dJ7_fill_d0a16_14 rfl (lv_at hl 1 rfl) ?_
        obtain ⟨g10, h⟩ := bq_gd h
        obtain ⟨x9, hx9, h⟩ := bq_b h
        refine bq_last (x1 := x9) (q0 := 37) (t0 := 1) S hK hD hP hS rfl rfl g10 (by rw [hx9]; rfl) dJ7_fill_d0a16_15 (fun H locs hP hS => ?_)
        obtain ⟨v11, hv11, h⟩ := bq_b h
        refine lv_iinc (v := v11) (lv' := [(3, .int v11), (0, .ref (a 37)), (1, .long v4), (4, .int v6)]) hx hb dJ7_fill_d0a16_16 hl (k := 2) rfl (by rw [hv11]; rfl) (by decide) rfl (fun ls hl => ?_)
        refine lv_goto (tgt := 6) hx hb dJ7_fill_d0a16_19 (by decide) ?_
        cases h
        exact ih _ _ _ _ _ _ hw hP hS (lv_sub hl [1, 2, 0, 3] rfl) kx
  obtain ⟨e12, he12, h⟩ := Option.bind_eq_some_iff.mp h
  refine hl6 _ _ n _ _ e12 _ _ _ he12 hP hS (lv_sub hl [2, 3, 1, 0] rfl) (fun H locs ls v13 x14 hz hP hS hl => ?_)
  subst hz
  replace h := un2_e h
  have e2 := hret _ h
  exact hR _ _ _ _ rfl (by rw [e2]; exact hP) hS dJ7_fill_d0a16_22
set_option maxHeartbeats 4000000 in
set_option maxRecDepth 100000 in
theorem cX6_begin_k_36 {l : Launch} {D : va_G} {a : Nat → Nat} {k : Nat → ClassId} {n : Nat} {p1 : Int32} {p2 : Int32} {x0 xz : bq_S} (h : fX6_begin n 36 p1 p2 x0 = some xz) : bq_M l D bq_cl (bq_ty k) (bq_wC a k) yX6_begin cX6_begin 3 none { frames := 1, cells := 0, slots := 0, locals := 24 } [.ref (a 36), .int p1, .int p2] x0 none xz := by
  refine bq_ofWv RX6 [(0, .ref (a 36)), (1, .int p1), (2, .int p2)] (by decide +kernel) rfl (Nat.le_of_ble_eq_true rfl) rfl (bq_adC a k) ?_
  intro p e s m below meth c A Q ls S hK hD hA hR hS hP hl
  have hx := S.1; have hb := S.2.1; have hml := S.2.2.1; have hown := S.2.2.2.1; have hts := S.2.2.2.2
  have hret : ∀ z, some z = some xz → xz = z := fun z h => (Option.some.inj h).symm
  unfold fX6_begin at h
  refine lv_aload_n hx hb dX6_begin_0 rfl (lv_at hl 0 rfl) ?_
  refine bq_get (q0 := 36) S hK hP fl_X6_9_X6_0 rfl rfl rfl dX6_begin_1 ?_
  refine lv_lconst (v := (0 : Int64)) hx hb dX6_begin_4 (by decide) ?_
  obtain ⟨x2, ho1, h⟩ := Option.bind_eq_some_iff.mp h
  refine bq_callSv (As := [.ref (a 37), .long _]) S hK hD hA hP hS (cJ7_fill_d0a16_k_37 ho1) hd_yJ7_fill_d0a16 ml_X6_22 st_yJ7_fill_d0a16 ⟨rfl, rfl⟩ ⟨by decide, by decide⟩ rfl hl.1 rfl (Nat.le_of_ble_eq_true rfl) ⟨Nat.zero_le _, Nat.zero_le _⟩ dX6_begin_5 (fun H locs hP hS => ?_)
  refine lv_aload_n hx hb dX6_begin_8 rfl (lv_at hl 0 rfl) ?_
  refine lv_iload_n hx hb dX6_begin_9 rfl (lv_at hl 1 rfl) ?_
  obtain ⟨x3, hx3, h⟩ := bq_b h
  refine bq_put (x1 := x3) (q0 := 36) (ty := .int) S hK hD hP hS fl_X6_15_X6_1 bt_X6 rfl (by decide +kernel) rfl rfl (Nat.le_of_ble_eq_true rfl) rfl rfl (by rw [hx3]; rfl) dX6_begin_10 (fun H locs hP hS => ?_)
  refine lv_aload_n hx hb dX6_begin_13 rfl (lv_at hl 0 rfl) ?_
  refine lv_iload_n hx hb dX6_begin_14 rfl (lv_at hl 2 rfl) ?_
  obtain ⟨x4, hx4, h⟩ := bq_b h
  refine bq_put (x1 := x4) (q0 := 36) (ty := .int) S hK hD hP hS fl_X6_19_X6_2 bt_X6 rfl (by decide +kernel) rfl rfl (Nat.le_of_ble_eq_true rfl) rfl rfl (by rw [hx4]; rfl) dX6_begin_15 (fun H locs hP hS => ?_)
  have e2 := hret _ h
  exact hR _ _ _ _ rfl (by rw [e2]; exact hP) hS dX6_begin_18
set_option maxHeartbeats 4000000 in
set_option maxRecDepth 100000 in
theorem cX9_sheet_k_0_s1 {l : Launch} {D : va_G} {a : Nat → Nat} {k : Nat → ClassId} {n : Nat} {p1 : Int32} {p2 : Int32} {p3 : Int32} {x0 xz : bq_S} {rz : Int32} (hkp1 : p1.toNatClampNeg = 1) (h : fX9_sheet n p1 p2 p3 x0 = some (rz, xz)) : bq_M l D bq_cl (bq_ty k) (bq_wC a k) yX9_sheet cX9_sheet 4 (some .int) { frames := 2, cells := 0, slots := 0, locals := 46 } [.ref (a 0), .int p1, .int p2, .int p3] x0 (some rz) xz := by
  refine bq_ofW RX9 [(0, .ref (a 0)), (1, .int p1), (2, .int p2), (3, .int p3)] (by decide +kernel) rfl (Nat.le_of_ble_eq_true rfl) rfl (bq_adC a k) ?_
  intro p e s m below meth c A Q ls S hK hD hA hR hS hP hl
  have hx := S.1; have hb := S.2.1; have hml := S.2.2.1; have hown := S.2.2.2.1; have hts := S.2.2.2.2
  have hret : ∀ z, some z = some (rz, xz) → (rz, xz) = z := fun z h => (Option.some.inj h).symm
  unfold fX9_sheet at h
  refine lv_iload_n hx hb dX9_sheet_0 rfl (lv_at hl 1 rfl) ?_
  obtain ⟨o1, ho1, h⟩ := Option.bind_eq_some_iff.mp h
  obtain ⟨v3, x2⟩ := o1
  replace h := un2_e h
  refine bq_callSi (As := [.int _]) S hK hD hA hP hS (cX9_isSheet_k ho1) hd_yX9_isSheet ml_X9_252 st_yX9_isSheet ⟨rfl, rfl⟩ ⟨by decide, by decide⟩ rfl hl.1 rfl (Nat.le_of_ble_eq_true rfl) ⟨Nat.zero_le _, Nat.zero_le _⟩ dX9_sheet_1 (fun H locs hP hS => ?_)
  refine lv_if_eq (tgt := 20) hx hb dX9_sheet_4 (by decide) (fun c4 => ?_) (fun c4 => ?_)
  · replace h := (if_pos c4).symm.trans h
    refine lv_iconst (v := (-1 : Int32)) hx hb dX9_sheet_20 (by decide) ?_
    obtain ⟨e1, e2⟩ := Prod.mk.inj (hret _ h)
    exact hR _ _ _ _ _ (congrArg some e1) rfl (by rw [e2]; exact hP) hS dX9_sheet_21
  · replace h := (if_neg c4).symm.trans h
    refine lv_iload_n hx hb dX9_sheet_7 rfl (lv_at hl 2 rfl) ?_
    obtain ⟨o5, ho5, h⟩ := Option.bind_eq_some_iff.mp h
    obtain ⟨v7, x6⟩ := o5
    replace h := un2_e h
    refine bq_callSi (As := [.int _]) S hK hD hA hP hS (cX9_isLane_k ho5) hd_yX9_isLane ml_X9_255 st_yX9_isLane ⟨rfl, rfl⟩ ⟨by decide, by decide⟩ rfl hl.1 rfl (Nat.le_of_ble_eq_true rfl) ⟨Nat.zero_le _, Nat.zero_le _⟩ dX9_sheet_8 (fun H locs hP hS => ?_)
    refine lv_if_eq (tgt := 20) hx hb dX9_sheet_11 (by decide) (fun c8 => ?_) (fun c8 => ?_)
    · replace h := (if_pos c8).symm.trans h
      refine lv_iconst (v := (-1 : Int32)) hx hb dX9_sheet_20 (by decide) ?_
      obtain ⟨e1, e2⟩ := Prod.mk.inj (hret _ h)
      exact hR _ _ _ _ _ (congrArg some e1) rfl (by rw [e2]; exact hP) hS dX9_sheet_21
    · replace h := (if_neg c8).symm.trans h
      refine lv_iload_n hx hb dX9_sheet_14 rfl (lv_at hl 3 rfl) ?_
      refine lv_bipush (v := (16 : Int32)) hx hb dX9_sheet_15 (by decide) ?_
      refine lv_icmp_le (tgt := 22) hx hb dX9_sheet_17 (by decide) (fun c9 => ?_) (fun c9 => ?_)
      · replace h := (if_pos c9).symm.trans h
        refine lv_iload_n hx hb dX9_sheet_22 rfl (lv_at hl 3 rfl) ?_
        refine lv_if_ge (tgt := 29) hx hb dX9_sheet_23 (by decide) (fun c10 => ?_) (fun c10 => ?_)
        · replace h := (if_pos c10).symm.trans h
          refine lv_aload_n hx hb dX9_sheet_29 rfl (lv_at hl 0 rfl) ?_
          refine bq_get (q0 := 0) S hK hP fl_X9_70_X9_9 rfl rfl rfl dX9_sheet_30 ?_
          refine lv_iload_n hx hb dX9_sheet_33 rfl (lv_at hl 1 rfl) ?_
          obtain ⟨g11, h⟩ := bq_gd h
          refine va_aldq (D := D) hx hb hK hP 33 3 rfl rfl g11 dX9_sheet_34 ?_
          rw [hkp1]
          try rw [hkp1] at h
          refine W.eq (g2 := F0 m 35 ls [.ref (a 36)]) rfl ?_
          refine lv_iload_n hx hb dX9_sheet_35 rfl (lv_at hl 2 rfl) ?_
          refine lv_iload_n hx hb dX9_sheet_36 rfl (lv_at hl 3 rfl) ?_
          obtain ⟨x13, ho12, h⟩ := Option.bind_eq_some_iff.mp h
          refine bq_callVv (q0 := 36) (As := [.int _, .int _]) S hK hD hA hP hS (cX6_begin_k_36 ho12) hd_yX6_begin ml_X9_258 in_yX6_begin (hts _ sl_X6_X6_yX6_begin) ⟨rfl, rfl⟩ ⟨by decide, by decide⟩ rfl rfl rfl hl.1 rfl (Nat.le_of_ble_eq_true rfl) ⟨Nat.zero_le _, Nat.zero_le _⟩ dX9_sheet_37 (fun H locs hP hS => ?_)
          refine lv_iload_n hx hb dX9_sheet_40 rfl (lv_at hl 3 rfl) ?_
          obtain ⟨e1, e2⟩ := Prod.mk.inj (hret _ h)
          exact hR _ _ _ _ _ (congrArg some e1) rfl (by rw [e2]; exact hP) hS dX9_sheet_41
        · replace h := (if_neg c10).symm.trans h
          refine lv_bipush (v := (-14 : Int32)) hx hb dX9_sheet_26 (by decide) ?_
          obtain ⟨e1, e2⟩ := Prod.mk.inj (hret _ h)
          exact hR _ _ _ _ _ (congrArg some e1) rfl (by rw [e2]; exact hP) hS dX9_sheet_28
      · replace h := (if_neg c9).symm.trans h
        refine lv_iconst (v := (-1 : Int32)) hx hb dX9_sheet_20 (by decide) ?_
        obtain ⟨e1, e2⟩ := Prod.mk.inj (hret _ h)
        exact hR _ _ _ _ _ (congrArg some e1) rfl (by rw [e2]; exact hP) hS dX9_sheet_21
set_option maxHeartbeats 4000000 in
set_option maxRecDepth 100000 in
theorem cJ7_fill_d0a16_k_39 {l : Launch} {D : va_G} {a : Nat → Nat} {k : Nat → ClassId} {n : Nat} {p1 : Int64} {x0 xz : bq_S} (h : fJ7_fill_d0a16 n 39 16 p1 x0 = some xz) : bq_M l D bq_cl (bq_ty k) (bq_wC a k) yJ7_fill_d0a16 cJ7_fill_d0a16 5 none { frames := 0, cells := 0, slots := 0, locals := 0 } [.ref (a 39), .long p1] x0 none xz := by
  refine bq_ofWv RJ7 [(0, .ref (a 39)), (1, .long p1)] (by decide +kernel) rfl (Nat.le_of_ble_eq_true rfl) rfl (bq_adC a k) ?_
  intro p e s m below meth c A Q ls S hK hD hA hR hS hP hl
  have hx := S.1; have hb := S.2.1; have hml := S.2.2.1; have hown := S.2.2.2.1; have hts := S.2.2.2.2
  have hret : ∀ z, some z = some xz → xz = z := fun z h => (Option.some.inj h).symm
  unfold fJ7_fill_d0a16 at h
  refine lv_iconst (v := (0 : Int32)) hx hb dJ7_fill_d0a16_0 (by decide) ?_
  refine lv_istore_n (lv' := [(3, .int (0 : Int32)), (0, .ref (a 39)), (1, .long p1)]) hx hb dJ7_fill_d0a16_1 rfl hl (by decide) rfl (fun ls hl => ?_)
  refine lv_aload_n hx hb dJ7_fill_d0a16_2 rfl (lv_at hl 1 rfl) ?_
  refine va_alen (D := D) (v := (16 : Int32)) hx hb hK hP 39 1 rfl rfl rfl dJ7_fill_d0a16_3 ?_
  refine lv_topi (fun v1 hv1 => ?_)
  replace h := bq_bv h hv1
  refine lv_istore (lv' := [(4, .int v1), (3, .int (0 : Int32)), (0, .ref (a 39)), (1, .long p1)]) hx hb dJ7_fill_d0a16_4 hl (by decide) rfl (fun ls hl => ?_)
  have hl6 : ∀ (v4 : Int64) (v6 : Int32) (kf : Nat) (v5 : Int32) (x7 : bq_S) (eo : Int32 × bq_S) (H : Heap) (locs : List Loc) (ls : Array Slot), wh kf (fJ7_fill_d0a16_b6 n 39 16 v4 v6) (v5, x7) = some eo → va_P D bq_cl (bq_wC a k x7) H → va_S A s.heap H locs → lv_has ls 5 [(0, .ref (a 39)), (1, .long v4), (3, .int v5), (4, .int v6)] → (∀ (H : Heap) (locs : List Loc) (ls : Array Slot) (v13 : Int32) (x14 : bq_S), eo = (v13, x14) → va_P D bq_cl (bq_wC a k x14) H → va_S A s.heap H locs → lv_has ls 5 [] → W p l e { frames := 0, cells := 0, slots := 0, locals := 0 } s m [.ref (a 39), .long p1].toArray below meth c H locs 0 0 Q (F0 m 22 ls [])) → W p l e { frames := 0, cells := 0, slots := 0, locals := 0 } s m [.ref (a 39), .long p1].toArray below meth c H locs 0 0 Q (F0 m 6 ls []) := by
    intro v4 v6 kf
    induction kf with
    | zero => intro v5 x7 eo H locs ls h; cases h
    | succ kf ih =>
      intro v5 x7 eo H locs ls h hP hS hl kx
      obtain ⟨out, h, hw⟩ := wh_s h
      unfold fJ7_fill_d0a16_b6 at h
      replace h := un2_e h
      refine lv_iload_n hx hb dJ7_fill_d0a16_6 rfl (lv_at hl 2 rfl) ?_
      refine lv_iload hx hb dJ7_fill_d0a16_7 (lv_at hl 3 rfl) ?_
      refine lv_icmp_ge (tgt := 22) hx hb dJ7_fill_d0a16_9 (by decide) (fun c8 => ?_) (fun c8 => ?_)
      · replace h := (if_pos c8).symm.trans h
        cases h
        exact kx _ _ _ _ _ (Option.some.inj hw).symm hP hS (lv_sub hl [] rfl)
      · replace h := (if_neg c8).symm.trans h
        refine lv_aload_n hx hb dJ7_fill_d0a16_12 rfl (lv_at hl 0 rfl) ?_
        refine lv_iload_n hx hb dJ7_fill_d0a16_13 rfl (lv_at hl 2 rfl) ?_
        refine lv_lload_n hx hb dJ7_fill_d0a16_14 rfl (lv_at hl 1 rfl) ?_
        obtain ⟨g10, h⟩ := bq_gd h
        obtain ⟨x9, hx9, h⟩ := bq_b h
        refine bq_last (x1 := x9) (q0 := 39) (t0 := 1) S hK hD hP hS rfl rfl g10 (by rw [hx9]; rfl) dJ7_fill_d0a16_15 (fun H locs hP hS => ?_)
        obtain ⟨v11, hv11, h⟩ := bq_b h
        refine lv_iinc (v := v11) (lv' := [(3, .int v11), (0, .ref (a 39)), (1, .long v4), (4, .int v6)]) hx hb dJ7_fill_d0a16_16 hl (k := 2) rfl (by rw [hv11]; rfl) (by decide) rfl (fun ls hl => ?_)
        refine lv_goto (tgt := 6) hx hb dJ7_fill_d0a16_19 (by decide) ?_
        cases h
        exact ih _ _ _ _ _ _ hw hP hS (lv_sub hl [1, 2, 0, 3] rfl) kx
  obtain ⟨e12, he12, h⟩ := Option.bind_eq_some_iff.mp h
  refine hl6 _ _ n _ _ e12 _ _ _ he12 hP hS (lv_sub hl [2, 3, 1, 0] rfl) (fun H locs ls v13 x14 hz hP hS hl => ?_)
  subst hz
  replace h := un2_e h
  have e2 := hret _ h
  exact hR _ _ _ _ rfl (by rw [e2]; exact hP) hS dJ7_fill_d0a16_22
set_option maxHeartbeats 4000000 in
set_option maxRecDepth 100000 in
theorem cX6_begin_k_38 {l : Launch} {D : va_G} {a : Nat → Nat} {k : Nat → ClassId} {n : Nat} {p1 : Int32} {p2 : Int32} {x0 xz : bq_S} (h : fX6_begin n 38 p1 p2 x0 = some xz) : bq_M l D bq_cl (bq_ty k) (bq_wC a k) yX6_begin cX6_begin 3 none { frames := 1, cells := 0, slots := 0, locals := 24 } [.ref (a 38), .int p1, .int p2] x0 none xz := by
  refine bq_ofWv RX6 [(0, .ref (a 38)), (1, .int p1), (2, .int p2)] (by decide +kernel) rfl (Nat.le_of_ble_eq_true rfl) rfl (bq_adC a k) ?_
  intro p e s m below meth c A Q ls S hK hD hA hR hS hP hl
  have hx := S.1; have hb := S.2.1; have hml := S.2.2.1; have hown := S.2.2.2.1; have hts := S.2.2.2.2
  have hret : ∀ z, some z = some xz → xz = z := fun z h => (Option.some.inj h).symm
  unfold fX6_begin at h
  refine lv_aload_n hx hb dX6_begin_0 rfl (lv_at hl 0 rfl) ?_
  refine bq_get (q0 := 38) S hK hP fl_X6_9_X6_0 rfl rfl rfl dX6_begin_1 ?_
  refine lv_lconst (v := (0 : Int64)) hx hb dX6_begin_4 (by decide) ?_
  obtain ⟨x2, ho1, h⟩ := Option.bind_eq_some_iff.mp h
  refine bq_callSv (As := [.ref (a 39), .long _]) S hK hD hA hP hS (cJ7_fill_d0a16_k_39 ho1) hd_yJ7_fill_d0a16 ml_X6_22 st_yJ7_fill_d0a16 ⟨rfl, rfl⟩ ⟨by decide, by decide⟩ rfl hl.1 rfl (Nat.le_of_ble_eq_true rfl) ⟨Nat.zero_le _, Nat.zero_le _⟩ dX6_begin_5 (fun H locs hP hS => ?_)
  refine lv_aload_n hx hb dX6_begin_8 rfl (lv_at hl 0 rfl) ?_
  refine lv_iload_n hx hb dX6_begin_9 rfl (lv_at hl 1 rfl) ?_
  obtain ⟨x3, hx3, h⟩ := bq_b h
  refine bq_put (x1 := x3) (q0 := 38) (ty := .int) S hK hD hP hS fl_X6_15_X6_1 bt_X6 rfl (by decide +kernel) rfl rfl (Nat.le_of_ble_eq_true rfl) rfl rfl (by rw [hx3]; rfl) dX6_begin_10 (fun H locs hP hS => ?_)
  refine lv_aload_n hx hb dX6_begin_13 rfl (lv_at hl 0 rfl) ?_
  refine lv_iload_n hx hb dX6_begin_14 rfl (lv_at hl 2 rfl) ?_
  obtain ⟨x4, hx4, h⟩ := bq_b h
  refine bq_put (x1 := x4) (q0 := 38) (ty := .int) S hK hD hP hS fl_X6_19_X6_2 bt_X6 rfl (by decide +kernel) rfl rfl (Nat.le_of_ble_eq_true rfl) rfl rfl (by rw [hx4]; rfl) dX6_begin_15 (fun H locs hP hS => ?_)
  have e2 := hret _ h
  exact hR _ _ _ _ rfl (by rw [e2]; exact hP) hS dX6_begin_18
set_option maxHeartbeats 4000000 in
set_option maxRecDepth 100000 in
theorem cX9_sheet_k_0_s2 {l : Launch} {D : va_G} {a : Nat → Nat} {k : Nat → ClassId} {n : Nat} {p1 : Int32} {p2 : Int32} {p3 : Int32} {x0 xz : bq_S} {rz : Int32} (hkp1 : p1.toNatClampNeg = 2) (h : fX9_sheet n p1 p2 p3 x0 = some (rz, xz)) : bq_M l D bq_cl (bq_ty k) (bq_wC a k) yX9_sheet cX9_sheet 4 (some .int) { frames := 2, cells := 0, slots := 0, locals := 46 } [.ref (a 0), .int p1, .int p2, .int p3] x0 (some rz) xz := by
  refine bq_ofW RX9 [(0, .ref (a 0)), (1, .int p1), (2, .int p2), (3, .int p3)] (by decide +kernel) rfl (Nat.le_of_ble_eq_true rfl) rfl (bq_adC a k) ?_
  intro p e s m below meth c A Q ls S hK hD hA hR hS hP hl
  have hx := S.1; have hb := S.2.1; have hml := S.2.2.1; have hown := S.2.2.2.1; have hts := S.2.2.2.2
  have hret : ∀ z, some z = some (rz, xz) → (rz, xz) = z := fun z h => (Option.some.inj h).symm
  unfold fX9_sheet at h
  refine lv_iload_n hx hb dX9_sheet_0 rfl (lv_at hl 1 rfl) ?_
  obtain ⟨o1, ho1, h⟩ := Option.bind_eq_some_iff.mp h
  obtain ⟨v3, x2⟩ := o1
  replace h := un2_e h
  refine bq_callSi (As := [.int _]) S hK hD hA hP hS (cX9_isSheet_k ho1) hd_yX9_isSheet ml_X9_252 st_yX9_isSheet ⟨rfl, rfl⟩ ⟨by decide, by decide⟩ rfl hl.1 rfl (Nat.le_of_ble_eq_true rfl) ⟨Nat.zero_le _, Nat.zero_le _⟩ dX9_sheet_1 (fun H locs hP hS => ?_)
  refine lv_if_eq (tgt := 20) hx hb dX9_sheet_4 (by decide) (fun c4 => ?_) (fun c4 => ?_)
  · replace h := (if_pos c4).symm.trans h
    refine lv_iconst (v := (-1 : Int32)) hx hb dX9_sheet_20 (by decide) ?_
    obtain ⟨e1, e2⟩ := Prod.mk.inj (hret _ h)
    exact hR _ _ _ _ _ (congrArg some e1) rfl (by rw [e2]; exact hP) hS dX9_sheet_21
  · replace h := (if_neg c4).symm.trans h
    refine lv_iload_n hx hb dX9_sheet_7 rfl (lv_at hl 2 rfl) ?_
    obtain ⟨o5, ho5, h⟩ := Option.bind_eq_some_iff.mp h
    obtain ⟨v7, x6⟩ := o5
    replace h := un2_e h
    refine bq_callSi (As := [.int _]) S hK hD hA hP hS (cX9_isLane_k ho5) hd_yX9_isLane ml_X9_255 st_yX9_isLane ⟨rfl, rfl⟩ ⟨by decide, by decide⟩ rfl hl.1 rfl (Nat.le_of_ble_eq_true rfl) ⟨Nat.zero_le _, Nat.zero_le _⟩ dX9_sheet_8 (fun H locs hP hS => ?_)
    refine lv_if_eq (tgt := 20) hx hb dX9_sheet_11 (by decide) (fun c8 => ?_) (fun c8 => ?_)
    · replace h := (if_pos c8).symm.trans h
      refine lv_iconst (v := (-1 : Int32)) hx hb dX9_sheet_20 (by decide) ?_
      obtain ⟨e1, e2⟩ := Prod.mk.inj (hret _ h)
      exact hR _ _ _ _ _ (congrArg some e1) rfl (by rw [e2]; exact hP) hS dX9_sheet_21
    · replace h := (if_neg c8).symm.trans h
      refine lv_iload_n hx hb dX9_sheet_14 rfl (lv_at hl 3 rfl) ?_
      refine lv_bipush (v := (16 : Int32)) hx hb dX9_sheet_15 (by decide) ?_
      refine lv_icmp_le (tgt := 22) hx hb dX9_sheet_17 (by decide) (fun c9 => ?_) (fun c9 => ?_)
      · replace h := (if_pos c9).symm.trans h
        refine lv_iload_n hx hb dX9_sheet_22 rfl (lv_at hl 3 rfl) ?_
        refine lv_if_ge (tgt := 29) hx hb dX9_sheet_23 (by decide) (fun c10 => ?_) (fun c10 => ?_)
        · replace h := (if_pos c10).symm.trans h
          refine lv_aload_n hx hb dX9_sheet_29 rfl (lv_at hl 0 rfl) ?_
          refine bq_get (q0 := 0) S hK hP fl_X9_70_X9_9 rfl rfl rfl dX9_sheet_30 ?_
          refine lv_iload_n hx hb dX9_sheet_33 rfl (lv_at hl 1 rfl) ?_
          obtain ⟨g11, h⟩ := bq_gd h
          refine va_aldq (D := D) hx hb hK hP 33 3 rfl rfl g11 dX9_sheet_34 ?_
          rw [hkp1]
          try rw [hkp1] at h
          refine W.eq (g2 := F0 m 35 ls [.ref (a 38)]) rfl ?_
          refine lv_iload_n hx hb dX9_sheet_35 rfl (lv_at hl 2 rfl) ?_
          refine lv_iload_n hx hb dX9_sheet_36 rfl (lv_at hl 3 rfl) ?_
          obtain ⟨x13, ho12, h⟩ := Option.bind_eq_some_iff.mp h
          refine bq_callVv (q0 := 38) (As := [.int _, .int _]) S hK hD hA hP hS (cX6_begin_k_38 ho12) hd_yX6_begin ml_X9_258 in_yX6_begin (hts _ sl_X6_X6_yX6_begin) ⟨rfl, rfl⟩ ⟨by decide, by decide⟩ rfl rfl rfl hl.1 rfl (Nat.le_of_ble_eq_true rfl) ⟨Nat.zero_le _, Nat.zero_le _⟩ dX9_sheet_37 (fun H locs hP hS => ?_)
          refine lv_iload_n hx hb dX9_sheet_40 rfl (lv_at hl 3 rfl) ?_
          obtain ⟨e1, e2⟩ := Prod.mk.inj (hret _ h)
          exact hR _ _ _ _ _ (congrArg some e1) rfl (by rw [e2]; exact hP) hS dX9_sheet_41
        · replace h := (if_neg c10).symm.trans h
          refine lv_bipush (v := (-14 : Int32)) hx hb dX9_sheet_26 (by decide) ?_
          obtain ⟨e1, e2⟩ := Prod.mk.inj (hret _ h)
          exact hR _ _ _ _ _ (congrArg some e1) rfl (by rw [e2]; exact hP) hS dX9_sheet_28
      · replace h := (if_neg c9).symm.trans h
        refine lv_iconst (v := (-1 : Int32)) hx hb dX9_sheet_20 (by decide) ?_
        obtain ⟨e1, e2⟩ := Prod.mk.inj (hret _ h)
        exact hR _ _ _ _ _ (congrArg some e1) rfl (by rw [e2]; exact hP) hS dX9_sheet_21
set_option maxHeartbeats 4000000 in
set_option maxRecDepth 100000 in
theorem cJ7_fill_d0a16_k_41 {l : Launch} {D : va_G} {a : Nat → Nat} {k : Nat → ClassId} {n : Nat} {p1 : Int64} {x0 xz : bq_S} (h : fJ7_fill_d0a16 n 41 16 p1 x0 = some xz) : bq_M l D bq_cl (bq_ty k) (bq_wC a k) yJ7_fill_d0a16 cJ7_fill_d0a16 5 none { frames := 0, cells := 0, slots := 0, locals := 0 } [.ref (a 41), .long p1] x0 none xz := by
  refine bq_ofWv RJ7 [(0, .ref (a 41)), (1, .long p1)] (by decide +kernel) rfl (Nat.le_of_ble_eq_true rfl) rfl (bq_adC a k) ?_
  intro p e s m below meth c A Q ls S hK hD hA hR hS hP hl
  have hx := S.1; have hb := S.2.1; have hml := S.2.2.1; have hown := S.2.2.2.1; have hts := S.2.2.2.2
  have hret : ∀ z, some z = some xz → xz = z := fun z h => (Option.some.inj h).symm
  unfold fJ7_fill_d0a16 at h
  refine lv_iconst (v := (0 : Int32)) hx hb dJ7_fill_d0a16_0 (by decide) ?_
  refine lv_istore_n (lv' := [(3, .int (0 : Int32)), (0, .ref (a 41)), (1, .long p1)]) hx hb dJ7_fill_d0a16_1 rfl hl (by decide) rfl (fun ls hl => ?_)
  refine lv_aload_n hx hb dJ7_fill_d0a16_2 rfl (lv_at hl 1 rfl) ?_
  refine va_alen (D := D) (v := (16 : Int32)) hx hb hK hP 41 1 rfl rfl rfl dJ7_fill_d0a16_3 ?_
  refine lv_topi (fun v1 hv1 => ?_)
  replace h := bq_bv h hv1
  refine lv_istore (lv' := [(4, .int v1), (3, .int (0 : Int32)), (0, .ref (a 41)), (1, .long p1)]) hx hb dJ7_fill_d0a16_4 hl (by decide) rfl (fun ls hl => ?_)
  have hl6 : ∀ (v4 : Int64) (v6 : Int32) (kf : Nat) (v5 : Int32) (x7 : bq_S) (eo : Int32 × bq_S) (H : Heap) (locs : List Loc) (ls : Array Slot), wh kf (fJ7_fill_d0a16_b6 n 41 16 v4 v6) (v5, x7) = some eo → va_P D bq_cl (bq_wC a k x7) H → va_S A s.heap H locs → lv_has ls 5 [(0, .ref (a 41)), (1, .long v4), (3, .int v5), (4, .int v6)] → (∀ (H : Heap) (locs : List Loc) (ls : Array Slot) (v13 : Int32) (x14 : bq_S), eo = (v13, x14) → va_P D bq_cl (bq_wC a k x14) H → va_S A s.heap H locs → lv_has ls 5 [] → W p l e { frames := 0, cells := 0, slots := 0, locals := 0 } s m [.ref (a 41), .long p1].toArray below meth c H locs 0 0 Q (F0 m 22 ls [])) → W p l e { frames := 0, cells := 0, slots := 0, locals := 0 } s m [.ref (a 41), .long p1].toArray below meth c H locs 0 0 Q (F0 m 6 ls []) := by
    intro v4 v6 kf
    induction kf with
    | zero => intro v5 x7 eo H locs ls h; cases h
    | succ kf ih =>
      intro v5 x7 eo H locs ls h hP hS hl kx
      obtain ⟨out, h, hw⟩ := wh_s h
      unfold fJ7_fill_d0a16_b6 at h
      replace h := un2_e h
      refine lv_iload_n hx hb dJ7_fill_d0a16_6 rfl (lv_at hl 2 rfl) ?_
      refine lv_iload hx hb dJ7_fill_d0a16_7 (lv_at hl 3 rfl) ?_
      refine lv_icmp_ge (tgt := 22) hx hb dJ7_fill_d0a16_9 (by decide) (fun c8 => ?_) (fun c8 => ?_)
      · replace h := (if_pos c8).symm.trans h
        cases h
        exact kx _ _ _ _ _ (Option.some.inj hw).symm hP hS (lv_sub hl [] rfl)
      · replace h := (if_neg c8).symm.trans h
        refine lv_aload_n hx hb dJ7_fill_d0a16_12 rfl (lv_at hl 0 rfl) ?_
        refine lv_iload_n hx hb dJ7_fill_d0a16_13 rfl (lv_at hl 2 rfl) ?_
        refine lv_lload_n hx hb dJ7_fill_d0a16_14 rfl (lv_at hl 1 rfl) ?_
        obtain ⟨g10, h⟩ := bq_gd h
        obtain ⟨x9, hx9, h⟩ := bq_b h
        refine bq_last (x1 := x9) (q0 := 41) (t0 := 1) S hK hD hP hS rfl rfl g10 (by rw [hx9]; rfl) dJ7_fill_d0a16_15 (fun H locs hP hS => ?_)
        obtain ⟨v11, hv11, h⟩ := bq_b h
        refine lv_iinc (v := v11) (lv' := [(3, .int v11), (0, .ref (a 41)), (1, .long v4), (4, .int v6)]) hx hb dJ7_fill_d0a16_16 hl (k := 2) rfl (by rw [hv11]; rfl) (by decide) rfl (fun ls hl => ?_)
        refine lv_goto (tgt := 6) hx hb dJ7_fill_d0a16_19 (by decide) ?_
        cases h
        exact ih _ _ _ _ _ _ hw hP hS (lv_sub hl [1, 2, 0, 3] rfl) kx
  obtain ⟨e12, he12, h⟩ := Option.bind_eq_some_iff.mp h
  refine hl6 _ _ n _ _ e12 _ _ _ he12 hP hS (lv_sub hl [2, 3, 1, 0] rfl) (fun H locs ls v13 x14 hz hP hS hl => ?_)
  subst hz
  replace h := un2_e h
  have e2 := hret _ h
  exact hR _ _ _ _ rfl (by rw [e2]; exact hP) hS dJ7_fill_d0a16_22
set_option maxHeartbeats 4000000 in
set_option maxRecDepth 100000 in
theorem cX6_begin_k_40 {l : Launch} {D : va_G} {a : Nat → Nat} {k : Nat → ClassId} {n : Nat} {p1 : Int32} {p2 : Int32} {x0 xz : bq_S} (h : fX6_begin n 40 p1 p2 x0 = some xz) : bq_M l D bq_cl (bq_ty k) (bq_wC a k) yX6_begin cX6_begin 3 none { frames := 1, cells := 0, slots := 0, locals := 24 } [.ref (a 40), .int p1, .int p2] x0 none xz := by
  refine bq_ofWv RX6 [(0, .ref (a 40)), (1, .int p1), (2, .int p2)] (by decide +kernel) rfl (Nat.le_of_ble_eq_true rfl) rfl (bq_adC a k) ?_
  intro p e s m below meth c A Q ls S hK hD hA hR hS hP hl
  have hx := S.1; have hb := S.2.1; have hml := S.2.2.1; have hown := S.2.2.2.1; have hts := S.2.2.2.2
  have hret : ∀ z, some z = some xz → xz = z := fun z h => (Option.some.inj h).symm
  unfold fX6_begin at h
  refine lv_aload_n hx hb dX6_begin_0 rfl (lv_at hl 0 rfl) ?_
  refine bq_get (q0 := 40) S hK hP fl_X6_9_X6_0 rfl rfl rfl dX6_begin_1 ?_
  refine lv_lconst (v := (0 : Int64)) hx hb dX6_begin_4 (by decide) ?_
  obtain ⟨x2, ho1, h⟩ := Option.bind_eq_some_iff.mp h
  refine bq_callSv (As := [.ref (a 41), .long _]) S hK hD hA hP hS (cJ7_fill_d0a16_k_41 ho1) hd_yJ7_fill_d0a16 ml_X6_22 st_yJ7_fill_d0a16 ⟨rfl, rfl⟩ ⟨by decide, by decide⟩ rfl hl.1 rfl (Nat.le_of_ble_eq_true rfl) ⟨Nat.zero_le _, Nat.zero_le _⟩ dX6_begin_5 (fun H locs hP hS => ?_)
  refine lv_aload_n hx hb dX6_begin_8 rfl (lv_at hl 0 rfl) ?_
  refine lv_iload_n hx hb dX6_begin_9 rfl (lv_at hl 1 rfl) ?_
  obtain ⟨x3, hx3, h⟩ := bq_b h
  refine bq_put (x1 := x3) (q0 := 40) (ty := .int) S hK hD hP hS fl_X6_15_X6_1 bt_X6 rfl (by decide +kernel) rfl rfl (Nat.le_of_ble_eq_true rfl) rfl rfl (by rw [hx3]; rfl) dX6_begin_10 (fun H locs hP hS => ?_)
  refine lv_aload_n hx hb dX6_begin_13 rfl (lv_at hl 0 rfl) ?_
  refine lv_iload_n hx hb dX6_begin_14 rfl (lv_at hl 2 rfl) ?_
  obtain ⟨x4, hx4, h⟩ := bq_b h
  refine bq_put (x1 := x4) (q0 := 40) (ty := .int) S hK hD hP hS fl_X6_19_X6_2 bt_X6 rfl (by decide +kernel) rfl rfl (Nat.le_of_ble_eq_true rfl) rfl rfl (by rw [hx4]; rfl) dX6_begin_15 (fun H locs hP hS => ?_)
  have e2 := hret _ h
  exact hR _ _ _ _ rfl (by rw [e2]; exact hP) hS dX6_begin_18
set_option maxHeartbeats 4000000 in
set_option maxRecDepth 100000 in
theorem cX9_sheet_k_0_s3 {l : Launch} {D : va_G} {a : Nat → Nat} {k : Nat → ClassId} {n : Nat} {p1 : Int32} {p2 : Int32} {p3 : Int32} {x0 xz : bq_S} {rz : Int32} (hkp1 : p1.toNatClampNeg = 3) (h : fX9_sheet n p1 p2 p3 x0 = some (rz, xz)) : bq_M l D bq_cl (bq_ty k) (bq_wC a k) yX9_sheet cX9_sheet 4 (some .int) { frames := 2, cells := 0, slots := 0, locals := 46 } [.ref (a 0), .int p1, .int p2, .int p3] x0 (some rz) xz := by
  refine bq_ofW RX9 [(0, .ref (a 0)), (1, .int p1), (2, .int p2), (3, .int p3)] (by decide +kernel) rfl (Nat.le_of_ble_eq_true rfl) rfl (bq_adC a k) ?_
  intro p e s m below meth c A Q ls S hK hD hA hR hS hP hl
  have hx := S.1; have hb := S.2.1; have hml := S.2.2.1; have hown := S.2.2.2.1; have hts := S.2.2.2.2
  have hret : ∀ z, some z = some (rz, xz) → (rz, xz) = z := fun z h => (Option.some.inj h).symm
  unfold fX9_sheet at h
  refine lv_iload_n hx hb dX9_sheet_0 rfl (lv_at hl 1 rfl) ?_
  obtain ⟨o1, ho1, h⟩ := Option.bind_eq_some_iff.mp h
  obtain ⟨v3, x2⟩ := o1
  replace h := un2_e h
  refine bq_callSi (As := [.int _]) S hK hD hA hP hS (cX9_isSheet_k ho1) hd_yX9_isSheet ml_X9_252 st_yX9_isSheet ⟨rfl, rfl⟩ ⟨by decide, by decide⟩ rfl hl.1 rfl (Nat.le_of_ble_eq_true rfl) ⟨Nat.zero_le _, Nat.zero_le _⟩ dX9_sheet_1 (fun H locs hP hS => ?_)
  refine lv_if_eq (tgt := 20) hx hb dX9_sheet_4 (by decide) (fun c4 => ?_) (fun c4 => ?_)
  · replace h := (if_pos c4).symm.trans h
    refine lv_iconst (v := (-1 : Int32)) hx hb dX9_sheet_20 (by decide) ?_
    obtain ⟨e1, e2⟩ := Prod.mk.inj (hret _ h)
    exact hR _ _ _ _ _ (congrArg some e1) rfl (by rw [e2]; exact hP) hS dX9_sheet_21
  · replace h := (if_neg c4).symm.trans h
    refine lv_iload_n hx hb dX9_sheet_7 rfl (lv_at hl 2 rfl) ?_
    obtain ⟨o5, ho5, h⟩ := Option.bind_eq_some_iff.mp h
    obtain ⟨v7, x6⟩ := o5
    replace h := un2_e h
    refine bq_callSi (As := [.int _]) S hK hD hA hP hS (cX9_isLane_k ho5) hd_yX9_isLane ml_X9_255 st_yX9_isLane ⟨rfl, rfl⟩ ⟨by decide, by decide⟩ rfl hl.1 rfl (Nat.le_of_ble_eq_true rfl) ⟨Nat.zero_le _, Nat.zero_le _⟩ dX9_sheet_8 (fun H locs hP hS => ?_)
    refine lv_if_eq (tgt := 20) hx hb dX9_sheet_11 (by decide) (fun c8 => ?_) (fun c8 => ?_)
    · replace h := (if_pos c8).symm.trans h
      refine lv_iconst (v := (-1 : Int32)) hx hb dX9_sheet_20 (by decide) ?_
      obtain ⟨e1, e2⟩ := Prod.mk.inj (hret _ h)
      exact hR _ _ _ _ _ (congrArg some e1) rfl (by rw [e2]; exact hP) hS dX9_sheet_21
    · replace h := (if_neg c8).symm.trans h
      refine lv_iload_n hx hb dX9_sheet_14 rfl (lv_at hl 3 rfl) ?_
      refine lv_bipush (v := (16 : Int32)) hx hb dX9_sheet_15 (by decide) ?_
      refine lv_icmp_le (tgt := 22) hx hb dX9_sheet_17 (by decide) (fun c9 => ?_) (fun c9 => ?_)
      · replace h := (if_pos c9).symm.trans h
        refine lv_iload_n hx hb dX9_sheet_22 rfl (lv_at hl 3 rfl) ?_
        refine lv_if_ge (tgt := 29) hx hb dX9_sheet_23 (by decide) (fun c10 => ?_) (fun c10 => ?_)
        · replace h := (if_pos c10).symm.trans h
          refine lv_aload_n hx hb dX9_sheet_29 rfl (lv_at hl 0 rfl) ?_
          refine bq_get (q0 := 0) S hK hP fl_X9_70_X9_9 rfl rfl rfl dX9_sheet_30 ?_
          refine lv_iload_n hx hb dX9_sheet_33 rfl (lv_at hl 1 rfl) ?_
          obtain ⟨g11, h⟩ := bq_gd h
          refine va_aldq (D := D) hx hb hK hP 33 3 rfl rfl g11 dX9_sheet_34 ?_
          rw [hkp1]
          try rw [hkp1] at h
          refine W.eq (g2 := F0 m 35 ls [.ref (a 40)]) rfl ?_
          refine lv_iload_n hx hb dX9_sheet_35 rfl (lv_at hl 2 rfl) ?_
          refine lv_iload_n hx hb dX9_sheet_36 rfl (lv_at hl 3 rfl) ?_
          obtain ⟨x13, ho12, h⟩ := Option.bind_eq_some_iff.mp h
          refine bq_callVv (q0 := 40) (As := [.int _, .int _]) S hK hD hA hP hS (cX6_begin_k_40 ho12) hd_yX6_begin ml_X9_258 in_yX6_begin (hts _ sl_X6_X6_yX6_begin) ⟨rfl, rfl⟩ ⟨by decide, by decide⟩ rfl rfl rfl hl.1 rfl (Nat.le_of_ble_eq_true rfl) ⟨Nat.zero_le _, Nat.zero_le _⟩ dX9_sheet_37 (fun H locs hP hS => ?_)
          refine lv_iload_n hx hb dX9_sheet_40 rfl (lv_at hl 3 rfl) ?_
          obtain ⟨e1, e2⟩ := Prod.mk.inj (hret _ h)
          exact hR _ _ _ _ _ (congrArg some e1) rfl (by rw [e2]; exact hP) hS dX9_sheet_41
        · replace h := (if_neg c10).symm.trans h
          refine lv_bipush (v := (-14 : Int32)) hx hb dX9_sheet_26 (by decide) ?_
          obtain ⟨e1, e2⟩ := Prod.mk.inj (hret _ h)
          exact hR _ _ _ _ _ (congrArg some e1) rfl (by rw [e2]; exact hP) hS dX9_sheet_28
      · replace h := (if_neg c9).symm.trans h
        refine lv_iconst (v := (-1 : Int32)) hx hb dX9_sheet_20 (by decide) ?_
        obtain ⟨e1, e2⟩ := Prod.mk.inj (hret _ h)
        exact hR _ _ _ _ _ (congrArg some e1) rfl (by rw [e2]; exact hP) hS dX9_sheet_21
set_option maxHeartbeats 4000000 in
set_option maxRecDepth 100000 in
theorem cX9_sheet_k_0_sb {l : Launch} {D : va_G} {a : Nat → Nat} {k : Nat → ClassId} {n : Nat} {p1 : Int32} {p2 : Int32} {p3 : Int32} {x0 xz : bq_S} {rz : Int32} (hkp1 : ¬ p1.toNatClampNeg < 4) (h : fX9_sheet n p1 p2 p3 x0 = some (rz, xz)) : bq_M l D bq_cl (bq_ty k) (bq_wC a k) yX9_sheet cX9_sheet 4 (some .int) { frames := 2, cells := 0, slots := 0, locals := 46 } [.ref (a 0), .int p1, .int p2, .int p3] x0 (some rz) xz := by
  refine bq_ofW RX9 [(0, .ref (a 0)), (1, .int p1), (2, .int p2), (3, .int p3)] (by decide +kernel) rfl (Nat.le_of_ble_eq_true rfl) rfl (bq_adC a k) ?_
  intro p e s m below meth c A Q ls S hK hD hA hR hS hP hl
  have hx := S.1; have hb := S.2.1; have hml := S.2.2.1; have hown := S.2.2.2.1; have hts := S.2.2.2.2
  have hret : ∀ z, some z = some (rz, xz) → (rz, xz) = z := fun z h => (Option.some.inj h).symm
  unfold fX9_sheet at h
  refine lv_iload_n hx hb dX9_sheet_0 rfl (lv_at hl 1 rfl) ?_
  obtain ⟨o1, ho1, h⟩ := Option.bind_eq_some_iff.mp h
  obtain ⟨v3, x2⟩ := o1
  replace h := un2_e h
  refine bq_callSi (As := [.int _]) S hK hD hA hP hS (cX9_isSheet_k ho1) hd_yX9_isSheet ml_X9_252 st_yX9_isSheet ⟨rfl, rfl⟩ ⟨by decide, by decide⟩ rfl hl.1 rfl (Nat.le_of_ble_eq_true rfl) ⟨Nat.zero_le _, Nat.zero_le _⟩ dX9_sheet_1 (fun H locs hP hS => ?_)
  refine lv_if_eq (tgt := 20) hx hb dX9_sheet_4 (by decide) (fun c4 => ?_) (fun c4 => ?_)
  · replace h := (if_pos c4).symm.trans h
    refine lv_iconst (v := (-1 : Int32)) hx hb dX9_sheet_20 (by decide) ?_
    obtain ⟨e1, e2⟩ := Prod.mk.inj (hret _ h)
    exact hR _ _ _ _ _ (congrArg some e1) rfl (by rw [e2]; exact hP) hS dX9_sheet_21
  · replace h := (if_neg c4).symm.trans h
    refine lv_iload_n hx hb dX9_sheet_7 rfl (lv_at hl 2 rfl) ?_
    obtain ⟨o5, ho5, h⟩ := Option.bind_eq_some_iff.mp h
    obtain ⟨v7, x6⟩ := o5
    replace h := un2_e h
    refine bq_callSi (As := [.int _]) S hK hD hA hP hS (cX9_isLane_k ho5) hd_yX9_isLane ml_X9_255 st_yX9_isLane ⟨rfl, rfl⟩ ⟨by decide, by decide⟩ rfl hl.1 rfl (Nat.le_of_ble_eq_true rfl) ⟨Nat.zero_le _, Nat.zero_le _⟩ dX9_sheet_8 (fun H locs hP hS => ?_)
    refine lv_if_eq (tgt := 20) hx hb dX9_sheet_11 (by decide) (fun c8 => ?_) (fun c8 => ?_)
    · replace h := (if_pos c8).symm.trans h
      refine lv_iconst (v := (-1 : Int32)) hx hb dX9_sheet_20 (by decide) ?_
      obtain ⟨e1, e2⟩ := Prod.mk.inj (hret _ h)
      exact hR _ _ _ _ _ (congrArg some e1) rfl (by rw [e2]; exact hP) hS dX9_sheet_21
    · replace h := (if_neg c8).symm.trans h
      refine lv_iload_n hx hb dX9_sheet_14 rfl (lv_at hl 3 rfl) ?_
      refine lv_bipush (v := (16 : Int32)) hx hb dX9_sheet_15 (by decide) ?_
      refine lv_icmp_le (tgt := 22) hx hb dX9_sheet_17 (by decide) (fun c9 => ?_) (fun c9 => ?_)
      · replace h := (if_pos c9).symm.trans h
        refine lv_iload_n hx hb dX9_sheet_22 rfl (lv_at hl 3 rfl) ?_
        refine lv_if_ge (tgt := 29) hx hb dX9_sheet_23 (by decide) (fun c10 => ?_) (fun c10 => ?_)
        · replace h := (if_pos c10).symm.trans h
          refine lv_aload_n hx hb dX9_sheet_29 rfl (lv_at hl 0 rfl) ?_
          refine bq_get (q0 := 0) S hK hP fl_X9_70_X9_9 rfl rfl rfl dX9_sheet_30 ?_
          refine lv_iload_n hx hb dX9_sheet_33 rfl (lv_at hl 1 rfl) ?_
          obtain ⟨g11, h⟩ := bq_gd h
          exact absurd (bq_lt g11) hkp1
        · replace h := (if_neg c10).symm.trans h
          refine lv_bipush (v := (-14 : Int32)) hx hb dX9_sheet_26 (by decide) ?_
          obtain ⟨e1, e2⟩ := Prod.mk.inj (hret _ h)
          exact hR _ _ _ _ _ (congrArg some e1) rfl (by rw [e2]; exact hP) hS dX9_sheet_28
      · replace h := (if_neg c9).symm.trans h
        refine lv_iconst (v := (-1 : Int32)) hx hb dX9_sheet_20 (by decide) ?_
        obtain ⟨e1, e2⟩ := Prod.mk.inj (hret _ h)
        exact hR _ _ _ _ _ (congrArg some e1) rfl (by rw [e2]; exact hP) hS dX9_sheet_21
theorem cX9_sheet_k_0 {l : Launch} {D : va_G} {a : Nat → Nat} {k : Nat → ClassId} {n : Nat} {p1 : Int32} {p2 : Int32} {p3 : Int32} {x0 xz : bq_S} {rz : Int32} (h : fX9_sheet n p1 p2 p3 x0 = some (rz, xz)) : bq_M l D bq_cl (bq_ty k) (bq_wC a k) yX9_sheet cX9_sheet 4 (some .int) { frames := 2, cells := 0, slots := 0, locals := 46 } [.ref (a 0), .int p1, .int p2, .int p3] x0 (some rz) xz := by
  by_cases k0 : p1.toNatClampNeg < 4
  · rcases (show p1.toNatClampNeg = 0 ∨ p1.toNatClampNeg = 1 ∨ p1.toNatClampNeg = 2 ∨ p1.toNatClampNeg = 3 by omega) with e0 | e0 | e0 | e0
    · skip
      exact cX9_sheet_k_0_s0 e0 h
    · skip
      exact cX9_sheet_k_0_s1 e0 h
    · skip
      exact cX9_sheet_k_0_s2 e0 h
    · skip
      exact cX9_sheet_k_0_s3 e0 h
  · skip
    exact cX9_sheet_k_0_sb k0 h
def fX9_drop (n : Nat) (p1 : Int32) (x0 : bq_S) : Option (Int32 × bq_S) :=
  (fX9_isSheet p1 x0).bind (fun o1 => un2 o1 (fun v3 x2 =>
  if v3 = 0 then
  some ((-1 : Int32), x2)
  else
  if ok_i p1 4 then
  if (x2.1 (34 + 2 * p1.toNatClampNeg) 1) = (-1 : Int32) then
  some ((-11 : Int32), x2)
  else
  bd (x2.1 (34 + 2 * p1.toNatClampNeg) 2) (fun v7 =>
  (fX6_begin n (34 + 2 * p1.toNatClampNeg) (-1 : Int32) (0 : Int32) x2).bind (fun x9 =>
  some (v7, x9)))
  else none))
theorem dX9_drop_0 : decode cX9_drop 0 = .ok (.iload_n 1, 1) := by decide +kernel
theorem dX9_drop_1 : decode cX9_drop 1 = .ok (.invokestatic 252, 3) := by decide +kernel
theorem dX9_drop_4 : decode cX9_drop 4 = .ok (.ifCond .ne 5, 3) := by decide +kernel
theorem dX9_drop_7 : decode cX9_drop 7 = .ok (.iconst (-1), 1) := by decide +kernel
theorem dX9_drop_8 : decode cX9_drop 8 = .ok (.ireturn, 1) := by decide +kernel
theorem dX9_drop_9 : decode cX9_drop 9 = .ok (.aload_n 0, 1) := by decide +kernel
theorem dX9_drop_10 : decode cX9_drop 10 = .ok (.getfield 70, 3) := by decide +kernel
theorem dX9_drop_13 : decode cX9_drop 13 = .ok (.iload_n 1, 1) := by decide +kernel
theorem dX9_drop_14 : decode cX9_drop 14 = .ok (.aaload, 1) := by decide +kernel
theorem dX9_drop_15 : decode cX9_drop 15 = .ok (.astore_n 2, 1) := by decide +kernel
theorem dX9_drop_16 : decode cX9_drop 16 = .ok (.aload_n 2, 1) := by decide +kernel
theorem dX9_drop_17 : decode cX9_drop 17 = .ok (.getfield 262, 3) := by decide +kernel
theorem dX9_drop_20 : decode cX9_drop 20 = .ok (.iconst (-1), 1) := by decide +kernel
theorem dX9_drop_21 : decode cX9_drop 21 = .ok (.if_icmp .ne 6, 3) := by decide +kernel
theorem dX9_drop_24 : decode cX9_drop 24 = .ok (.bipush (-11), 2) := by decide +kernel
theorem dX9_drop_26 : decode cX9_drop 26 = .ok (.ireturn, 1) := by decide +kernel
theorem dX9_drop_27 : decode cX9_drop 27 = .ok (.aload_n 2, 1) := by decide +kernel
theorem dX9_drop_28 : decode cX9_drop 28 = .ok (.getfield 265, 3) := by decide +kernel
theorem dX9_drop_31 : decode cX9_drop 31 = .ok (.istore_n 3, 1) := by decide +kernel
theorem dX9_drop_32 : decode cX9_drop 32 = .ok (.aload_n 2, 1) := by decide +kernel
theorem dX9_drop_33 : decode cX9_drop 33 = .ok (.iconst (-1), 1) := by decide +kernel
theorem dX9_drop_34 : decode cX9_drop 34 = .ok (.iconst 0, 1) := by decide +kernel
theorem dX9_drop_35 : decode cX9_drop 35 = .ok (.invokevirtual 258, 3) := by decide +kernel
theorem dX9_drop_38 : decode cX9_drop 38 = .ok (.iload_n 3, 1) := by decide +kernel
theorem dX9_drop_39 : decode cX9_drop 39 = .ok (.ireturn, 1) := by decide +kernel
set_option maxHeartbeats 4000000 in
set_option maxRecDepth 100000 in
theorem cX9_drop_k_0_s0 {l : Launch} {D : va_G} {a : Nat → Nat} {k : Nat → ClassId} {n : Nat} {p1 : Int32} {x0 xz : bq_S} {rz : Int32} (hkp1 : p1.toNatClampNeg = 0) (h : fX9_drop n p1 x0 = some (rz, xz)) : bq_M l D bq_cl (bq_ty k) (bq_wC a k) yX9_drop cX9_drop 4 (some .int) { frames := 2, cells := 0, slots := 0, locals := 46 } [.ref (a 0), .int p1] x0 (some rz) xz := by
  refine bq_ofW RX9 [(0, .ref (a 0)), (1, .int p1)] (by decide +kernel) rfl (Nat.le_of_ble_eq_true rfl) rfl (bq_adC a k) ?_
  intro p e s m below meth c A Q ls S hK hD hA hR hS hP hl
  have hx := S.1; have hb := S.2.1; have hml := S.2.2.1; have hown := S.2.2.2.1; have hts := S.2.2.2.2
  have hret : ∀ z, some z = some (rz, xz) → (rz, xz) = z := fun z h => (Option.some.inj h).symm
  unfold fX9_drop at h
  refine lv_iload_n hx hb dX9_drop_0 rfl (lv_at hl 1 rfl) ?_
  obtain ⟨o1, ho1, h⟩ := Option.bind_eq_some_iff.mp h
  obtain ⟨v3, x2⟩ := o1
  replace h := un2_e h
  refine bq_callSi (As := [.int _]) S hK hD hA hP hS (cX9_isSheet_k ho1) hd_yX9_isSheet ml_X9_252 st_yX9_isSheet ⟨rfl, rfl⟩ ⟨by decide, by decide⟩ rfl hl.1 rfl (Nat.le_of_ble_eq_true rfl) ⟨Nat.zero_le _, Nat.zero_le _⟩ dX9_drop_1 (fun H locs hP hS => ?_)
  refine lv_if_ne (tgt := 9) hx hb dX9_drop_4 (by decide) (fun c4 => ?_) (fun c4 => ?_)
  · replace h := (if_neg c4).symm.trans h
    refine lv_aload_n hx hb dX9_drop_9 rfl (lv_at hl 0 rfl) ?_
    refine bq_get (q0 := 0) S hK hP fl_X9_70_X9_9 rfl rfl rfl dX9_drop_10 ?_
    refine lv_iload_n hx hb dX9_drop_13 rfl (lv_at hl 1 rfl) ?_
    obtain ⟨g5, h⟩ := bq_gd h
    refine va_aldq (D := D) hx hb hK hP 33 3 rfl rfl g5 dX9_drop_14 ?_
    rw [hkp1]
    try rw [hkp1] at h
    refine W.eq (g2 := F0 m 15 ls [.ref (a 34)]) rfl ?_
    refine lv_astore_n (lv' := [(2, .ref (a 34)), (0, .ref (a 0)), (1, .int p1)]) hx hb dX9_drop_15 rfl hl (by decide) rfl (fun ls hl => ?_)
    refine lv_aload_n hx hb dX9_drop_16 rfl (lv_at hl 0 rfl) ?_
    refine bq_get (q0 := 34) S hK hP fl_X9_262_X6_1 rfl rfl rfl dX9_drop_17 ?_
    refine lv_iconst (v := (-1 : Int32)) hx hb dX9_drop_20 (by decide) ?_
    refine lv_icmp_ne (tgt := 27) hx hb dX9_drop_21 (by decide) (fun c6 => ?_) (fun c6 => ?_)
    · replace h := (if_neg c6).symm.trans h
      refine lv_aload_n hx hb dX9_drop_27 rfl (lv_at hl 0 rfl) ?_
      refine bq_get (q0 := 34) S hK hP fl_X9_265_X6_2 rfl rfl rfl dX9_drop_28 ?_
      refine lv_topi (fun v7 hv7 => ?_)
      replace h := bq_bv h hv7
      refine lv_istore_n (lv' := [(3, .int v7), (2, .ref (a 34)), (0, .ref (a 0)), (1, .int p1)]) hx hb dX9_drop_31 rfl hl (by decide) rfl (fun ls hl => ?_)
      refine lv_aload_n hx hb dX9_drop_32 rfl (lv_at hl 1 rfl) ?_
      refine lv_iconst (v := (-1 : Int32)) hx hb dX9_drop_33 (by decide) ?_
      refine lv_iconst (v := (0 : Int32)) hx hb dX9_drop_34 (by decide) ?_
      obtain ⟨x9, ho8, h⟩ := Option.bind_eq_some_iff.mp h
      refine bq_callVv (q0 := 34) (As := [.int _, .int _]) S hK hD hA hP hS (cX6_begin_k_34 ho8) hd_yX6_begin ml_X9_258 in_yX6_begin (hts _ sl_X6_X6_yX6_begin) ⟨rfl, rfl⟩ ⟨by decide, by decide⟩ rfl rfl rfl hl.1 rfl (Nat.le_of_ble_eq_true rfl) ⟨Nat.zero_le _, Nat.zero_le _⟩ dX9_drop_35 (fun H locs hP hS => ?_)
      refine lv_iload_n hx hb dX9_drop_38 rfl (lv_at hl 0 rfl) ?_
      obtain ⟨e1, e2⟩ := Prod.mk.inj (hret _ h)
      exact hR _ _ _ _ _ (congrArg some e1) rfl (by rw [e2]; exact hP) hS dX9_drop_39
    · replace h := (if_pos c6).symm.trans h
      refine lv_bipush (v := (-11 : Int32)) hx hb dX9_drop_24 (by decide) ?_
      obtain ⟨e1, e2⟩ := Prod.mk.inj (hret _ h)
      exact hR _ _ _ _ _ (congrArg some e1) rfl (by rw [e2]; exact hP) hS dX9_drop_26
  · replace h := (if_pos c4).symm.trans h
    refine lv_iconst (v := (-1 : Int32)) hx hb dX9_drop_7 (by decide) ?_
    obtain ⟨e1, e2⟩ := Prod.mk.inj (hret _ h)
    exact hR _ _ _ _ _ (congrArg some e1) rfl (by rw [e2]; exact hP) hS dX9_drop_8
set_option maxHeartbeats 4000000 in
set_option maxRecDepth 100000 in
theorem cX9_drop_k_0_s1 {l : Launch} {D : va_G} {a : Nat → Nat} {k : Nat → ClassId} {n : Nat} {p1 : Int32} {x0 xz : bq_S} {rz : Int32} (hkp1 : p1.toNatClampNeg = 1) (h : fX9_drop n p1 x0 = some (rz, xz)) : bq_M l D bq_cl (bq_ty k) (bq_wC a k) yX9_drop cX9_drop 4 (some .int) { frames := 2, cells := 0, slots := 0, locals := 46 } [.ref (a 0), .int p1] x0 (some rz) xz := by
  refine bq_ofW RX9 [(0, .ref (a 0)), (1, .int p1)] (by decide +kernel) rfl (Nat.le_of_ble_eq_true rfl) rfl (bq_adC a k) ?_
  intro p e s m below meth c A Q ls S hK hD hA hR hS hP hl
  have hx := S.1; have hb := S.2.1; have hml := S.2.2.1; have hown := S.2.2.2.1; have hts := S.2.2.2.2
  have hret : ∀ z, some z = some (rz, xz) → (rz, xz) = z := fun z h => (Option.some.inj h).symm
  unfold fX9_drop at h
  refine lv_iload_n hx hb dX9_drop_0 rfl (lv_at hl 1 rfl) ?_
  obtain ⟨o1, ho1, h⟩ := Option.bind_eq_some_iff.mp h
  obtain ⟨v3, x2⟩ := o1
  replace h := un2_e h
  refine bq_callSi (As := [.int _]) S hK hD hA hP hS (cX9_isSheet_k ho1) hd_yX9_isSheet ml_X9_252 st_yX9_isSheet ⟨rfl, rfl⟩ ⟨by decide, by decide⟩ rfl hl.1 rfl (Nat.le_of_ble_eq_true rfl) ⟨Nat.zero_le _, Nat.zero_le _⟩ dX9_drop_1 (fun H locs hP hS => ?_)
  refine lv_if_ne (tgt := 9) hx hb dX9_drop_4 (by decide) (fun c4 => ?_) (fun c4 => ?_)
  · replace h := (if_neg c4).symm.trans h
    refine lv_aload_n hx hb dX9_drop_9 rfl (lv_at hl 0 rfl) ?_
    refine bq_get (q0 := 0) S hK hP fl_X9_70_X9_9 rfl rfl rfl dX9_drop_10 ?_
    refine lv_iload_n hx hb dX9_drop_13 rfl (lv_at hl 1 rfl) ?_
    obtain ⟨g5, h⟩ := bq_gd h
    refine va_aldq (D := D) hx hb hK hP 33 3 rfl rfl g5 dX9_drop_14 ?_
    rw [hkp1]
    try rw [hkp1] at h
    refine W.eq (g2 := F0 m 15 ls [.ref (a 36)]) rfl ?_
    refine lv_astore_n (lv' := [(2, .ref (a 36)), (0, .ref (a 0)), (1, .int p1)]) hx hb dX9_drop_15 rfl hl (by decide) rfl (fun ls hl => ?_)
    refine lv_aload_n hx hb dX9_drop_16 rfl (lv_at hl 0 rfl) ?_
    refine bq_get (q0 := 36) S hK hP fl_X9_262_X6_1 rfl rfl rfl dX9_drop_17 ?_
    refine lv_iconst (v := (-1 : Int32)) hx hb dX9_drop_20 (by decide) ?_
    refine lv_icmp_ne (tgt := 27) hx hb dX9_drop_21 (by decide) (fun c6 => ?_) (fun c6 => ?_)
    · replace h := (if_neg c6).symm.trans h
      refine lv_aload_n hx hb dX9_drop_27 rfl (lv_at hl 0 rfl) ?_
      refine bq_get (q0 := 36) S hK hP fl_X9_265_X6_2 rfl rfl rfl dX9_drop_28 ?_
      refine lv_topi (fun v7 hv7 => ?_)
      replace h := bq_bv h hv7
      refine lv_istore_n (lv' := [(3, .int v7), (2, .ref (a 36)), (0, .ref (a 0)), (1, .int p1)]) hx hb dX9_drop_31 rfl hl (by decide) rfl (fun ls hl => ?_)
      refine lv_aload_n hx hb dX9_drop_32 rfl (lv_at hl 1 rfl) ?_
      refine lv_iconst (v := (-1 : Int32)) hx hb dX9_drop_33 (by decide) ?_
      refine lv_iconst (v := (0 : Int32)) hx hb dX9_drop_34 (by decide) ?_
      obtain ⟨x9, ho8, h⟩ := Option.bind_eq_some_iff.mp h
      refine bq_callVv (q0 := 36) (As := [.int _, .int _]) S hK hD hA hP hS (cX6_begin_k_36 ho8) hd_yX6_begin ml_X9_258 in_yX6_begin (hts _ sl_X6_X6_yX6_begin) ⟨rfl, rfl⟩ ⟨by decide, by decide⟩ rfl rfl rfl hl.1 rfl (Nat.le_of_ble_eq_true rfl) ⟨Nat.zero_le _, Nat.zero_le _⟩ dX9_drop_35 (fun H locs hP hS => ?_)
      refine lv_iload_n hx hb dX9_drop_38 rfl (lv_at hl 0 rfl) ?_
      obtain ⟨e1, e2⟩ := Prod.mk.inj (hret _ h)
      exact hR _ _ _ _ _ (congrArg some e1) rfl (by rw [e2]; exact hP) hS dX9_drop_39
    · replace h := (if_pos c6).symm.trans h
      refine lv_bipush (v := (-11 : Int32)) hx hb dX9_drop_24 (by decide) ?_
      obtain ⟨e1, e2⟩ := Prod.mk.inj (hret _ h)
      exact hR _ _ _ _ _ (congrArg some e1) rfl (by rw [e2]; exact hP) hS dX9_drop_26
  · replace h := (if_pos c4).symm.trans h
    refine lv_iconst (v := (-1 : Int32)) hx hb dX9_drop_7 (by decide) ?_
    obtain ⟨e1, e2⟩ := Prod.mk.inj (hret _ h)
    exact hR _ _ _ _ _ (congrArg some e1) rfl (by rw [e2]; exact hP) hS dX9_drop_8
set_option maxHeartbeats 4000000 in
set_option maxRecDepth 100000 in
theorem cX9_drop_k_0_s2 {l : Launch} {D : va_G} {a : Nat → Nat} {k : Nat → ClassId} {n : Nat} {p1 : Int32} {x0 xz : bq_S} {rz : Int32} (hkp1 : p1.toNatClampNeg = 2) (h : fX9_drop n p1 x0 = some (rz, xz)) : bq_M l D bq_cl (bq_ty k) (bq_wC a k) yX9_drop cX9_drop 4 (some .int) { frames := 2, cells := 0, slots := 0, locals := 46 } [.ref (a 0), .int p1] x0 (some rz) xz := by
  refine bq_ofW RX9 [(0, .ref (a 0)), (1, .int p1)] (by decide +kernel) rfl (Nat.le_of_ble_eq_true rfl) rfl (bq_adC a k) ?_
  intro p e s m below meth c A Q ls S hK hD hA hR hS hP hl
  have hx := S.1; have hb := S.2.1; have hml := S.2.2.1; have hown := S.2.2.2.1; have hts := S.2.2.2.2
  have hret : ∀ z, some z = some (rz, xz) → (rz, xz) = z := fun z h => (Option.some.inj h).symm
  unfold fX9_drop at h
  refine lv_iload_n hx hb dX9_drop_0 rfl (lv_at hl 1 rfl) ?_
  obtain ⟨o1, ho1, h⟩ := Option.bind_eq_some_iff.mp h
  obtain ⟨v3, x2⟩ := o1
  replace h := un2_e h
  refine bq_callSi (As := [.int _]) S hK hD hA hP hS (cX9_isSheet_k ho1) hd_yX9_isSheet ml_X9_252 st_yX9_isSheet ⟨rfl, rfl⟩ ⟨by decide, by decide⟩ rfl hl.1 rfl (Nat.le_of_ble_eq_true rfl) ⟨Nat.zero_le _, Nat.zero_le _⟩ dX9_drop_1 (fun H locs hP hS => ?_)
  refine lv_if_ne (tgt := 9) hx hb dX9_drop_4 (by decide) (fun c4 => ?_) (fun c4 => ?_)
  · replace h := (if_neg c4).symm.trans h
    refine lv_aload_n hx hb dX9_drop_9 rfl (lv_at hl 0 rfl) ?_
    refine bq_get (q0 := 0) S hK hP fl_X9_70_X9_9 rfl rfl rfl dX9_drop_10 ?_
    refine lv_iload_n hx hb dX9_drop_13 rfl (lv_at hl 1 rfl) ?_
    obtain ⟨g5, h⟩ := bq_gd h
    refine va_aldq (D := D) hx hb hK hP 33 3 rfl rfl g5 dX9_drop_14 ?_
    rw [hkp1]
    try rw [hkp1] at h
    refine W.eq (g2 := F0 m 15 ls [.ref (a 38)]) rfl ?_
    refine lv_astore_n (lv' := [(2, .ref (a 38)), (0, .ref (a 0)), (1, .int p1)]) hx hb dX9_drop_15 rfl hl (by decide) rfl (fun ls hl => ?_)
    refine lv_aload_n hx hb dX9_drop_16 rfl (lv_at hl 0 rfl) ?_
    refine bq_get (q0 := 38) S hK hP fl_X9_262_X6_1 rfl rfl rfl dX9_drop_17 ?_
    refine lv_iconst (v := (-1 : Int32)) hx hb dX9_drop_20 (by decide) ?_
    refine lv_icmp_ne (tgt := 27) hx hb dX9_drop_21 (by decide) (fun c6 => ?_) (fun c6 => ?_)
    · replace h := (if_neg c6).symm.trans h
      refine lv_aload_n hx hb dX9_drop_27 rfl (lv_at hl 0 rfl) ?_
      refine bq_get (q0 := 38) S hK hP fl_X9_265_X6_2 rfl rfl rfl dX9_drop_28 ?_
      refine lv_topi (fun v7 hv7 => ?_)
      replace h := bq_bv h hv7
      refine lv_istore_n (lv' := [(3, .int v7), (2, .ref (a 38)), (0, .ref (a 0)), (1, .int p1)]) hx hb dX9_drop_31 rfl hl (by decide) rfl (fun ls hl => ?_)
      refine lv_aload_n hx hb dX9_drop_32 rfl (lv_at hl 1 rfl) ?_
      refine lv_iconst (v := (-1 : Int32)) hx hb dX9_drop_33 (by decide) ?_
      refine lv_iconst (v := (0 : Int32)) hx hb dX9_drop_34 (by decide) ?_
      obtain ⟨x9, ho8, h⟩ := Option.bind_eq_some_iff.mp h
      refine bq_callVv (q0 := 38) (As := [.int _, .int _]) S hK hD hA hP hS (cX6_begin_k_38 ho8) hd_yX6_begin ml_X9_258 in_yX6_begin (hts _ sl_X6_X6_yX6_begin) ⟨rfl, rfl⟩ ⟨by decide, by decide⟩ rfl rfl rfl hl.1 rfl (Nat.le_of_ble_eq_true rfl) ⟨Nat.zero_le _, Nat.zero_le _⟩ dX9_drop_35 (fun H locs hP hS => ?_)
      refine lv_iload_n hx hb dX9_drop_38 rfl (lv_at hl 0 rfl) ?_
      obtain ⟨e1, e2⟩ := Prod.mk.inj (hret _ h)
      exact hR _ _ _ _ _ (congrArg some e1) rfl (by rw [e2]; exact hP) hS dX9_drop_39
    · replace h := (if_pos c6).symm.trans h
      refine lv_bipush (v := (-11 : Int32)) hx hb dX9_drop_24 (by decide) ?_
      obtain ⟨e1, e2⟩ := Prod.mk.inj (hret _ h)
      exact hR _ _ _ _ _ (congrArg some e1) rfl (by rw [e2]; exact hP) hS dX9_drop_26
  · replace h := (if_pos c4).symm.trans h
    refine lv_iconst (v := (-1 : Int32)) hx hb dX9_drop_7 (by decide) ?_
    obtain ⟨e1, e2⟩ := Prod.mk.inj (hret _ h)
    exact hR _ _ _ _ _ (congrArg some e1) rfl (by rw [e2]; exact hP) hS dX9_drop_8
set_option maxHeartbeats 4000000 in
set_option maxRecDepth 100000 in
theorem cX9_drop_k_0_s3 {l : Launch} {D : va_G} {a : Nat → Nat} {k : Nat → ClassId} {n : Nat} {p1 : Int32} {x0 xz : bq_S} {rz : Int32} (hkp1 : p1.toNatClampNeg = 3) (h : fX9_drop n p1 x0 = some (rz, xz)) : bq_M l D bq_cl (bq_ty k) (bq_wC a k) yX9_drop cX9_drop 4 (some .int) { frames := 2, cells := 0, slots := 0, locals := 46 } [.ref (a 0), .int p1] x0 (some rz) xz := by
  refine bq_ofW RX9 [(0, .ref (a 0)), (1, .int p1)] (by decide +kernel) rfl (Nat.le_of_ble_eq_true rfl) rfl (bq_adC a k) ?_
  intro p e s m below meth c A Q ls S hK hD hA hR hS hP hl
  have hx := S.1; have hb := S.2.1; have hml := S.2.2.1; have hown := S.2.2.2.1; have hts := S.2.2.2.2
  have hret : ∀ z, some z = some (rz, xz) → (rz, xz) = z := fun z h => (Option.some.inj h).symm
  unfold fX9_drop at h
  refine lv_iload_n hx hb dX9_drop_0 rfl (lv_at hl 1 rfl) ?_
  obtain ⟨o1, ho1, h⟩ := Option.bind_eq_some_iff.mp h
  obtain ⟨v3, x2⟩ := o1
  replace h := un2_e h
  refine bq_callSi (As := [.int _]) S hK hD hA hP hS (cX9_isSheet_k ho1) hd_yX9_isSheet ml_X9_252 st_yX9_isSheet ⟨rfl, rfl⟩ ⟨by decide, by decide⟩ rfl hl.1 rfl (Nat.le_of_ble_eq_true rfl) ⟨Nat.zero_le _, Nat.zero_le _⟩ dX9_drop_1 (fun H locs hP hS => ?_)
  refine lv_if_ne (tgt := 9) hx hb dX9_drop_4 (by decide) (fun c4 => ?_) (fun c4 => ?_)
  · replace h := (if_neg c4).symm.trans h
    refine lv_aload_n hx hb dX9_drop_9 rfl (lv_at hl 0 rfl) ?_
    refine bq_get (q0 := 0) S hK hP fl_X9_70_X9_9 rfl rfl rfl dX9_drop_10 ?_
    refine lv_iload_n hx hb dX9_drop_13 rfl (lv_at hl 1 rfl) ?_
    obtain ⟨g5, h⟩ := bq_gd h
    refine va_aldq (D := D) hx hb hK hP 33 3 rfl rfl g5 dX9_drop_14 ?_
    rw [hkp1]
    try rw [hkp1] at h
    refine W.eq (g2 := F0 m 15 ls [.ref (a 40)]) rfl ?_
    refine lv_astore_n (lv' := [(2, .ref (a 40)), (0, .ref (a 0)), (1, .int p1)]) hx hb dX9_drop_15 rfl hl (by decide) rfl (fun ls hl => ?_)
    refine lv_aload_n hx hb dX9_drop_16 rfl (lv_at hl 0 rfl) ?_
    refine bq_get (q0 := 40) S hK hP fl_X9_262_X6_1 rfl rfl rfl dX9_drop_17 ?_
    refine lv_iconst (v := (-1 : Int32)) hx hb dX9_drop_20 (by decide) ?_
    refine lv_icmp_ne (tgt := 27) hx hb dX9_drop_21 (by decide) (fun c6 => ?_) (fun c6 => ?_)
    · replace h := (if_neg c6).symm.trans h
      refine lv_aload_n hx hb dX9_drop_27 rfl (lv_at hl 0 rfl) ?_
      refine bq_get (q0 := 40) S hK hP fl_X9_265_X6_2 rfl rfl rfl dX9_drop_28 ?_
      refine lv_topi (fun v7 hv7 => ?_)
      replace h := bq_bv h hv7
      refine lv_istore_n (lv' := [(3, .int v7), (2, .ref (a 40)), (0, .ref (a 0)), (1, .int p1)]) hx hb dX9_drop_31 rfl hl (by decide) rfl (fun ls hl => ?_)
      refine lv_aload_n hx hb dX9_drop_32 rfl (lv_at hl 1 rfl) ?_
      refine lv_iconst (v := (-1 : Int32)) hx hb dX9_drop_33 (by decide) ?_
      refine lv_iconst (v := (0 : Int32)) hx hb dX9_drop_34 (by decide) ?_
      obtain ⟨x9, ho8, h⟩ := Option.bind_eq_some_iff.mp h
      refine bq_callVv (q0 := 40) (As := [.int _, .int _]) S hK hD hA hP hS (cX6_begin_k_40 ho8) hd_yX6_begin ml_X9_258 in_yX6_begin (hts _ sl_X6_X6_yX6_begin) ⟨rfl, rfl⟩ ⟨by decide, by decide⟩ rfl rfl rfl hl.1 rfl (Nat.le_of_ble_eq_true rfl) ⟨Nat.zero_le _, Nat.zero_le _⟩ dX9_drop_35 (fun H locs hP hS => ?_)
      refine lv_iload_n hx hb dX9_drop_38 rfl (lv_at hl 0 rfl) ?_
      obtain ⟨e1, e2⟩ := Prod.mk.inj (hret _ h)
      exact hR _ _ _ _ _ (congrArg some e1) rfl (by rw [e2]; exact hP) hS dX9_drop_39
    · replace h := (if_pos c6).symm.trans h
      refine lv_bipush (v := (-11 : Int32)) hx hb dX9_drop_24 (by decide) ?_
      obtain ⟨e1, e2⟩ := Prod.mk.inj (hret _ h)
      exact hR _ _ _ _ _ (congrArg some e1) rfl (by rw [e2]; exact hP) hS dX9_drop_26
  · replace h := (if_pos c4).symm.trans h
    refine lv_iconst (v := (-1 : Int32)) hx hb dX9_drop_7 (by decide) ?_
    obtain ⟨e1, e2⟩ := Prod.mk.inj (hret _ h)
    exact hR _ _ _ _ _ (congrArg some e1) rfl (by rw [e2]; exact hP) hS dX9_drop_8
set_option maxHeartbeats 4000000 in
set_option maxRecDepth 100000 in
theorem cX9_drop_k_0_sb {l : Launch} {D : va_G} {a : Nat → Nat} {k : Nat → ClassId} {n : Nat} {p1 : Int32} {x0 xz : bq_S} {rz : Int32} (hkp1 : ¬ p1.toNatClampNeg < 4) (h : fX9_drop n p1 x0 = some (rz, xz)) : bq_M l D bq_cl (bq_ty k) (bq_wC a k) yX9_drop cX9_drop 4 (some .int) { frames := 2, cells := 0, slots := 0, locals := 46 } [.ref (a 0), .int p1] x0 (some rz) xz := by
  refine bq_ofW RX9 [(0, .ref (a 0)), (1, .int p1)] (by decide +kernel) rfl (Nat.le_of_ble_eq_true rfl) rfl (bq_adC a k) ?_
  intro p e s m below meth c A Q ls S hK hD hA hR hS hP hl
  have hx := S.1; have hb := S.2.1; have hml := S.2.2.1; have hown := S.2.2.2.1; have hts := S.2.2.2.2
  have hret : ∀ z, some z = some (rz, xz) → (rz, xz) = z := fun z h => (Option.some.inj h).symm
  unfold fX9_drop at h
  refine lv_iload_n hx hb dX9_drop_0 rfl (lv_at hl 1 rfl) ?_
  obtain ⟨o1, ho1, h⟩ := Option.bind_eq_some_iff.mp h
  obtain ⟨v3, x2⟩ := o1
  replace h := un2_e h
  refine bq_callSi (As := [.int _]) S hK hD hA hP hS (cX9_isSheet_k ho1) hd_yX9_isSheet ml_X9_252 st_yX9_isSheet ⟨rfl, rfl⟩ ⟨by decide, by decide⟩ rfl hl.1 rfl (Nat.le_of_ble_eq_true rfl) ⟨Nat.zero_le _, Nat.zero_le _⟩ dX9_drop_1 (fun H locs hP hS => ?_)
  refine lv_if_ne (tgt := 9) hx hb dX9_drop_4 (by decide) (fun c4 => ?_) (fun c4 => ?_)
  · replace h := (if_neg c4).symm.trans h
    refine lv_aload_n hx hb dX9_drop_9 rfl (lv_at hl 0 rfl) ?_
    refine bq_get (q0 := 0) S hK hP fl_X9_70_X9_9 rfl rfl rfl dX9_drop_10 ?_
    refine lv_iload_n hx hb dX9_drop_13 rfl (lv_at hl 1 rfl) ?_
    obtain ⟨g5, h⟩ := bq_gd h
    exact absurd (bq_lt g5) hkp1
  · replace h := (if_pos c4).symm.trans h
    refine lv_iconst (v := (-1 : Int32)) hx hb dX9_drop_7 (by decide) ?_
    obtain ⟨e1, e2⟩ := Prod.mk.inj (hret _ h)
    exact hR _ _ _ _ _ (congrArg some e1) rfl (by rw [e2]; exact hP) hS dX9_drop_8
theorem cX9_drop_k_0 {l : Launch} {D : va_G} {a : Nat → Nat} {k : Nat → ClassId} {n : Nat} {p1 : Int32} {x0 xz : bq_S} {rz : Int32} (h : fX9_drop n p1 x0 = some (rz, xz)) : bq_M l D bq_cl (bq_ty k) (bq_wC a k) yX9_drop cX9_drop 4 (some .int) { frames := 2, cells := 0, slots := 0, locals := 46 } [.ref (a 0), .int p1] x0 (some rz) xz := by
  by_cases k0 : p1.toNatClampNeg < 4
  · rcases (show p1.toNatClampNeg = 0 ∨ p1.toNatClampNeg = 1 ∨ p1.toNatClampNeg = 2 ∨ p1.toNatClampNeg = 3 by omega) with e0 | e0 | e0 | e0
    · skip
      exact cX9_drop_k_0_s0 e0 h
    · skip
      exact cX9_drop_k_0_s1 e0 h
    · skip
      exact cX9_drop_k_0_s2 e0 h
    · skip
      exact cX9_drop_k_0_s3 e0 h
  · skip
    exact cX9_drop_k_0_sb k0 h
def fX6_write (q0 : Nat) (p1 : Int32) (p2 : Int64) (x0 : bq_S) : Option (bq_S) :=
  bd (x0.1 q0 1) (fun v1 =>
  if v1 = (0 : Int32) then
  if ok_i p1 16 then
  bd (bq_sL x0 (q0 + 1) p1.toNatClampNeg p2.toInt32.toInt8.toInt32.toInt64) (fun x2 =>
  some x2)
  else none
  else
  if v1 = (1 : Int32) then
  if ok_i p1 16 then
  bd (bq_sL x0 (q0 + 1) p1.toNatClampNeg p2.toInt32.toInt64) (fun x5 =>
  some x5)
  else none
  else
  if ok_i p1 16 then
  bd (bq_sL x0 (q0 + 1) p1.toNatClampNeg p2) (fun x8 =>
  some x8)
  else none)
theorem dX6_write_0 : decode cX6_write 0 = .ok (.aload_n 0, 1) := by decide +kernel
theorem dX6_write_1 : decode cX6_write 1 = .ok (.getfield 15, 3) := by decide +kernel
theorem dX6_write_4 : decode cX6_write 4 = .ok (.lookupswitch 53 #[(0, 28), (1, 41)], 28) := by decide +kernel
theorem dX6_write_32 : decode cX6_write 32 = .ok (.aload_n 0, 1) := by decide +kernel
theorem dX6_write_33 : decode cX6_write 33 = .ok (.getfield 9, 3) := by decide +kernel
theorem dX6_write_36 : decode cX6_write 36 = .ok (.iload_n 1, 1) := by decide +kernel
theorem dX6_write_37 : decode cX6_write 37 = .ok (.lload_n 2, 1) := by decide +kernel
theorem dX6_write_38 : decode cX6_write 38 = .ok (.l2i, 1) := by decide +kernel
theorem dX6_write_39 : decode cX6_write 39 = .ok (.i2b, 1) := by decide +kernel
theorem dX6_write_40 : decode cX6_write 40 = .ok (.i2l, 1) := by decide +kernel
theorem dX6_write_41 : decode cX6_write 41 = .ok (.lastore, 1) := by decide +kernel
theorem dX6_write_42 : decode cX6_write 42 = .ok (.goto 22, 3) := by decide +kernel
theorem dX6_write_45 : decode cX6_write 45 = .ok (.aload_n 0, 1) := by decide +kernel
theorem dX6_write_46 : decode cX6_write 46 = .ok (.getfield 9, 3) := by decide +kernel
theorem dX6_write_49 : decode cX6_write 49 = .ok (.iload_n 1, 1) := by decide +kernel
theorem dX6_write_50 : decode cX6_write 50 = .ok (.lload_n 2, 1) := by decide +kernel
theorem dX6_write_51 : decode cX6_write 51 = .ok (.l2i, 1) := by decide +kernel
theorem dX6_write_52 : decode cX6_write 52 = .ok (.i2l, 1) := by decide +kernel
theorem dX6_write_53 : decode cX6_write 53 = .ok (.lastore, 1) := by decide +kernel
theorem dX6_write_54 : decode cX6_write 54 = .ok (.goto 10, 3) := by decide +kernel
theorem dX6_write_57 : decode cX6_write 57 = .ok (.aload_n 0, 1) := by decide +kernel
theorem dX6_write_58 : decode cX6_write 58 = .ok (.getfield 9, 3) := by decide +kernel
theorem dX6_write_61 : decode cX6_write 61 = .ok (.iload_n 1, 1) := by decide +kernel
theorem dX6_write_62 : decode cX6_write 62 = .ok (.lload_n 2, 1) := by decide +kernel
theorem dX6_write_63 : decode cX6_write 63 = .ok (.lastore, 1) := by decide +kernel
theorem dX6_write_64 : decode cX6_write 64 = .ok (.return_, 1) := by decide +kernel
set_option maxHeartbeats 4000000 in
set_option maxRecDepth 100000 in
theorem cX6_write_k_34 {l : Launch} {D : va_G} {a : Nat → Nat} {k : Nat → ClassId} {p1 : Int32} {p2 : Int64} {x0 xz : bq_S} (h : fX6_write  34 p1 p2 x0 = some xz) : bq_M l D bq_cl (bq_ty k) (bq_wC a k) yX6_write cX6_write 4 none { frames := 0, cells := 0, slots := 0, locals := 0 } [.ref (a 34), .int p1, .long p2] x0 none xz := by
  refine bq_ofWv RX6 [(0, .ref (a 34)), (1, .int p1), (2, .long p2)] (by decide +kernel) rfl (Nat.le_of_ble_eq_true rfl) rfl (bq_adC a k) ?_
  intro p e s m below meth c A Q ls S hK hD hA hR hS hP hl
  have hx := S.1; have hb := S.2.1; have hml := S.2.2.1; have hown := S.2.2.2.1; have hts := S.2.2.2.2
  have hret : ∀ z, some z = some xz → xz = z := fun z h => (Option.some.inj h).symm
  unfold fX6_write at h
  refine lv_aload_n hx hb dX6_write_0 rfl (lv_at hl 0 rfl) ?_
  refine bq_get (q0 := 34) S hK hP fl_X6_15_X6_1 rfl rfl rfl dX6_write_1 ?_
  refine lv_topi (fun v1 hv1 => ?_)
  replace h := bq_bv h hv1
  by_cases c4 : v1 = (0 : Int32)
  · replace h := (if_pos c4).symm.trans h
    refine lv_lookup (off := 28) (tgt := 32) hx hb dX6_write_4 (by decide) (by rw [c4]; rfl) (by decide) ?_
    refine lv_aload_n hx hb dX6_write_32 rfl (lv_at hl 0 rfl) ?_
    refine bq_get (q0 := 34) S hK hP fl_X6_9_X6_0 rfl rfl rfl dX6_write_33 ?_
    refine lv_iload_n hx hb dX6_write_36 rfl (lv_at hl 1 rfl) ?_
    refine lv_lload_n hx hb dX6_write_37 rfl (lv_at hl 2 rfl) ?_
    refine lv_l2i hx hb dX6_write_38 rfl ?_
    refine lv_i2b hx hb dX6_write_39 rfl ?_
    refine lv_i2l hx hb dX6_write_40 rfl ?_
    obtain ⟨g3, h⟩ := bq_gd h
    obtain ⟨x2, hx2, h⟩ := bq_b h
    refine bq_last (x1 := x2) (q0 := 35) (t0 := 1) S hK hD hP hS rfl rfl g3 (by rw [hx2]; rfl) dX6_write_41 (fun H locs hP hS => ?_)
    refine lv_goto (tgt := 64) hx hb dX6_write_42 (by decide) ?_
    have e2 := hret _ h
    exact hR _ _ _ _ rfl (by rw [e2]; exact hP) hS dX6_write_64
  replace h := (if_neg c4).symm.trans h
  by_cases c7 : v1 = (1 : Int32)
  · replace h := (if_pos c7).symm.trans h
    refine lv_lookup (off := 41) (tgt := 45) hx hb dX6_write_4 (by decide) (by rw [c7]; rfl) (by decide) ?_
    refine lv_aload_n hx hb dX6_write_45 rfl (lv_at hl 0 rfl) ?_
    refine bq_get (q0 := 34) S hK hP fl_X6_9_X6_0 rfl rfl rfl dX6_write_46 ?_
    refine lv_iload_n hx hb dX6_write_49 rfl (lv_at hl 1 rfl) ?_
    refine lv_lload_n hx hb dX6_write_50 rfl (lv_at hl 2 rfl) ?_
    refine lv_l2i hx hb dX6_write_51 rfl ?_
    refine lv_i2l hx hb dX6_write_52 rfl ?_
    obtain ⟨g6, h⟩ := bq_gd h
    obtain ⟨x5, hx5, h⟩ := bq_b h
    refine bq_last (x1 := x5) (q0 := 35) (t0 := 1) S hK hD hP hS rfl rfl g6 (by rw [hx5]; rfl) dX6_write_53 (fun H locs hP hS => ?_)
    refine lv_goto (tgt := 64) hx hb dX6_write_54 (by decide) ?_
    have e2 := hret _ h
    exact hR _ _ _ _ rfl (by rw [e2]; exact hP) hS dX6_write_64
  replace h := (if_neg c7).symm.trans h
  refine lv_lookup (off := 53) (tgt := 57) hx hb dX6_write_4 (by decide) (by simp [Op.lookupswitch.offset, Ne.symm (lv_neT c4 (a := 0) rfl), Ne.symm (lv_neT c7 (a := 1) rfl)]) (by decide) ?_
  refine lv_aload_n hx hb dX6_write_57 rfl (lv_at hl 0 rfl) ?_
  refine bq_get (q0 := 34) S hK hP fl_X6_9_X6_0 rfl rfl rfl dX6_write_58 ?_
  refine lv_iload_n hx hb dX6_write_61 rfl (lv_at hl 1 rfl) ?_
  refine lv_lload_n hx hb dX6_write_62 rfl (lv_at hl 2 rfl) ?_
  obtain ⟨g9, h⟩ := bq_gd h
  obtain ⟨x8, hx8, h⟩ := bq_b h
  refine bq_last (x1 := x8) (q0 := 35) (t0 := 1) S hK hD hP hS rfl rfl g9 (by rw [hx8]; rfl) dX6_write_63 (fun H locs hP hS => ?_)
  have e2 := hret _ h
  exact hR _ _ _ _ rfl (by rw [e2]; exact hP) hS dX6_write_64
def fX9_item (p1 : Int32) (p2 : Int32) (p3 : Int32) (p4 : Int64) (x0 : bq_S) : Option (Int32 × bq_S) :=
  (fX9_refusalOf p1 p2 p3 (1 : Int32) x0).bind (fun o1 => un2 o1 (fun v3 x2 =>
  if v3 = 0 then
  if ok_i p1 4 then
  (fX6_write (34 + 2 * p1.toNatClampNeg) p3 p4 x2).bind (fun x7 =>
  some ((1 : Int32), x7))
  else none
  else
  some (v3, x2)))
theorem dX9_item_0 : decode cX9_item 0 = .ok (.aload_n 0, 1) := by decide +kernel
theorem dX9_item_1 : decode cX9_item 1 = .ok (.iload_n 1, 1) := by decide +kernel
theorem dX9_item_2 : decode cX9_item 2 = .ok (.iload_n 2, 1) := by decide +kernel
theorem dX9_item_3 : decode cX9_item 3 = .ok (.iload_n 3, 1) := by decide +kernel
theorem dX9_item_4 : decode cX9_item 4 = .ok (.iconst 1, 1) := by decide +kernel
theorem dX9_item_5 : decode cX9_item 5 = .ok (.invokevirtual 233, 3) := by decide +kernel
theorem dX9_item_8 : decode cX9_item 8 = .ok (.istore 6, 2) := by decide +kernel
theorem dX9_item_10 : decode cX9_item 10 = .ok (.iload 6, 2) := by decide +kernel
theorem dX9_item_12 : decode cX9_item 12 = .ok (.ifCond .eq 6, 3) := by decide +kernel
theorem dX9_item_15 : decode cX9_item 15 = .ok (.iload 6, 2) := by decide +kernel
theorem dX9_item_17 : decode cX9_item 17 = .ok (.ireturn, 1) := by decide +kernel
theorem dX9_item_18 : decode cX9_item 18 = .ok (.aload_n 0, 1) := by decide +kernel
theorem dX9_item_19 : decode cX9_item 19 = .ok (.getfield 70, 3) := by decide +kernel
theorem dX9_item_22 : decode cX9_item 22 = .ok (.iload_n 1, 1) := by decide +kernel
theorem dX9_item_23 : decode cX9_item 23 = .ok (.aaload, 1) := by decide +kernel
theorem dX9_item_24 : decode cX9_item 24 = .ok (.iload_n 3, 1) := by decide +kernel
theorem dX9_item_25 : decode cX9_item 25 = .ok (.lload 4, 2) := by decide +kernel
theorem dX9_item_27 : decode cX9_item 27 = .ok (.invokevirtual 266, 3) := by decide +kernel
theorem dX9_item_30 : decode cX9_item 30 = .ok (.iconst 1, 1) := by decide +kernel
theorem dX9_item_31 : decode cX9_item 31 = .ok (.ireturn, 1) := by decide +kernel
set_option maxHeartbeats 4000000 in
set_option maxRecDepth 100000 in
theorem cX9_item_k_0_s0 {l : Launch} {D : va_G} {a : Nat → Nat} {k : Nat → ClassId} {p1 : Int32} {p2 : Int32} {p3 : Int32} {p4 : Int64} {x0 xz : bq_S} {rz : Int32} (hkp1 : p1.toNatClampNeg = 0) (h : fX9_item  p1 p2 p3 p4 x0 = some (rz, xz)) : bq_M l D bq_cl (bq_ty k) (bq_wC a k) yX9_item cX9_item 7 (some .int) { frames := 2, cells := 0, slots := 0, locals := 47 } [.ref (a 0), .int p1, .int p2, .int p3, .long p4] x0 (some rz) xz := by
  refine bq_ofW RX9 [(0, .ref (a 0)), (1, .int p1), (2, .int p2), (3, .int p3), (4, .long p4)] (by decide +kernel) rfl (Nat.le_of_ble_eq_true rfl) rfl (bq_adC a k) ?_
  intro p e s m below meth c A Q ls S hK hD hA hR hS hP hl
  have hx := S.1; have hb := S.2.1; have hml := S.2.2.1; have hown := S.2.2.2.1; have hts := S.2.2.2.2
  have hret : ∀ z, some z = some (rz, xz) → (rz, xz) = z := fun z h => (Option.some.inj h).symm
  unfold fX9_item at h
  refine lv_aload_n hx hb dX9_item_0 rfl (lv_at hl 0 rfl) ?_
  refine lv_iload_n hx hb dX9_item_1 rfl (lv_at hl 1 rfl) ?_
  refine lv_iload_n hx hb dX9_item_2 rfl (lv_at hl 2 rfl) ?_
  refine lv_iload_n hx hb dX9_item_3 rfl (lv_at hl 3 rfl) ?_
  refine lv_iconst (v := (1 : Int32)) hx hb dX9_item_4 (by decide) ?_
  obtain ⟨o1, ho1, h⟩ := Option.bind_eq_some_iff.mp h
  obtain ⟨v3, x2⟩ := o1
  replace h := un2_e h
  refine bq_callVi (q0 := 0) (As := [.int _, .int _, .int _, .int _]) S hK hD hA hP hS (cX9_refusalOf_k_0 ho1) hd_yX9_refusalOf ml_X9_233 in_yX9_refusalOf (hts _ sl_X9_X9_yX9_refusalOf) ⟨rfl, rfl⟩ ⟨by decide, by decide⟩ rfl rfl rfl hl.1 rfl (Nat.le_of_ble_eq_true rfl) ⟨Nat.zero_le _, Nat.zero_le _⟩ dX9_item_5 (fun H locs hP hS => ?_)
  refine lv_istore (lv' := [(6, .int v3), (0, .ref (a 0)), (1, .int p1), (2, .int p2), (3, .int p3), (4, .long p4)]) hx hb dX9_item_8 hl (by decide) rfl (fun ls hl => ?_)
  refine lv_iload hx hb dX9_item_10 (lv_at hl 0 rfl) ?_
  refine lv_if_eq (tgt := 18) hx hb dX9_item_12 (by decide) (fun c4 => ?_) (fun c4 => ?_)
  · replace h := (if_pos c4).symm.trans h
    refine lv_aload_n hx hb dX9_item_18 rfl (lv_at hl 1 rfl) ?_
    refine bq_get (q0 := 0) S hK hP fl_X9_70_X9_9 rfl rfl rfl dX9_item_19 ?_
    refine lv_iload_n hx hb dX9_item_22 rfl (lv_at hl 2 rfl) ?_
    obtain ⟨g5, h⟩ := bq_gd h
    refine va_aldq (D := D) hx hb hK hP 33 3 rfl rfl g5 dX9_item_23 ?_
    rw [hkp1]
    try rw [hkp1] at h
    refine W.eq (g2 := F0 m 24 ls [.ref (a 34)]) rfl ?_
    refine lv_iload_n hx hb dX9_item_24 rfl (lv_at hl 4 rfl) ?_
    refine lv_lload hx hb dX9_item_25 (lv_at hl 5 rfl) ?_
    obtain ⟨x7, ho6, h⟩ := Option.bind_eq_some_iff.mp h
    refine bq_callVv (q0 := 34) (As := [.int _, .long _]) S hK hD hA hP hS (cX6_write_k_34 ho6) hd_yX6_write ml_X9_266 in_yX6_write (hts _ sl_X6_X6_yX6_write) ⟨rfl, rfl⟩ ⟨by decide, by decide⟩ rfl rfl rfl hl.1 rfl (Nat.le_of_ble_eq_true rfl) ⟨Nat.zero_le _, Nat.zero_le _⟩ dX9_item_27 (fun H locs hP hS => ?_)
    refine lv_iconst (v := (1 : Int32)) hx hb dX9_item_30 (by decide) ?_
    obtain ⟨e1, e2⟩ := Prod.mk.inj (hret _ h)
    exact hR _ _ _ _ _ (congrArg some e1) rfl (by rw [e2]; exact hP) hS dX9_item_31
  · replace h := (if_neg c4).symm.trans h
    refine lv_iload hx hb dX9_item_15 (lv_at hl 0 rfl) ?_
    obtain ⟨e1, e2⟩ := Prod.mk.inj (hret _ h)
    exact hR _ _ _ _ _ (congrArg some e1) rfl (by rw [e2]; exact hP) hS dX9_item_17
set_option maxHeartbeats 4000000 in
set_option maxRecDepth 100000 in
theorem cX6_write_k_36 {l : Launch} {D : va_G} {a : Nat → Nat} {k : Nat → ClassId} {p1 : Int32} {p2 : Int64} {x0 xz : bq_S} (h : fX6_write  36 p1 p2 x0 = some xz) : bq_M l D bq_cl (bq_ty k) (bq_wC a k) yX6_write cX6_write 4 none { frames := 0, cells := 0, slots := 0, locals := 0 } [.ref (a 36), .int p1, .long p2] x0 none xz := by
  refine bq_ofWv RX6 [(0, .ref (a 36)), (1, .int p1), (2, .long p2)] (by decide +kernel) rfl (Nat.le_of_ble_eq_true rfl) rfl (bq_adC a k) ?_
  intro p e s m below meth c A Q ls S hK hD hA hR hS hP hl
  have hx := S.1; have hb := S.2.1; have hml := S.2.2.1; have hown := S.2.2.2.1; have hts := S.2.2.2.2
  have hret : ∀ z, some z = some xz → xz = z := fun z h => (Option.some.inj h).symm
  unfold fX6_write at h
  refine lv_aload_n hx hb dX6_write_0 rfl (lv_at hl 0 rfl) ?_
  refine bq_get (q0 := 36) S hK hP fl_X6_15_X6_1 rfl rfl rfl dX6_write_1 ?_
  refine lv_topi (fun v1 hv1 => ?_)
  replace h := bq_bv h hv1
  by_cases c4 : v1 = (0 : Int32)
  · replace h := (if_pos c4).symm.trans h
    refine lv_lookup (off := 28) (tgt := 32) hx hb dX6_write_4 (by decide) (by rw [c4]; rfl) (by decide) ?_
    refine lv_aload_n hx hb dX6_write_32 rfl (lv_at hl 0 rfl) ?_
    refine bq_get (q0 := 36) S hK hP fl_X6_9_X6_0 rfl rfl rfl dX6_write_33 ?_
    refine lv_iload_n hx hb dX6_write_36 rfl (lv_at hl 1 rfl) ?_
    refine lv_lload_n hx hb dX6_write_37 rfl (lv_at hl 2 rfl) ?_
    refine lv_l2i hx hb dX6_write_38 rfl ?_
    refine lv_i2b hx hb dX6_write_39 rfl ?_
    refine lv_i2l hx hb dX6_write_40 rfl ?_
    obtain ⟨g3, h⟩ := bq_gd h
    obtain ⟨x2, hx2, h⟩ := bq_b h
    refine bq_last (x1 := x2) (q0 := 37) (t0 := 1) S hK hD hP hS rfl rfl g3 (by rw [hx2]; rfl) dX6_write_41 (fun H locs hP hS => ?_)
    refine lv_goto (tgt := 64) hx hb dX6_write_42 (by decide) ?_
    have e2 := hret _ h
    exact hR _ _ _ _ rfl (by rw [e2]; exact hP) hS dX6_write_64
  replace h := (if_neg c4).symm.trans h
  by_cases c7 : v1 = (1 : Int32)
  · replace h := (if_pos c7).symm.trans h
    refine lv_lookup (off := 41) (tgt := 45) hx hb dX6_write_4 (by decide) (by rw [c7]; rfl) (by decide) ?_
    refine lv_aload_n hx hb dX6_write_45 rfl (lv_at hl 0 rfl) ?_
    refine bq_get (q0 := 36) S hK hP fl_X6_9_X6_0 rfl rfl rfl dX6_write_46 ?_
    refine lv_iload_n hx hb dX6_write_49 rfl (lv_at hl 1 rfl) ?_
    refine lv_lload_n hx hb dX6_write_50 rfl (lv_at hl 2 rfl) ?_
    refine lv_l2i hx hb dX6_write_51 rfl ?_
    refine lv_i2l hx hb dX6_write_52 rfl ?_
    obtain ⟨g6, h⟩ := bq_gd h
    obtain ⟨x5, hx5, h⟩ := bq_b h
    refine bq_last (x1 := x5) (q0 := 37) (t0 := 1) S hK hD hP hS rfl rfl g6 (by rw [hx5]; rfl) dX6_write_53 (fun H locs hP hS => ?_)
    refine lv_goto (tgt := 64) hx hb dX6_write_54 (by decide) ?_
    have e2 := hret _ h
    exact hR _ _ _ _ rfl (by rw [e2]; exact hP) hS dX6_write_64
  replace h := (if_neg c7).symm.trans h
  refine lv_lookup (off := 53) (tgt := 57) hx hb dX6_write_4 (by decide) (by simp [Op.lookupswitch.offset, Ne.symm (lv_neT c4 (a := 0) rfl), Ne.symm (lv_neT c7 (a := 1) rfl)]) (by decide) ?_
  refine lv_aload_n hx hb dX6_write_57 rfl (lv_at hl 0 rfl) ?_
  refine bq_get (q0 := 36) S hK hP fl_X6_9_X6_0 rfl rfl rfl dX6_write_58 ?_
  refine lv_iload_n hx hb dX6_write_61 rfl (lv_at hl 1 rfl) ?_
  refine lv_lload_n hx hb dX6_write_62 rfl (lv_at hl 2 rfl) ?_
  obtain ⟨g9, h⟩ := bq_gd h
  obtain ⟨x8, hx8, h⟩ := bq_b h
  refine bq_last (x1 := x8) (q0 := 37) (t0 := 1) S hK hD hP hS rfl rfl g9 (by rw [hx8]; rfl) dX6_write_63 (fun H locs hP hS => ?_)
  have e2 := hret _ h
  exact hR _ _ _ _ rfl (by rw [e2]; exact hP) hS dX6_write_64
set_option maxHeartbeats 4000000 in
set_option maxRecDepth 100000 in
theorem cX9_item_k_0_s1 {l : Launch} {D : va_G} {a : Nat → Nat} {k : Nat → ClassId} {p1 : Int32} {p2 : Int32} {p3 : Int32} {p4 : Int64} {x0 xz : bq_S} {rz : Int32} (hkp1 : p1.toNatClampNeg = 1) (h : fX9_item  p1 p2 p3 p4 x0 = some (rz, xz)) : bq_M l D bq_cl (bq_ty k) (bq_wC a k) yX9_item cX9_item 7 (some .int) { frames := 2, cells := 0, slots := 0, locals := 47 } [.ref (a 0), .int p1, .int p2, .int p3, .long p4] x0 (some rz) xz := by
  refine bq_ofW RX9 [(0, .ref (a 0)), (1, .int p1), (2, .int p2), (3, .int p3), (4, .long p4)] (by decide +kernel) rfl (Nat.le_of_ble_eq_true rfl) rfl (bq_adC a k) ?_
  intro p e s m below meth c A Q ls S hK hD hA hR hS hP hl
  have hx := S.1; have hb := S.2.1; have hml := S.2.2.1; have hown := S.2.2.2.1; have hts := S.2.2.2.2
  have hret : ∀ z, some z = some (rz, xz) → (rz, xz) = z := fun z h => (Option.some.inj h).symm
  unfold fX9_item at h
  refine lv_aload_n hx hb dX9_item_0 rfl (lv_at hl 0 rfl) ?_
  refine lv_iload_n hx hb dX9_item_1 rfl (lv_at hl 1 rfl) ?_
  refine lv_iload_n hx hb dX9_item_2 rfl (lv_at hl 2 rfl) ?_
  refine lv_iload_n hx hb dX9_item_3 rfl (lv_at hl 3 rfl) ?_
  refine lv_iconst (v := (1 : Int32)) hx hb dX9_item_4 (by decide) ?_
  obtain ⟨o1, ho1, h⟩ := Option.bind_eq_some_iff.mp h
  obtain ⟨v3, x2⟩ := o1
  replace h := un2_e h
  refine bq_callVi (q0 := 0) (As := [.int _, .int _, .int _, .int _]) S hK hD hA hP hS (cX9_refusalOf_k_0 ho1) hd_yX9_refusalOf ml_X9_233 in_yX9_refusalOf (hts _ sl_X9_X9_yX9_refusalOf) ⟨rfl, rfl⟩ ⟨by decide, by decide⟩ rfl rfl rfl hl.1 rfl (Nat.le_of_ble_eq_true rfl) ⟨Nat.zero_le _, Nat.zero_le _⟩ dX9_item_5 (fun H locs hP hS => ?_)
  refine lv_istore (lv' := [(6, .int v3), (0, .ref (a 0)), (1, .int p1), (2, .int p2), (3, .int p3), (4, .long p4)]) hx hb dX9_item_8 hl (by decide) rfl (fun ls hl => ?_)
  refine lv_iload hx hb dX9_item_10 (lv_at hl 0 rfl) ?_
  refine lv_if_eq (tgt := 18) hx hb dX9_item_12 (by decide) (fun c4 => ?_) (fun c4 => ?_)
  · replace h := (if_pos c4).symm.trans h
    refine lv_aload_n hx hb dX9_item_18 rfl (lv_at hl 1 rfl) ?_
    refine bq_get (q0 := 0) S hK hP fl_X9_70_X9_9 rfl rfl rfl dX9_item_19 ?_
    refine lv_iload_n hx hb dX9_item_22 rfl (lv_at hl 2 rfl) ?_
    obtain ⟨g5, h⟩ := bq_gd h
    refine va_aldq (D := D) hx hb hK hP 33 3 rfl rfl g5 dX9_item_23 ?_
    rw [hkp1]
    try rw [hkp1] at h
    refine W.eq (g2 := F0 m 24 ls [.ref (a 36)]) rfl ?_
    refine lv_iload_n hx hb dX9_item_24 rfl (lv_at hl 4 rfl) ?_
    refine lv_lload hx hb dX9_item_25 (lv_at hl 5 rfl) ?_
    obtain ⟨x7, ho6, h⟩ := Option.bind_eq_some_iff.mp h
    refine bq_callVv (q0 := 36) (As := [.int _, .long _]) S hK hD hA hP hS (cX6_write_k_36 ho6) hd_yX6_write ml_X9_266 in_yX6_write (hts _ sl_X6_X6_yX6_write) ⟨rfl, rfl⟩ ⟨by decide, by decide⟩ rfl rfl rfl hl.1 rfl (Nat.le_of_ble_eq_true rfl) ⟨Nat.zero_le _, Nat.zero_le _⟩ dX9_item_27 (fun H locs hP hS => ?_)
    refine lv_iconst (v := (1 : Int32)) hx hb dX9_item_30 (by decide) ?_
    obtain ⟨e1, e2⟩ := Prod.mk.inj (hret _ h)
    exact hR _ _ _ _ _ (congrArg some e1) rfl (by rw [e2]; exact hP) hS dX9_item_31
  · replace h := (if_neg c4).symm.trans h
    refine lv_iload hx hb dX9_item_15 (lv_at hl 0 rfl) ?_
    obtain ⟨e1, e2⟩ := Prod.mk.inj (hret _ h)
    exact hR _ _ _ _ _ (congrArg some e1) rfl (by rw [e2]; exact hP) hS dX9_item_17
set_option maxHeartbeats 4000000 in
set_option maxRecDepth 100000 in
theorem cX6_write_k_38 {l : Launch} {D : va_G} {a : Nat → Nat} {k : Nat → ClassId} {p1 : Int32} {p2 : Int64} {x0 xz : bq_S} (h : fX6_write  38 p1 p2 x0 = some xz) : bq_M l D bq_cl (bq_ty k) (bq_wC a k) yX6_write cX6_write 4 none { frames := 0, cells := 0, slots := 0, locals := 0 } [.ref (a 38), .int p1, .long p2] x0 none xz := by
  refine bq_ofWv RX6 [(0, .ref (a 38)), (1, .int p1), (2, .long p2)] (by decide +kernel) rfl (Nat.le_of_ble_eq_true rfl) rfl (bq_adC a k) ?_
  intro p e s m below meth c A Q ls S hK hD hA hR hS hP hl
  have hx := S.1; have hb := S.2.1; have hml := S.2.2.1; have hown := S.2.2.2.1; have hts := S.2.2.2.2
  have hret : ∀ z, some z = some xz → xz = z := fun z h => (Option.some.inj h).symm
  unfold fX6_write at h
  refine lv_aload_n hx hb dX6_write_0 rfl (lv_at hl 0 rfl) ?_
  refine bq_get (q0 := 38) S hK hP fl_X6_15_X6_1 rfl rfl rfl dX6_write_1 ?_
  refine lv_topi (fun v1 hv1 => ?_)
  replace h := bq_bv h hv1
  by_cases c4 : v1 = (0 : Int32)
  · replace h := (if_pos c4).symm.trans h
    refine lv_lookup (off := 28) (tgt := 32) hx hb dX6_write_4 (by decide) (by rw [c4]; rfl) (by decide) ?_
    refine lv_aload_n hx hb dX6_write_32 rfl (lv_at hl 0 rfl) ?_
    refine bq_get (q0 := 38) S hK hP fl_X6_9_X6_0 rfl rfl rfl dX6_write_33 ?_
    refine lv_iload_n hx hb dX6_write_36 rfl (lv_at hl 1 rfl) ?_
    refine lv_lload_n hx hb dX6_write_37 rfl (lv_at hl 2 rfl) ?_
    refine lv_l2i hx hb dX6_write_38 rfl ?_
    refine lv_i2b hx hb dX6_write_39 rfl ?_
    refine lv_i2l hx hb dX6_write_40 rfl ?_
    obtain ⟨g3, h⟩ := bq_gd h
    obtain ⟨x2, hx2, h⟩ := bq_b h
    refine bq_last (x1 := x2) (q0 := 39) (t0 := 1) S hK hD hP hS rfl rfl g3 (by rw [hx2]; rfl) dX6_write_41 (fun H locs hP hS => ?_)
    refine lv_goto (tgt := 64) hx hb dX6_write_42 (by decide) ?_
    have e2 := hret _ h
    exact hR _ _ _ _ rfl (by rw [e2]; exact hP) hS dX6_write_64
  replace h := (if_neg c4).symm.trans h
  by_cases c7 : v1 = (1 : Int32)
  · replace h := (if_pos c7).symm.trans h
    refine lv_lookup (off := 41) (tgt := 45) hx hb dX6_write_4 (by decide) (by rw [c7]; rfl) (by decide) ?_
    refine lv_aload_n hx hb dX6_write_45 rfl (lv_at hl 0 rfl) ?_
    refine bq_get (q0 := 38) S hK hP fl_X6_9_X6_0 rfl rfl rfl dX6_write_46 ?_
    refine lv_iload_n hx hb dX6_write_49 rfl (lv_at hl 1 rfl) ?_
    refine lv_lload_n hx hb dX6_write_50 rfl (lv_at hl 2 rfl) ?_
    refine lv_l2i hx hb dX6_write_51 rfl ?_
    refine lv_i2l hx hb dX6_write_52 rfl ?_
    obtain ⟨g6, h⟩ := bq_gd h
    obtain ⟨x5, hx5, h⟩ := bq_b h
    refine bq_last (x1 := x5) (q0 := 39) (t0 := 1) S hK hD hP hS rfl rfl g6 (by rw [hx5]; rfl) dX6_write_53 (fun H locs hP hS => ?_)
    refine lv_goto (tgt := 64) hx hb dX6_write_54 (by decide) ?_
    have e2 := hret _ h
    exact hR _ _ _ _ rfl (by rw [e2]; exact hP) hS dX6_write_64
  replace h := (if_neg c7).symm.trans h
  refine lv_lookup (off := 53) (tgt := 57) hx hb dX6_write_4 (by decide) (by simp [Op.lookupswitch.offset, Ne.symm (lv_neT c4 (a := 0) rfl), Ne.symm (lv_neT c7 (a := 1) rfl)]) (by decide) ?_
  refine lv_aload_n hx hb dX6_write_57 rfl (lv_at hl 0 rfl) ?_
  refine bq_get (q0 := 38) S hK hP fl_X6_9_X6_0 rfl rfl rfl dX6_write_58 ?_
  refine lv_iload_n hx hb dX6_write_61 rfl (lv_at hl 1 rfl) ?_
  refine lv_lload_n hx hb dX6_write_62 rfl (lv_at hl 2 rfl) ?_
  obtain ⟨g9, h⟩ := bq_gd h
  obtain ⟨x8, hx8, h⟩ := bq_b h
  refine bq_last (x1 := x8) (q0 := 39) (t0 := 1) S hK hD hP hS rfl rfl g9 (by rw [hx8]; rfl) dX6_write_63 (fun H locs hP hS => ?_)
  have e2 := hret _ h
  exact hR _ _ _ _ rfl (by rw [e2]; exact hP) hS dX6_write_64
set_option maxHeartbeats 4000000 in
set_option maxRecDepth 100000 in
theorem cX9_item_k_0_s2 {l : Launch} {D : va_G} {a : Nat → Nat} {k : Nat → ClassId} {p1 : Int32} {p2 : Int32} {p3 : Int32} {p4 : Int64} {x0 xz : bq_S} {rz : Int32} (hkp1 : p1.toNatClampNeg = 2) (h : fX9_item  p1 p2 p3 p4 x0 = some (rz, xz)) : bq_M l D bq_cl (bq_ty k) (bq_wC a k) yX9_item cX9_item 7 (some .int) { frames := 2, cells := 0, slots := 0, locals := 47 } [.ref (a 0), .int p1, .int p2, .int p3, .long p4] x0 (some rz) xz := by
  refine bq_ofW RX9 [(0, .ref (a 0)), (1, .int p1), (2, .int p2), (3, .int p3), (4, .long p4)] (by decide +kernel) rfl (Nat.le_of_ble_eq_true rfl) rfl (bq_adC a k) ?_
  intro p e s m below meth c A Q ls S hK hD hA hR hS hP hl
  have hx := S.1; have hb := S.2.1; have hml := S.2.2.1; have hown := S.2.2.2.1; have hts := S.2.2.2.2
  have hret : ∀ z, some z = some (rz, xz) → (rz, xz) = z := fun z h => (Option.some.inj h).symm
  unfold fX9_item at h
  refine lv_aload_n hx hb dX9_item_0 rfl (lv_at hl 0 rfl) ?_
  refine lv_iload_n hx hb dX9_item_1 rfl (lv_at hl 1 rfl) ?_
  refine lv_iload_n hx hb dX9_item_2 rfl (lv_at hl 2 rfl) ?_
  refine lv_iload_n hx hb dX9_item_3 rfl (lv_at hl 3 rfl) ?_
  refine lv_iconst (v := (1 : Int32)) hx hb dX9_item_4 (by decide) ?_
  obtain ⟨o1, ho1, h⟩ := Option.bind_eq_some_iff.mp h
  obtain ⟨v3, x2⟩ := o1
  replace h := un2_e h
  refine bq_callVi (q0 := 0) (As := [.int _, .int _, .int _, .int _]) S hK hD hA hP hS (cX9_refusalOf_k_0 ho1) hd_yX9_refusalOf ml_X9_233 in_yX9_refusalOf (hts _ sl_X9_X9_yX9_refusalOf) ⟨rfl, rfl⟩ ⟨by decide, by decide⟩ rfl rfl rfl hl.1 rfl (Nat.le_of_ble_eq_true rfl) ⟨Nat.zero_le _, Nat.zero_le _⟩ dX9_item_5 (fun H locs hP hS => ?_)
  refine lv_istore (lv' := [(6, .int v3), (0, .ref (a 0)), (1, .int p1), (2, .int p2), (3, .int p3), (4, .long p4)]) hx hb dX9_item_8 hl (by decide) rfl (fun ls hl => ?_)
  refine lv_iload hx hb dX9_item_10 (lv_at hl 0 rfl) ?_
  refine lv_if_eq (tgt := 18) hx hb dX9_item_12 (by decide) (fun c4 => ?_) (fun c4 => ?_)
  · replace h := (if_pos c4).symm.trans h
    refine lv_aload_n hx hb dX9_item_18 rfl (lv_at hl 1 rfl) ?_
    refine bq_get (q0 := 0) S hK hP fl_X9_70_X9_9 rfl rfl rfl dX9_item_19 ?_
    refine lv_iload_n hx hb dX9_item_22 rfl (lv_at hl 2 rfl) ?_
    obtain ⟨g5, h⟩ := bq_gd h
    refine va_aldq (D := D) hx hb hK hP 33 3 rfl rfl g5 dX9_item_23 ?_
    rw [hkp1]
    try rw [hkp1] at h
    refine W.eq (g2 := F0 m 24 ls [.ref (a 38)]) rfl ?_
    refine lv_iload_n hx hb dX9_item_24 rfl (lv_at hl 4 rfl) ?_
    refine lv_lload hx hb dX9_item_25 (lv_at hl 5 rfl) ?_
    obtain ⟨x7, ho6, h⟩ := Option.bind_eq_some_iff.mp h
    refine bq_callVv (q0 := 38) (As := [.int _, .long _]) S hK hD hA hP hS (cX6_write_k_38 ho6) hd_yX6_write ml_X9_266 in_yX6_write (hts _ sl_X6_X6_yX6_write) ⟨rfl, rfl⟩ ⟨by decide, by decide⟩ rfl rfl rfl hl.1 rfl (Nat.le_of_ble_eq_true rfl) ⟨Nat.zero_le _, Nat.zero_le _⟩ dX9_item_27 (fun H locs hP hS => ?_)
    refine lv_iconst (v := (1 : Int32)) hx hb dX9_item_30 (by decide) ?_
    obtain ⟨e1, e2⟩ := Prod.mk.inj (hret _ h)
    exact hR _ _ _ _ _ (congrArg some e1) rfl (by rw [e2]; exact hP) hS dX9_item_31
  · replace h := (if_neg c4).symm.trans h
    refine lv_iload hx hb dX9_item_15 (lv_at hl 0 rfl) ?_
    obtain ⟨e1, e2⟩ := Prod.mk.inj (hret _ h)
    exact hR _ _ _ _ _ (congrArg some e1) rfl (by rw [e2]; exact hP) hS dX9_item_17
set_option maxHeartbeats 4000000 in
set_option maxRecDepth 100000 in
theorem cX6_write_k_40 {l : Launch} {D : va_G} {a : Nat → Nat} {k : Nat → ClassId} {p1 : Int32} {p2 : Int64} {x0 xz : bq_S} (h : fX6_write  40 p1 p2 x0 = some xz) : bq_M l D bq_cl (bq_ty k) (bq_wC a k) yX6_write cX6_write 4 none { frames := 0, cells := 0, slots := 0, locals := 0 } [.ref (a 40), .int p1, .long p2] x0 none xz := by
  refine bq_ofWv RX6 [(0, .ref (a 40)), (1, .int p1), (2, .long p2)] (by decide +kernel) rfl (Nat.le_of_ble_eq_true rfl) rfl (bq_adC a k) ?_
  intro p e s m below meth c A Q ls S hK hD hA hR hS hP hl
  have hx := S.1; have hb := S.2.1; have hml := S.2.2.1; have hown := S.2.2.2.1; have hts := S.2.2.2.2
  have hret : ∀ z, some z = some xz → xz = z := fun z h => (Option.some.inj h).symm
  unfold fX6_write at h
  refine lv_aload_n hx hb dX6_write_0 rfl (lv_at hl 0 rfl) ?_
  refine bq_get (q0 := 40) S hK hP fl_X6_15_X6_1 rfl rfl rfl dX6_write_1 ?_
  refine lv_topi (fun v1 hv1 => ?_)
  replace h := bq_bv h hv1
  by_cases c4 : v1 = (0 : Int32)
  · replace h := (if_pos c4).symm.trans h
    refine lv_lookup (off := 28) (tgt := 32) hx hb dX6_write_4 (by decide) (by rw [c4]; rfl) (by decide) ?_
    refine lv_aload_n hx hb dX6_write_32 rfl (lv_at hl 0 rfl) ?_
    refine bq_get (q0 := 40) S hK hP fl_X6_9_X6_0 rfl rfl rfl dX6_write_33 ?_
    refine lv_iload_n hx hb dX6_write_36 rfl (lv_at hl 1 rfl) ?_
    refine lv_lload_n hx hb dX6_write_37 rfl (lv_at hl 2 rfl) ?_
    refine lv_l2i hx hb dX6_write_38 rfl ?_
    refine lv_i2b hx hb dX6_write_39 rfl ?_
    refine lv_i2l hx hb dX6_write_40 rfl ?_
    obtain ⟨g3, h⟩ := bq_gd h
    obtain ⟨x2, hx2, h⟩ := bq_b h
    refine bq_last (x1 := x2) (q0 := 41) (t0 := 1) S hK hD hP hS rfl rfl g3 (by rw [hx2]; rfl) dX6_write_41 (fun H locs hP hS => ?_)
    refine lv_goto (tgt := 64) hx hb dX6_write_42 (by decide) ?_
    have e2 := hret _ h
    exact hR _ _ _ _ rfl (by rw [e2]; exact hP) hS dX6_write_64
  replace h := (if_neg c4).symm.trans h
  by_cases c7 : v1 = (1 : Int32)
  · replace h := (if_pos c7).symm.trans h
    refine lv_lookup (off := 41) (tgt := 45) hx hb dX6_write_4 (by decide) (by rw [c7]; rfl) (by decide) ?_
    refine lv_aload_n hx hb dX6_write_45 rfl (lv_at hl 0 rfl) ?_
    refine bq_get (q0 := 40) S hK hP fl_X6_9_X6_0 rfl rfl rfl dX6_write_46 ?_
    refine lv_iload_n hx hb dX6_write_49 rfl (lv_at hl 1 rfl) ?_
    refine lv_lload_n hx hb dX6_write_50 rfl (lv_at hl 2 rfl) ?_
    refine lv_l2i hx hb dX6_write_51 rfl ?_
    refine lv_i2l hx hb dX6_write_52 rfl ?_
    obtain ⟨g6, h⟩ := bq_gd h
    obtain ⟨x5, hx5, h⟩ := bq_b h
    refine bq_last (x1 := x5) (q0 := 41) (t0 := 1) S hK hD hP hS rfl rfl g6 (by rw [hx5]; rfl) dX6_write_53 (fun H locs hP hS => ?_)
    refine lv_goto (tgt := 64) hx hb dX6_write_54 (by decide) ?_
    have e2 := hret _ h
    exact hR _ _ _ _ rfl (by rw [e2]; exact hP) hS dX6_write_64
  replace h := (if_neg c7).symm.trans h
  refine lv_lookup (off := 53) (tgt := 57) hx hb dX6_write_4 (by decide) (by simp [Op.lookupswitch.offset, Ne.symm (lv_neT c4 (a := 0) rfl), Ne.symm (lv_neT c7 (a := 1) rfl)]) (by decide) ?_
  refine lv_aload_n hx hb dX6_write_57 rfl (lv_at hl 0 rfl) ?_
  refine bq_get (q0 := 40) S hK hP fl_X6_9_X6_0 rfl rfl rfl dX6_write_58 ?_
  refine lv_iload_n hx hb dX6_write_61 rfl (lv_at hl 1 rfl) ?_
  refine lv_lload_n hx hb dX6_write_62 rfl (lv_at hl 2 rfl) ?_
  obtain ⟨g9, h⟩ := bq_gd h
  obtain ⟨x8, hx8, h⟩ := bq_b h
  refine bq_last (x1 := x8) (q0 := 41) (t0 := 1) S hK hD hP hS rfl rfl g9 (by rw [hx8]; rfl) dX6_write_63 (fun H locs hP hS => ?_)
  have e2 := hret _ h
  exact hR _ _ _ _ rfl (by rw [e2]; exact hP) hS dX6_write_64
set_option maxHeartbeats 4000000 in
set_option maxRecDepth 100000 in
theorem cX9_item_k_0_s3 {l : Launch} {D : va_G} {a : Nat → Nat} {k : Nat → ClassId} {p1 : Int32} {p2 : Int32} {p3 : Int32} {p4 : Int64} {x0 xz : bq_S} {rz : Int32} (hkp1 : p1.toNatClampNeg = 3) (h : fX9_item  p1 p2 p3 p4 x0 = some (rz, xz)) : bq_M l D bq_cl (bq_ty k) (bq_wC a k) yX9_item cX9_item 7 (some .int) { frames := 2, cells := 0, slots := 0, locals := 47 } [.ref (a 0), .int p1, .int p2, .int p3, .long p4] x0 (some rz) xz := by
  refine bq_ofW RX9 [(0, .ref (a 0)), (1, .int p1), (2, .int p2), (3, .int p3), (4, .long p4)] (by decide +kernel) rfl (Nat.le_of_ble_eq_true rfl) rfl (bq_adC a k) ?_
  intro p e s m below meth c A Q ls S hK hD hA hR hS hP hl
  have hx := S.1; have hb := S.2.1; have hml := S.2.2.1; have hown := S.2.2.2.1; have hts := S.2.2.2.2
  have hret : ∀ z, some z = some (rz, xz) → (rz, xz) = z := fun z h => (Option.some.inj h).symm
  unfold fX9_item at h
  refine lv_aload_n hx hb dX9_item_0 rfl (lv_at hl 0 rfl) ?_
  refine lv_iload_n hx hb dX9_item_1 rfl (lv_at hl 1 rfl) ?_
  refine lv_iload_n hx hb dX9_item_2 rfl (lv_at hl 2 rfl) ?_
  refine lv_iload_n hx hb dX9_item_3 rfl (lv_at hl 3 rfl) ?_
  refine lv_iconst (v := (1 : Int32)) hx hb dX9_item_4 (by decide) ?_
  obtain ⟨o1, ho1, h⟩ := Option.bind_eq_some_iff.mp h
  obtain ⟨v3, x2⟩ := o1
  replace h := un2_e h
  refine bq_callVi (q0 := 0) (As := [.int _, .int _, .int _, .int _]) S hK hD hA hP hS (cX9_refusalOf_k_0 ho1) hd_yX9_refusalOf ml_X9_233 in_yX9_refusalOf (hts _ sl_X9_X9_yX9_refusalOf) ⟨rfl, rfl⟩ ⟨by decide, by decide⟩ rfl rfl rfl hl.1 rfl (Nat.le_of_ble_eq_true rfl) ⟨Nat.zero_le _, Nat.zero_le _⟩ dX9_item_5 (fun H locs hP hS => ?_)
  refine lv_istore (lv' := [(6, .int v3), (0, .ref (a 0)), (1, .int p1), (2, .int p2), (3, .int p3), (4, .long p4)]) hx hb dX9_item_8 hl (by decide) rfl (fun ls hl => ?_)
  refine lv_iload hx hb dX9_item_10 (lv_at hl 0 rfl) ?_
  refine lv_if_eq (tgt := 18) hx hb dX9_item_12 (by decide) (fun c4 => ?_) (fun c4 => ?_)
  · replace h := (if_pos c4).symm.trans h
    refine lv_aload_n hx hb dX9_item_18 rfl (lv_at hl 1 rfl) ?_
    refine bq_get (q0 := 0) S hK hP fl_X9_70_X9_9 rfl rfl rfl dX9_item_19 ?_
    refine lv_iload_n hx hb dX9_item_22 rfl (lv_at hl 2 rfl) ?_
    obtain ⟨g5, h⟩ := bq_gd h
    refine va_aldq (D := D) hx hb hK hP 33 3 rfl rfl g5 dX9_item_23 ?_
    rw [hkp1]
    try rw [hkp1] at h
    refine W.eq (g2 := F0 m 24 ls [.ref (a 40)]) rfl ?_
    refine lv_iload_n hx hb dX9_item_24 rfl (lv_at hl 4 rfl) ?_
    refine lv_lload hx hb dX9_item_25 (lv_at hl 5 rfl) ?_
    obtain ⟨x7, ho6, h⟩ := Option.bind_eq_some_iff.mp h
    refine bq_callVv (q0 := 40) (As := [.int _, .long _]) S hK hD hA hP hS (cX6_write_k_40 ho6) hd_yX6_write ml_X9_266 in_yX6_write (hts _ sl_X6_X6_yX6_write) ⟨rfl, rfl⟩ ⟨by decide, by decide⟩ rfl rfl rfl hl.1 rfl (Nat.le_of_ble_eq_true rfl) ⟨Nat.zero_le _, Nat.zero_le _⟩ dX9_item_27 (fun H locs hP hS => ?_)
    refine lv_iconst (v := (1 : Int32)) hx hb dX9_item_30 (by decide) ?_
    obtain ⟨e1, e2⟩ := Prod.mk.inj (hret _ h)
    exact hR _ _ _ _ _ (congrArg some e1) rfl (by rw [e2]; exact hP) hS dX9_item_31
  · replace h := (if_neg c4).symm.trans h
    refine lv_iload hx hb dX9_item_15 (lv_at hl 0 rfl) ?_
    obtain ⟨e1, e2⟩ := Prod.mk.inj (hret _ h)
    exact hR _ _ _ _ _ (congrArg some e1) rfl (by rw [e2]; exact hP) hS dX9_item_17
set_option maxHeartbeats 4000000 in
set_option maxRecDepth 100000 in
theorem cX9_item_k_0_sb {l : Launch} {D : va_G} {a : Nat → Nat} {k : Nat → ClassId} {p1 : Int32} {p2 : Int32} {p3 : Int32} {p4 : Int64} {x0 xz : bq_S} {rz : Int32} (hkp1 : ¬ p1.toNatClampNeg < 4) (h : fX9_item  p1 p2 p3 p4 x0 = some (rz, xz)) : bq_M l D bq_cl (bq_ty k) (bq_wC a k) yX9_item cX9_item 7 (some .int) { frames := 2, cells := 0, slots := 0, locals := 47 } [.ref (a 0), .int p1, .int p2, .int p3, .long p4] x0 (some rz) xz := by
  refine bq_ofW RX9 [(0, .ref (a 0)), (1, .int p1), (2, .int p2), (3, .int p3), (4, .long p4)] (by decide +kernel) rfl (Nat.le_of_ble_eq_true rfl) rfl (bq_adC a k) ?_
  intro p e s m below meth c A Q ls S hK hD hA hR hS hP hl
  have hx := S.1; have hb := S.2.1; have hml := S.2.2.1; have hown := S.2.2.2.1; have hts := S.2.2.2.2
  have hret : ∀ z, some z = some (rz, xz) → (rz, xz) = z := fun z h => (Option.some.inj h).symm
  unfold fX9_item at h
  refine lv_aload_n hx hb dX9_item_0 rfl (lv_at hl 0 rfl) ?_
  refine lv_iload_n hx hb dX9_item_1 rfl (lv_at hl 1 rfl) ?_
  refine lv_iload_n hx hb dX9_item_2 rfl (lv_at hl 2 rfl) ?_
  refine lv_iload_n hx hb dX9_item_3 rfl (lv_at hl 3 rfl) ?_
  refine lv_iconst (v := (1 : Int32)) hx hb dX9_item_4 (by decide) ?_
  obtain ⟨o1, ho1, h⟩ := Option.bind_eq_some_iff.mp h
  obtain ⟨v3, x2⟩ := o1
  replace h := un2_e h
  refine bq_callVi (q0 := 0) (As := [.int _, .int _, .int _, .int _]) S hK hD hA hP hS (cX9_refusalOf_k_0 ho1) hd_yX9_refusalOf ml_X9_233 in_yX9_refusalOf (hts _ sl_X9_X9_yX9_refusalOf) ⟨rfl, rfl⟩ ⟨by decide, by decide⟩ rfl rfl rfl hl.1 rfl (Nat.le_of_ble_eq_true rfl) ⟨Nat.zero_le _, Nat.zero_le _⟩ dX9_item_5 (fun H locs hP hS => ?_)
  refine lv_istore (lv' := [(6, .int v3), (0, .ref (a 0)), (1, .int p1), (2, .int p2), (3, .int p3), (4, .long p4)]) hx hb dX9_item_8 hl (by decide) rfl (fun ls hl => ?_)
  refine lv_iload hx hb dX9_item_10 (lv_at hl 0 rfl) ?_
  refine lv_if_eq (tgt := 18) hx hb dX9_item_12 (by decide) (fun c4 => ?_) (fun c4 => ?_)
  · replace h := (if_pos c4).symm.trans h
    refine lv_aload_n hx hb dX9_item_18 rfl (lv_at hl 1 rfl) ?_
    refine bq_get (q0 := 0) S hK hP fl_X9_70_X9_9 rfl rfl rfl dX9_item_19 ?_
    refine lv_iload_n hx hb dX9_item_22 rfl (lv_at hl 2 rfl) ?_
    obtain ⟨g5, h⟩ := bq_gd h
    exact absurd (bq_lt g5) hkp1
  · replace h := (if_neg c4).symm.trans h
    refine lv_iload hx hb dX9_item_15 (lv_at hl 0 rfl) ?_
    obtain ⟨e1, e2⟩ := Prod.mk.inj (hret _ h)
    exact hR _ _ _ _ _ (congrArg some e1) rfl (by rw [e2]; exact hP) hS dX9_item_17
theorem cX9_item_k_0 {l : Launch} {D : va_G} {a : Nat → Nat} {k : Nat → ClassId} {p1 : Int32} {p2 : Int32} {p3 : Int32} {p4 : Int64} {x0 xz : bq_S} {rz : Int32} (h : fX9_item  p1 p2 p3 p4 x0 = some (rz, xz)) : bq_M l D bq_cl (bq_ty k) (bq_wC a k) yX9_item cX9_item 7 (some .int) { frames := 2, cells := 0, slots := 0, locals := 47 } [.ref (a 0), .int p1, .int p2, .int p3, .long p4] x0 (some rz) xz := by
  by_cases k0 : p1.toNatClampNeg < 4
  · rcases (show p1.toNatClampNeg = 0 ∨ p1.toNatClampNeg = 1 ∨ p1.toNatClampNeg = 2 ∨ p1.toNatClampNeg = 3 by omega) with e0 | e0 | e0 | e0
    · skip
      exact cX9_item_k_0_s0 e0 h
    · skip
      exact cX9_item_k_0_s1 e0 h
    · skip
      exact cX9_item_k_0_s2 e0 h
    · skip
      exact cX9_item_k_0_s3 e0 h
  · skip
    exact cX9_item_k_0_sb k0 h
def fX9_copy (p1 : Int32) (p2 : Int32) (p3 : Int32) (p4 : Int32) (p5 : Int32) (x0 : bq_S) : Option (Int32 × bq_S) :=
  (fX9_isSheet p1 x0).bind (fun o1 => un2 o1 (fun v3 x2 =>
  if v3 = 0 then
  some ((-1 : Int32), x2)
  else
  (fX9_isSheet p3 x2).bind (fun o5 => un2 o5 (fun v7 x6 =>
  if v7 = 0 then
  some ((-1 : Int32), x6)
  else
  if ok_i p1 4 then
  if ok_i p3 4 then
  if (x6.1 (34 + 2 * p1.toNatClampNeg) 1) = (-1 : Int32) then
  some ((-11 : Int32), x6)
  else
  if (x6.1 (34 + 2 * p3.toNatClampNeg) 1) = (-1 : Int32) then
  some ((-11 : Int32), x6)
  else
  if (x6.1 (34 + 2 * p1.toNatClampNeg) 1) = (x6.1 (34 + 2 * p3.toNatClampNeg) 1) then
  (fX6_holds (34 + 2 * p1.toNatClampNeg) p2 p5 x6).bind (fun o14 => un2 o14 (fun v16 x15 =>
  if v16 = 0 then
  some ((-13 : Int32), x15)
  else
  (fX6_holds (34 + 2 * p3.toNatClampNeg) p4 p5 x15).bind (fun o18 => un2 o18 (fun v20 x19 =>
  if v20 = 0 then
  some ((-13 : Int32), x19)
  else
  if ¬ p2 < 0 ∧ ¬ p4 < 0 ∧ ¬ p5 < 0 ∧ p2.toNatClampNeg + p5.toNatClampNeg ≤ 16 ∧ p4.toNatClampNeg + p5.toNatClampNeg ≤ 16 then
  bd (bq_cL x19 ((34 + 2 * p1.toNatClampNeg) + 1) ((34 + 2 * p3.toNatClampNeg) + 1) p2.toNatClampNeg p4.toNatClampNeg p5.toNatClampNeg) (fun x23 =>
  some (p5, x23))
  else none))))
  else
  some ((-12 : Int32), x6)
  else none
  else none))))
theorem dX9_copy_0 : decode cX9_copy 0 = .ok (.iload_n 1, 1) := by decide +kernel
theorem dX9_copy_1 : decode cX9_copy 1 = .ok (.invokestatic 252, 3) := by decide +kernel
theorem dX9_copy_4 : decode cX9_copy 4 = .ok (.ifCond .eq 10, 3) := by decide +kernel
theorem dX9_copy_7 : decode cX9_copy 7 = .ok (.iload_n 3, 1) := by decide +kernel
theorem dX9_copy_8 : decode cX9_copy 8 = .ok (.invokestatic 252, 3) := by decide +kernel
theorem dX9_copy_11 : decode cX9_copy 11 = .ok (.ifCond .ne 5, 3) := by decide +kernel
theorem dX9_copy_14 : decode cX9_copy 14 = .ok (.iconst (-1), 1) := by decide +kernel
theorem dX9_copy_15 : decode cX9_copy 15 = .ok (.ireturn, 1) := by decide +kernel
theorem dX9_copy_16 : decode cX9_copy 16 = .ok (.aload_n 0, 1) := by decide +kernel
theorem dX9_copy_17 : decode cX9_copy 17 = .ok (.getfield 70, 3) := by decide +kernel
theorem dX9_copy_20 : decode cX9_copy 20 = .ok (.iload_n 1, 1) := by decide +kernel
theorem dX9_copy_21 : decode cX9_copy 21 = .ok (.aaload, 1) := by decide +kernel
theorem dX9_copy_22 : decode cX9_copy 22 = .ok (.astore 6, 2) := by decide +kernel
theorem dX9_copy_24 : decode cX9_copy 24 = .ok (.aload_n 0, 1) := by decide +kernel
theorem dX9_copy_25 : decode cX9_copy 25 = .ok (.getfield 70, 3) := by decide +kernel
theorem dX9_copy_28 : decode cX9_copy 28 = .ok (.iload_n 3, 1) := by decide +kernel
theorem dX9_copy_29 : decode cX9_copy 29 = .ok (.aaload, 1) := by decide +kernel
theorem dX9_copy_30 : decode cX9_copy 30 = .ok (.astore 7, 2) := by decide +kernel
theorem dX9_copy_32 : decode cX9_copy 32 = .ok (.aload 6, 2) := by decide +kernel
theorem dX9_copy_34 : decode cX9_copy 34 = .ok (.getfield 262, 3) := by decide +kernel
theorem dX9_copy_37 : decode cX9_copy 37 = .ok (.iconst (-1), 1) := by decide +kernel
theorem dX9_copy_38 : decode cX9_copy 38 = .ok (.if_icmp .eq 12, 3) := by decide +kernel
theorem dX9_copy_41 : decode cX9_copy 41 = .ok (.aload 7, 2) := by decide +kernel
theorem dX9_copy_43 : decode cX9_copy 43 = .ok (.getfield 262, 3) := by decide +kernel
theorem dX9_copy_46 : decode cX9_copy 46 = .ok (.iconst (-1), 1) := by decide +kernel
theorem dX9_copy_47 : decode cX9_copy 47 = .ok (.if_icmp .ne 6, 3) := by decide +kernel
theorem dX9_copy_50 : decode cX9_copy 50 = .ok (.bipush (-11), 2) := by decide +kernel
theorem dX9_copy_52 : decode cX9_copy 52 = .ok (.ireturn, 1) := by decide +kernel
theorem dX9_copy_53 : decode cX9_copy 53 = .ok (.aload 6, 2) := by decide +kernel
theorem dX9_copy_55 : decode cX9_copy 55 = .ok (.getfield 262, 3) := by decide +kernel
theorem dX9_copy_58 : decode cX9_copy 58 = .ok (.aload 7, 2) := by decide +kernel
theorem dX9_copy_60 : decode cX9_copy 60 = .ok (.getfield 262, 3) := by decide +kernel
theorem dX9_copy_63 : decode cX9_copy 63 = .ok (.if_icmp .eq 6, 3) := by decide +kernel
theorem dX9_copy_66 : decode cX9_copy 66 = .ok (.bipush (-12), 2) := by decide +kernel
theorem dX9_copy_68 : decode cX9_copy 68 = .ok (.ireturn, 1) := by decide +kernel
theorem dX9_copy_69 : decode cX9_copy 69 = .ok (.aload 6, 2) := by decide +kernel
theorem dX9_copy_71 : decode cX9_copy 71 = .ok (.iload_n 2, 1) := by decide +kernel
theorem dX9_copy_72 : decode cX9_copy 72 = .ok (.iload 5, 2) := by decide +kernel
theorem dX9_copy_74 : decode cX9_copy 74 = .ok (.invokevirtual 270, 3) := by decide +kernel
theorem dX9_copy_77 : decode cX9_copy 77 = .ok (.ifCond .eq 15, 3) := by decide +kernel
theorem dX9_copy_80 : decode cX9_copy 80 = .ok (.aload 7, 2) := by decide +kernel
theorem dX9_copy_82 : decode cX9_copy 82 = .ok (.iload 4, 2) := by decide +kernel
theorem dX9_copy_84 : decode cX9_copy 84 = .ok (.iload 5, 2) := by decide +kernel
theorem dX9_copy_86 : decode cX9_copy 86 = .ok (.invokevirtual 270, 3) := by decide +kernel
theorem dX9_copy_89 : decode cX9_copy 89 = .ok (.ifCond .ne 6, 3) := by decide +kernel
theorem dX9_copy_92 : decode cX9_copy 92 = .ok (.bipush (-13), 2) := by decide +kernel
theorem dX9_copy_94 : decode cX9_copy 94 = .ok (.ireturn, 1) := by decide +kernel
theorem dX9_copy_95 : decode cX9_copy 95 = .ok (.aload 6, 2) := by decide +kernel
theorem dX9_copy_97 : decode cX9_copy 97 = .ok (.getfield 237, 3) := by decide +kernel
theorem dX9_copy_100 : decode cX9_copy 100 = .ok (.iload_n 2, 1) := by decide +kernel
theorem dX9_copy_101 : decode cX9_copy 101 = .ok (.aload 7, 2) := by decide +kernel
theorem dX9_copy_103 : decode cX9_copy 103 = .ok (.getfield 237, 3) := by decide +kernel
theorem dX9_copy_106 : decode cX9_copy 106 = .ok (.iload 4, 2) := by decide +kernel
theorem dX9_copy_108 : decode cX9_copy 108 = .ok (.iload 5, 2) := by decide +kernel
theorem dX9_copy_110 : decode cX9_copy 110 = .ok (.invokestatic 273, 3) := by decide +kernel
theorem dX9_copy_113 : decode cX9_copy 113 = .ok (.iload 5, 2) := by decide +kernel
theorem dX9_copy_115 : decode cX9_copy 115 = .ok (.ireturn, 1) := by decide +kernel
set_option maxHeartbeats 4000000 in
set_option maxRecDepth 100000 in
theorem cX9_copy_k_0_s0_s0 {l : Launch} {D : va_G} {a : Nat → Nat} {k : Nat → ClassId} {p1 : Int32} {p2 : Int32} {p3 : Int32} {p4 : Int32} {p5 : Int32} {x0 xz : bq_S} {rz : Int32} (hkp1 : p1.toNatClampNeg = 0) (hkp3 : p3.toNatClampNeg = 0) (h : fX9_copy  p1 p2 p3 p4 p5 x0 = some (rz, xz)) : bq_M l D bq_cl (bq_ty k) (bq_wC a k) yX9_copy cX9_copy 8 (some .int) { frames := 1, cells := 0, slots := 0, locals := 60 } [.ref (a 0), .int p1, .int p2, .int p3, .int p4, .int p5] x0 (some rz) xz := by
  refine bq_ofW RX9 [(0, .ref (a 0)), (1, .int p1), (2, .int p2), (3, .int p3), (4, .int p4), (5, .int p5)] (by decide +kernel) rfl (Nat.le_of_ble_eq_true rfl) rfl (bq_adC a k) ?_
  intro p e s m below meth c A Q ls S hK hD hA hR hS hP hl
  have hx := S.1; have hb := S.2.1; have hml := S.2.2.1; have hown := S.2.2.2.1; have hts := S.2.2.2.2
  have hret : ∀ z, some z = some (rz, xz) → (rz, xz) = z := fun z h => (Option.some.inj h).symm
  unfold fX9_copy at h
  refine lv_iload_n hx hb dX9_copy_0 rfl (lv_at hl 1 rfl) ?_
  obtain ⟨o1, ho1, h⟩ := Option.bind_eq_some_iff.mp h
  obtain ⟨v3, x2⟩ := o1
  replace h := un2_e h
  refine bq_callSi (As := [.int _]) S hK hD hA hP hS (cX9_isSheet_k ho1) hd_yX9_isSheet ml_X9_252 st_yX9_isSheet ⟨rfl, rfl⟩ ⟨by decide, by decide⟩ rfl hl.1 rfl (Nat.le_of_ble_eq_true rfl) ⟨Nat.zero_le _, Nat.zero_le _⟩ dX9_copy_1 (fun H locs hP hS => ?_)
  refine lv_if_eq (tgt := 14) hx hb dX9_copy_4 (by decide) (fun c4 => ?_) (fun c4 => ?_)
  · replace h := (if_pos c4).symm.trans h
    refine lv_iconst (v := (-1 : Int32)) hx hb dX9_copy_14 (by decide) ?_
    obtain ⟨e1, e2⟩ := Prod.mk.inj (hret _ h)
    exact hR _ _ _ _ _ (congrArg some e1) rfl (by rw [e2]; exact hP) hS dX9_copy_15
  · replace h := (if_neg c4).symm.trans h
    refine lv_iload_n hx hb dX9_copy_7 rfl (lv_at hl 3 rfl) ?_
    obtain ⟨o5, ho5, h⟩ := Option.bind_eq_some_iff.mp h
    obtain ⟨v7, x6⟩ := o5
    replace h := un2_e h
    refine bq_callSi (As := [.int _]) S hK hD hA hP hS (cX9_isSheet_k ho5) hd_yX9_isSheet ml_X9_252 st_yX9_isSheet ⟨rfl, rfl⟩ ⟨by decide, by decide⟩ rfl hl.1 rfl (Nat.le_of_ble_eq_true rfl) ⟨Nat.zero_le _, Nat.zero_le _⟩ dX9_copy_8 (fun H locs hP hS => ?_)
    refine lv_if_ne (tgt := 16) hx hb dX9_copy_11 (by decide) (fun c8 => ?_) (fun c8 => ?_)
    · replace h := (if_neg c8).symm.trans h
      refine lv_aload_n hx hb dX9_copy_16 rfl (lv_at hl 0 rfl) ?_
      refine bq_get (q0 := 0) S hK hP fl_X9_70_X9_9 rfl rfl rfl dX9_copy_17 ?_
      refine lv_iload_n hx hb dX9_copy_20 rfl (lv_at hl 1 rfl) ?_
      obtain ⟨g9, h⟩ := bq_gd h
      refine va_aldq (D := D) hx hb hK hP 33 3 rfl rfl g9 dX9_copy_21 ?_
      rw [hkp1]
      try rw [hkp1] at h
      refine W.eq (g2 := F0 m 22 ls [.ref (a 34)]) rfl ?_
      refine lv_astore (lv' := [(6, .ref (a 34)), (0, .ref (a 0)), (1, .int p1), (2, .int p2), (3, .int p3), (4, .int p4), (5, .int p5)]) hx hb dX9_copy_22 hl (by decide) rfl (fun ls hl => ?_)
      refine lv_aload_n hx hb dX9_copy_24 rfl (lv_at hl 1 rfl) ?_
      refine bq_get (q0 := 0) S hK hP fl_X9_70_X9_9 rfl rfl rfl dX9_copy_25 ?_
      refine lv_iload_n hx hb dX9_copy_28 rfl (lv_at hl 4 rfl) ?_
      obtain ⟨g10, h⟩ := bq_gd h
      refine va_aldq (D := D) hx hb hK hP 33 3 rfl rfl g10 dX9_copy_29 ?_
      rw [hkp3]
      try rw [hkp3] at h
      refine W.eq (g2 := F0 m 30 ls [.ref (a 34)]) rfl ?_
      refine lv_astore (lv' := [(7, .ref (a 34)), (6, .ref (a 34)), (0, .ref (a 0)), (1, .int p1), (2, .int p2), (3, .int p3), (4, .int p4), (5, .int p5)]) hx hb dX9_copy_30 hl (by decide) rfl (fun ls hl => ?_)
      refine lv_aload hx hb dX9_copy_32 (lv_at hl 1 rfl) ?_
      refine bq_get (q0 := 34) S hK hP fl_X9_262_X6_1 rfl rfl rfl dX9_copy_34 ?_
      refine lv_iconst (v := (-1 : Int32)) hx hb dX9_copy_37 (by decide) ?_
      refine lv_icmp_eq (tgt := 50) hx hb dX9_copy_38 (by decide) (fun c11 => ?_) (fun c11 => ?_)
      · replace h := (if_pos c11).symm.trans h
        refine lv_bipush (v := (-11 : Int32)) hx hb dX9_copy_50 (by decide) ?_
        obtain ⟨e1, e2⟩ := Prod.mk.inj (hret _ h)
        exact hR _ _ _ _ _ (congrArg some e1) rfl (by rw [e2]; exact hP) hS dX9_copy_52
      · replace h := (if_neg c11).symm.trans h
        refine lv_aload hx hb dX9_copy_41 (lv_at hl 0 rfl) ?_
        refine bq_get (q0 := 34) S hK hP fl_X9_262_X6_1 rfl rfl rfl dX9_copy_43 ?_
        refine lv_iconst (v := (-1 : Int32)) hx hb dX9_copy_46 (by decide) ?_
        refine lv_icmp_ne (tgt := 53) hx hb dX9_copy_47 (by decide) (fun c12 => ?_) (fun c12 => ?_)
        · replace h := (if_neg c12).symm.trans h
          refine lv_aload hx hb dX9_copy_53 (lv_at hl 1 rfl) ?_
          refine bq_get (q0 := 34) S hK hP fl_X9_262_X6_1 rfl rfl rfl dX9_copy_55 ?_
          refine lv_aload hx hb dX9_copy_58 (lv_at hl 0 rfl) ?_
          refine bq_get (q0 := 34) S hK hP fl_X9_262_X6_1 rfl rfl rfl dX9_copy_60 ?_
          refine lv_icmp_eq (tgt := 69) hx hb dX9_copy_63 (by decide) (fun c13 => ?_) (fun c13 => ?_)
          · replace h := (if_pos c13).symm.trans h
            refine lv_aload hx hb dX9_copy_69 (lv_at hl 1 rfl) ?_
            refine lv_iload_n hx hb dX9_copy_71 rfl (lv_at hl 4 rfl) ?_
            refine lv_iload hx hb dX9_copy_72 (lv_at hl 7 rfl) ?_
            obtain ⟨o14, ho14, h⟩ := Option.bind_eq_some_iff.mp h
            obtain ⟨v16, x15⟩ := o14
            replace h := un2_e h
            refine bq_callVi (q0 := 34) (As := [.int _, .int _]) S hK hD hA hP hS (cX6_holds_k_34 ho14) hd_yX6_holds ml_X9_270 in_yX6_holds (hts _ sl_X6_X6_yX6_holds) ⟨rfl, rfl⟩ ⟨by decide, by decide⟩ rfl rfl rfl hl.1 rfl (Nat.le_of_ble_eq_true rfl) ⟨Nat.zero_le _, Nat.zero_le _⟩ dX9_copy_74 (fun H locs hP hS => ?_)
            refine lv_if_eq (tgt := 92) hx hb dX9_copy_77 (by decide) (fun c17 => ?_) (fun c17 => ?_)
            · replace h := (if_pos c17).symm.trans h
              refine lv_bipush (v := (-13 : Int32)) hx hb dX9_copy_92 (by decide) ?_
              obtain ⟨e1, e2⟩ := Prod.mk.inj (hret _ h)
              exact hR _ _ _ _ _ (congrArg some e1) rfl (by rw [e2]; exact hP) hS dX9_copy_94
            · replace h := (if_neg c17).symm.trans h
              refine lv_aload hx hb dX9_copy_80 (lv_at hl 0 rfl) ?_
              refine lv_iload hx hb dX9_copy_82 (lv_at hl 6 rfl) ?_
              refine lv_iload hx hb dX9_copy_84 (lv_at hl 7 rfl) ?_
              obtain ⟨o18, ho18, h⟩ := Option.bind_eq_some_iff.mp h
              obtain ⟨v20, x19⟩ := o18
              replace h := un2_e h
              refine bq_callVi (q0 := 34) (As := [.int _, .int _]) S hK hD hA hP hS (cX6_holds_k_34 ho18) hd_yX6_holds ml_X9_270 in_yX6_holds (hts _ sl_X6_X6_yX6_holds) ⟨rfl, rfl⟩ ⟨by decide, by decide⟩ rfl rfl rfl hl.1 rfl (Nat.le_of_ble_eq_true rfl) ⟨Nat.zero_le _, Nat.zero_le _⟩ dX9_copy_86 (fun H locs hP hS => ?_)
              refine lv_if_ne (tgt := 95) hx hb dX9_copy_89 (by decide) (fun c21 => ?_) (fun c21 => ?_)
              · replace h := (if_neg c21).symm.trans h
                refine lv_aload hx hb dX9_copy_95 (lv_at hl 1 rfl) ?_
                refine bq_get (q0 := 34) S hK hP fl_X9_237_X6_0 rfl rfl rfl dX9_copy_97 ?_
                refine lv_iload_n hx hb dX9_copy_100 rfl (lv_at hl 4 rfl) ?_
                refine lv_aload hx hb dX9_copy_101 (lv_at hl 0 rfl) ?_
                refine bq_get (q0 := 34) S hK hP fl_X9_237_X6_0 rfl rfl rfl dX9_copy_103 ?_
                refine lv_iload hx hb dX9_copy_106 (lv_at hl 6 rfl) ?_
                refine lv_iload hx hb dX9_copy_108 (lv_at hl 7 rfl) ?_
                obtain ⟨⟨g221, g222, g223, g224, g225⟩, h⟩ := bq_gp h
                obtain ⟨x23, hx23, h⟩ := bq_b h
                refine va_copyl (D := D) hx hb (hml.trans hl.1.symm) hown (hts _ ml_X9_273) (hts _ acn) (hts _ acs) (hts _ aci) hK hP (hD _) hS 35 35 1 1 rfl rfl rfl rfl rfl g221 g222 g223 g224 g225 (fun _ _ => rfl) (by decide) (by decide +kernel) dX9_copy_110 (fun H locs hP _ hS => ?_)
                replace hP : va_P D bq_cl (bq_wC a k x23) H := by rw [hx23]; exact hP
                refine lv_iload hx hb dX9_copy_113 (lv_at hl 7 rfl) ?_
                obtain ⟨e1, e2⟩ := Prod.mk.inj (hret _ h)
                exact hR _ _ _ _ _ (congrArg some e1) rfl (by rw [e2]; exact hP) hS dX9_copy_115
              · replace h := (if_pos c21).symm.trans h
                refine lv_bipush (v := (-13 : Int32)) hx hb dX9_copy_92 (by decide) ?_
                obtain ⟨e1, e2⟩ := Prod.mk.inj (hret _ h)
                exact hR _ _ _ _ _ (congrArg some e1) rfl (by rw [e2]; exact hP) hS dX9_copy_94
          · replace h := (if_neg c13).symm.trans h
            refine lv_bipush (v := (-12 : Int32)) hx hb dX9_copy_66 (by decide) ?_
            obtain ⟨e1, e2⟩ := Prod.mk.inj (hret _ h)
            exact hR _ _ _ _ _ (congrArg some e1) rfl (by rw [e2]; exact hP) hS dX9_copy_68
        · replace h := (if_pos c12).symm.trans h
          refine lv_bipush (v := (-11 : Int32)) hx hb dX9_copy_50 (by decide) ?_
          obtain ⟨e1, e2⟩ := Prod.mk.inj (hret _ h)
          exact hR _ _ _ _ _ (congrArg some e1) rfl (by rw [e2]; exact hP) hS dX9_copy_52
    · replace h := (if_pos c8).symm.trans h
      refine lv_iconst (v := (-1 : Int32)) hx hb dX9_copy_14 (by decide) ?_
      obtain ⟨e1, e2⟩ := Prod.mk.inj (hret _ h)
      exact hR _ _ _ _ _ (congrArg some e1) rfl (by rw [e2]; exact hP) hS dX9_copy_15
set_option maxHeartbeats 4000000 in
set_option maxRecDepth 100000 in
theorem cX9_copy_k_0_s0_s1 {l : Launch} {D : va_G} {a : Nat → Nat} {k : Nat → ClassId} {p1 : Int32} {p2 : Int32} {p3 : Int32} {p4 : Int32} {p5 : Int32} {x0 xz : bq_S} {rz : Int32} (hkp1 : p1.toNatClampNeg = 0) (hkp3 : p3.toNatClampNeg = 1) (h : fX9_copy  p1 p2 p3 p4 p5 x0 = some (rz, xz)) : bq_M l D bq_cl (bq_ty k) (bq_wC a k) yX9_copy cX9_copy 8 (some .int) { frames := 1, cells := 0, slots := 0, locals := 60 } [.ref (a 0), .int p1, .int p2, .int p3, .int p4, .int p5] x0 (some rz) xz := by
  refine bq_ofW RX9 [(0, .ref (a 0)), (1, .int p1), (2, .int p2), (3, .int p3), (4, .int p4), (5, .int p5)] (by decide +kernel) rfl (Nat.le_of_ble_eq_true rfl) rfl (bq_adC a k) ?_
  intro p e s m below meth c A Q ls S hK hD hA hR hS hP hl
  have hx := S.1; have hb := S.2.1; have hml := S.2.2.1; have hown := S.2.2.2.1; have hts := S.2.2.2.2
  have hret : ∀ z, some z = some (rz, xz) → (rz, xz) = z := fun z h => (Option.some.inj h).symm
  unfold fX9_copy at h
  refine lv_iload_n hx hb dX9_copy_0 rfl (lv_at hl 1 rfl) ?_
  obtain ⟨o1, ho1, h⟩ := Option.bind_eq_some_iff.mp h
  obtain ⟨v3, x2⟩ := o1
  replace h := un2_e h
  refine bq_callSi (As := [.int _]) S hK hD hA hP hS (cX9_isSheet_k ho1) hd_yX9_isSheet ml_X9_252 st_yX9_isSheet ⟨rfl, rfl⟩ ⟨by decide, by decide⟩ rfl hl.1 rfl (Nat.le_of_ble_eq_true rfl) ⟨Nat.zero_le _, Nat.zero_le _⟩ dX9_copy_1 (fun H locs hP hS => ?_)
  refine lv_if_eq (tgt := 14) hx hb dX9_copy_4 (by decide) (fun c4 => ?_) (fun c4 => ?_)
  · replace h := (if_pos c4).symm.trans h
    refine lv_iconst (v := (-1 : Int32)) hx hb dX9_copy_14 (by decide) ?_
    obtain ⟨e1, e2⟩ := Prod.mk.inj (hret _ h)
    exact hR _ _ _ _ _ (congrArg some e1) rfl (by rw [e2]; exact hP) hS dX9_copy_15
  · replace h := (if_neg c4).symm.trans h
    refine lv_iload_n hx hb dX9_copy_7 rfl (lv_at hl 3 rfl) ?_
    obtain ⟨o5, ho5, h⟩ := Option.bind_eq_some_iff.mp h
    obtain ⟨v7, x6⟩ := o5
    replace h := un2_e h
    refine bq_callSi (As := [.int _]) S hK hD hA hP hS (cX9_isSheet_k ho5) hd_yX9_isSheet ml_X9_252 st_yX9_isSheet ⟨rfl, rfl⟩ ⟨by decide, by decide⟩ rfl hl.1 rfl (Nat.le_of_ble_eq_true rfl) ⟨Nat.zero_le _, Nat.zero_le _⟩ dX9_copy_8 (fun H locs hP hS => ?_)
    refine lv_if_ne (tgt := 16) hx hb dX9_copy_11 (by decide) (fun c8 => ?_) (fun c8 => ?_)
    · replace h := (if_neg c8).symm.trans h
      refine lv_aload_n hx hb dX9_copy_16 rfl (lv_at hl 0 rfl) ?_
      refine bq_get (q0 := 0) S hK hP fl_X9_70_X9_9 rfl rfl rfl dX9_copy_17 ?_
      refine lv_iload_n hx hb dX9_copy_20 rfl (lv_at hl 1 rfl) ?_
      obtain ⟨g9, h⟩ := bq_gd h
      refine va_aldq (D := D) hx hb hK hP 33 3 rfl rfl g9 dX9_copy_21 ?_
      rw [hkp1]
      try rw [hkp1] at h
      refine W.eq (g2 := F0 m 22 ls [.ref (a 34)]) rfl ?_
      refine lv_astore (lv' := [(6, .ref (a 34)), (0, .ref (a 0)), (1, .int p1), (2, .int p2), (3, .int p3), (4, .int p4), (5, .int p5)]) hx hb dX9_copy_22 hl (by decide) rfl (fun ls hl => ?_)
      refine lv_aload_n hx hb dX9_copy_24 rfl (lv_at hl 1 rfl) ?_
      refine bq_get (q0 := 0) S hK hP fl_X9_70_X9_9 rfl rfl rfl dX9_copy_25 ?_
      refine lv_iload_n hx hb dX9_copy_28 rfl (lv_at hl 4 rfl) ?_
      obtain ⟨g10, h⟩ := bq_gd h
      refine va_aldq (D := D) hx hb hK hP 33 3 rfl rfl g10 dX9_copy_29 ?_
      rw [hkp3]
      try rw [hkp3] at h
      refine W.eq (g2 := F0 m 30 ls [.ref (a 36)]) rfl ?_
      refine lv_astore (lv' := [(7, .ref (a 36)), (6, .ref (a 34)), (0, .ref (a 0)), (1, .int p1), (2, .int p2), (3, .int p3), (4, .int p4), (5, .int p5)]) hx hb dX9_copy_30 hl (by decide) rfl (fun ls hl => ?_)
      refine lv_aload hx hb dX9_copy_32 (lv_at hl 1 rfl) ?_
      refine bq_get (q0 := 34) S hK hP fl_X9_262_X6_1 rfl rfl rfl dX9_copy_34 ?_
      refine lv_iconst (v := (-1 : Int32)) hx hb dX9_copy_37 (by decide) ?_
      refine lv_icmp_eq (tgt := 50) hx hb dX9_copy_38 (by decide) (fun c11 => ?_) (fun c11 => ?_)
      · replace h := (if_pos c11).symm.trans h
        refine lv_bipush (v := (-11 : Int32)) hx hb dX9_copy_50 (by decide) ?_
        obtain ⟨e1, e2⟩ := Prod.mk.inj (hret _ h)
        exact hR _ _ _ _ _ (congrArg some e1) rfl (by rw [e2]; exact hP) hS dX9_copy_52
      · replace h := (if_neg c11).symm.trans h
        refine lv_aload hx hb dX9_copy_41 (lv_at hl 0 rfl) ?_
        refine bq_get (q0 := 36) S hK hP fl_X9_262_X6_1 rfl rfl rfl dX9_copy_43 ?_
        refine lv_iconst (v := (-1 : Int32)) hx hb dX9_copy_46 (by decide) ?_
        refine lv_icmp_ne (tgt := 53) hx hb dX9_copy_47 (by decide) (fun c12 => ?_) (fun c12 => ?_)
        · replace h := (if_neg c12).symm.trans h
          refine lv_aload hx hb dX9_copy_53 (lv_at hl 1 rfl) ?_
          refine bq_get (q0 := 34) S hK hP fl_X9_262_X6_1 rfl rfl rfl dX9_copy_55 ?_
          refine lv_aload hx hb dX9_copy_58 (lv_at hl 0 rfl) ?_
          refine bq_get (q0 := 36) S hK hP fl_X9_262_X6_1 rfl rfl rfl dX9_copy_60 ?_
          refine lv_icmp_eq (tgt := 69) hx hb dX9_copy_63 (by decide) (fun c13 => ?_) (fun c13 => ?_)
          · replace h := (if_pos c13).symm.trans h
            refine lv_aload hx hb dX9_copy_69 (lv_at hl 1 rfl) ?_
            refine lv_iload_n hx hb dX9_copy_71 rfl (lv_at hl 4 rfl) ?_
            refine lv_iload hx hb dX9_copy_72 (lv_at hl 7 rfl) ?_
            obtain ⟨o14, ho14, h⟩ := Option.bind_eq_some_iff.mp h
            obtain ⟨v16, x15⟩ := o14
            replace h := un2_e h
            refine bq_callVi (q0 := 34) (As := [.int _, .int _]) S hK hD hA hP hS (cX6_holds_k_34 ho14) hd_yX6_holds ml_X9_270 in_yX6_holds (hts _ sl_X6_X6_yX6_holds) ⟨rfl, rfl⟩ ⟨by decide, by decide⟩ rfl rfl rfl hl.1 rfl (Nat.le_of_ble_eq_true rfl) ⟨Nat.zero_le _, Nat.zero_le _⟩ dX9_copy_74 (fun H locs hP hS => ?_)
            refine lv_if_eq (tgt := 92) hx hb dX9_copy_77 (by decide) (fun c17 => ?_) (fun c17 => ?_)
            · replace h := (if_pos c17).symm.trans h
              refine lv_bipush (v := (-13 : Int32)) hx hb dX9_copy_92 (by decide) ?_
              obtain ⟨e1, e2⟩ := Prod.mk.inj (hret _ h)
              exact hR _ _ _ _ _ (congrArg some e1) rfl (by rw [e2]; exact hP) hS dX9_copy_94
            · replace h := (if_neg c17).symm.trans h
              refine lv_aload hx hb dX9_copy_80 (lv_at hl 0 rfl) ?_
              refine lv_iload hx hb dX9_copy_82 (lv_at hl 6 rfl) ?_
              refine lv_iload hx hb dX9_copy_84 (lv_at hl 7 rfl) ?_
              obtain ⟨o18, ho18, h⟩ := Option.bind_eq_some_iff.mp h
              obtain ⟨v20, x19⟩ := o18
              replace h := un2_e h
              refine bq_callVi (q0 := 36) (As := [.int _, .int _]) S hK hD hA hP hS (cX6_holds_k_36 ho18) hd_yX6_holds ml_X9_270 in_yX6_holds (hts _ sl_X6_X6_yX6_holds) ⟨rfl, rfl⟩ ⟨by decide, by decide⟩ rfl rfl rfl hl.1 rfl (Nat.le_of_ble_eq_true rfl) ⟨Nat.zero_le _, Nat.zero_le _⟩ dX9_copy_86 (fun H locs hP hS => ?_)
              refine lv_if_ne (tgt := 95) hx hb dX9_copy_89 (by decide) (fun c21 => ?_) (fun c21 => ?_)
              · replace h := (if_neg c21).symm.trans h
                refine lv_aload hx hb dX9_copy_95 (lv_at hl 1 rfl) ?_
                refine bq_get (q0 := 34) S hK hP fl_X9_237_X6_0 rfl rfl rfl dX9_copy_97 ?_
                refine lv_iload_n hx hb dX9_copy_100 rfl (lv_at hl 4 rfl) ?_
                refine lv_aload hx hb dX9_copy_101 (lv_at hl 0 rfl) ?_
                refine bq_get (q0 := 36) S hK hP fl_X9_237_X6_0 rfl rfl rfl dX9_copy_103 ?_
                refine lv_iload hx hb dX9_copy_106 (lv_at hl 6 rfl) ?_
                refine lv_iload hx hb dX9_copy_108 (lv_at hl 7 rfl) ?_
                obtain ⟨⟨g221, g222, g223, g224, g225⟩, h⟩ := bq_gp h
                obtain ⟨x23, hx23, h⟩ := bq_b h
                refine va_copyl (D := D) hx hb (hml.trans hl.1.symm) hown (hts _ ml_X9_273) (hts _ acn) (hts _ acs) (hts _ aci) hK hP (hD _) hS 35 37 1 1 rfl rfl rfl rfl rfl g221 g222 g223 g224 g225 (fun _ _ => rfl) (by decide) (by decide +kernel) dX9_copy_110 (fun H locs hP _ hS => ?_)
                replace hP : va_P D bq_cl (bq_wC a k x23) H := by rw [hx23]; exact hP
                refine lv_iload hx hb dX9_copy_113 (lv_at hl 7 rfl) ?_
                obtain ⟨e1, e2⟩ := Prod.mk.inj (hret _ h)
                exact hR _ _ _ _ _ (congrArg some e1) rfl (by rw [e2]; exact hP) hS dX9_copy_115
              · replace h := (if_pos c21).symm.trans h
                refine lv_bipush (v := (-13 : Int32)) hx hb dX9_copy_92 (by decide) ?_
                obtain ⟨e1, e2⟩ := Prod.mk.inj (hret _ h)
                exact hR _ _ _ _ _ (congrArg some e1) rfl (by rw [e2]; exact hP) hS dX9_copy_94
          · replace h := (if_neg c13).symm.trans h
            refine lv_bipush (v := (-12 : Int32)) hx hb dX9_copy_66 (by decide) ?_
            obtain ⟨e1, e2⟩ := Prod.mk.inj (hret _ h)
            exact hR _ _ _ _ _ (congrArg some e1) rfl (by rw [e2]; exact hP) hS dX9_copy_68
        · replace h := (if_pos c12).symm.trans h
          refine lv_bipush (v := (-11 : Int32)) hx hb dX9_copy_50 (by decide) ?_
          obtain ⟨e1, e2⟩ := Prod.mk.inj (hret _ h)
          exact hR _ _ _ _ _ (congrArg some e1) rfl (by rw [e2]; exact hP) hS dX9_copy_52
    · replace h := (if_pos c8).symm.trans h
      refine lv_iconst (v := (-1 : Int32)) hx hb dX9_copy_14 (by decide) ?_
      obtain ⟨e1, e2⟩ := Prod.mk.inj (hret _ h)
      exact hR _ _ _ _ _ (congrArg some e1) rfl (by rw [e2]; exact hP) hS dX9_copy_15
set_option maxHeartbeats 4000000 in
set_option maxRecDepth 100000 in
theorem cX9_copy_k_0_s0_s2 {l : Launch} {D : va_G} {a : Nat → Nat} {k : Nat → ClassId} {p1 : Int32} {p2 : Int32} {p3 : Int32} {p4 : Int32} {p5 : Int32} {x0 xz : bq_S} {rz : Int32} (hkp1 : p1.toNatClampNeg = 0) (hkp3 : p3.toNatClampNeg = 2) (h : fX9_copy  p1 p2 p3 p4 p5 x0 = some (rz, xz)) : bq_M l D bq_cl (bq_ty k) (bq_wC a k) yX9_copy cX9_copy 8 (some .int) { frames := 1, cells := 0, slots := 0, locals := 60 } [.ref (a 0), .int p1, .int p2, .int p3, .int p4, .int p5] x0 (some rz) xz := by
  refine bq_ofW RX9 [(0, .ref (a 0)), (1, .int p1), (2, .int p2), (3, .int p3), (4, .int p4), (5, .int p5)] (by decide +kernel) rfl (Nat.le_of_ble_eq_true rfl) rfl (bq_adC a k) ?_
  intro p e s m below meth c A Q ls S hK hD hA hR hS hP hl
  have hx := S.1; have hb := S.2.1; have hml := S.2.2.1; have hown := S.2.2.2.1; have hts := S.2.2.2.2
  have hret : ∀ z, some z = some (rz, xz) → (rz, xz) = z := fun z h => (Option.some.inj h).symm
  unfold fX9_copy at h
  refine lv_iload_n hx hb dX9_copy_0 rfl (lv_at hl 1 rfl) ?_
  obtain ⟨o1, ho1, h⟩ := Option.bind_eq_some_iff.mp h
  obtain ⟨v3, x2⟩ := o1
  replace h := un2_e h
  refine bq_callSi (As := [.int _]) S hK hD hA hP hS (cX9_isSheet_k ho1) hd_yX9_isSheet ml_X9_252 st_yX9_isSheet ⟨rfl, rfl⟩ ⟨by decide, by decide⟩ rfl hl.1 rfl (Nat.le_of_ble_eq_true rfl) ⟨Nat.zero_le _, Nat.zero_le _⟩ dX9_copy_1 (fun H locs hP hS => ?_)
  refine lv_if_eq (tgt := 14) hx hb dX9_copy_4 (by decide) (fun c4 => ?_) (fun c4 => ?_)
  · replace h := (if_pos c4).symm.trans h
    refine lv_iconst (v := (-1 : Int32)) hx hb dX9_copy_14 (by decide) ?_
    obtain ⟨e1, e2⟩ := Prod.mk.inj (hret _ h)
    exact hR _ _ _ _ _ (congrArg some e1) rfl (by rw [e2]; exact hP) hS dX9_copy_15
  · replace h := (if_neg c4).symm.trans h
    refine lv_iload_n hx hb dX9_copy_7 rfl (lv_at hl 3 rfl) ?_
    obtain ⟨o5, ho5, h⟩ := Option.bind_eq_some_iff.mp h
    obtain ⟨v7, x6⟩ := o5
    replace h := un2_e h
    refine bq_callSi (As := [.int _]) S hK hD hA hP hS (cX9_isSheet_k ho5) hd_yX9_isSheet ml_X9_252 st_yX9_isSheet ⟨rfl, rfl⟩ ⟨by decide, by decide⟩ rfl hl.1 rfl (Nat.le_of_ble_eq_true rfl) ⟨Nat.zero_le _, Nat.zero_le _⟩ dX9_copy_8 (fun H locs hP hS => ?_)
    refine lv_if_ne (tgt := 16) hx hb dX9_copy_11 (by decide) (fun c8 => ?_) (fun c8 => ?_)
    · replace h := (if_neg c8).symm.trans h
      refine lv_aload_n hx hb dX9_copy_16 rfl (lv_at hl 0 rfl) ?_
      refine bq_get (q0 := 0) S hK hP fl_X9_70_X9_9 rfl rfl rfl dX9_copy_17 ?_
      refine lv_iload_n hx hb dX9_copy_20 rfl (lv_at hl 1 rfl) ?_
      obtain ⟨g9, h⟩ := bq_gd h
      refine va_aldq (D := D) hx hb hK hP 33 3 rfl rfl g9 dX9_copy_21 ?_
      rw [hkp1]
      try rw [hkp1] at h
      refine W.eq (g2 := F0 m 22 ls [.ref (a 34)]) rfl ?_
      refine lv_astore (lv' := [(6, .ref (a 34)), (0, .ref (a 0)), (1, .int p1), (2, .int p2), (3, .int p3), (4, .int p4), (5, .int p5)]) hx hb dX9_copy_22 hl (by decide) rfl (fun ls hl => ?_)
      refine lv_aload_n hx hb dX9_copy_24 rfl (lv_at hl 1 rfl) ?_
      refine bq_get (q0 := 0) S hK hP fl_X9_70_X9_9 rfl rfl rfl dX9_copy_25 ?_
      refine lv_iload_n hx hb dX9_copy_28 rfl (lv_at hl 4 rfl) ?_
      obtain ⟨g10, h⟩ := bq_gd h
      refine va_aldq (D := D) hx hb hK hP 33 3 rfl rfl g10 dX9_copy_29 ?_
      rw [hkp3]
      try rw [hkp3] at h
      refine W.eq (g2 := F0 m 30 ls [.ref (a 38)]) rfl ?_
      refine lv_astore (lv' := [(7, .ref (a 38)), (6, .ref (a 34)), (0, .ref (a 0)), (1, .int p1), (2, .int p2), (3, .int p3), (4, .int p4), (5, .int p5)]) hx hb dX9_copy_30 hl (by decide) rfl (fun ls hl => ?_)
      refine lv_aload hx hb dX9_copy_32 (lv_at hl 1 rfl) ?_
      refine bq_get (q0 := 34) S hK hP fl_X9_262_X6_1 rfl rfl rfl dX9_copy_34 ?_
      refine lv_iconst (v := (-1 : Int32)) hx hb dX9_copy_37 (by decide) ?_
      refine lv_icmp_eq (tgt := 50) hx hb dX9_copy_38 (by decide) (fun c11 => ?_) (fun c11 => ?_)
      · replace h := (if_pos c11).symm.trans h
        refine lv_bipush (v := (-11 : Int32)) hx hb dX9_copy_50 (by decide) ?_
        obtain ⟨e1, e2⟩ := Prod.mk.inj (hret _ h)
        exact hR _ _ _ _ _ (congrArg some e1) rfl (by rw [e2]; exact hP) hS dX9_copy_52
      · replace h := (if_neg c11).symm.trans h
        refine lv_aload hx hb dX9_copy_41 (lv_at hl 0 rfl) ?_
        refine bq_get (q0 := 38) S hK hP fl_X9_262_X6_1 rfl rfl rfl dX9_copy_43 ?_
        refine lv_iconst (v := (-1 : Int32)) hx hb dX9_copy_46 (by decide) ?_
        refine lv_icmp_ne (tgt := 53) hx hb dX9_copy_47 (by decide) (fun c12 => ?_) (fun c12 => ?_)
        · replace h := (if_neg c12).symm.trans h
          refine lv_aload hx hb dX9_copy_53 (lv_at hl 1 rfl) ?_
          refine bq_get (q0 := 34) S hK hP fl_X9_262_X6_1 rfl rfl rfl dX9_copy_55 ?_
          refine lv_aload hx hb dX9_copy_58 (lv_at hl 0 rfl) ?_
          refine bq_get (q0 := 38) S hK hP fl_X9_262_X6_1 rfl rfl rfl dX9_copy_60 ?_
          refine lv_icmp_eq (tgt := 69) hx hb dX9_copy_63 (by decide) (fun c13 => ?_) (fun c13 => ?_)
          · replace h := (if_pos c13).symm.trans h
            refine lv_aload hx hb dX9_copy_69 (lv_at hl 1 rfl) ?_
            refine lv_iload_n hx hb dX9_copy_71 rfl (lv_at hl 4 rfl) ?_
            refine lv_iload hx hb dX9_copy_72 (lv_at hl 7 rfl) ?_
            obtain ⟨o14, ho14, h⟩ := Option.bind_eq_some_iff.mp h
            obtain ⟨v16, x15⟩ := o14
            replace h := un2_e h
            refine bq_callVi (q0 := 34) (As := [.int _, .int _]) S hK hD hA hP hS (cX6_holds_k_34 ho14) hd_yX6_holds ml_X9_270 in_yX6_holds (hts _ sl_X6_X6_yX6_holds) ⟨rfl, rfl⟩ ⟨by decide, by decide⟩ rfl rfl rfl hl.1 rfl (Nat.le_of_ble_eq_true rfl) ⟨Nat.zero_le _, Nat.zero_le _⟩ dX9_copy_74 (fun H locs hP hS => ?_)
            refine lv_if_eq (tgt := 92) hx hb dX9_copy_77 (by decide) (fun c17 => ?_) (fun c17 => ?_)
            · replace h := (if_pos c17).symm.trans h
              refine lv_bipush (v := (-13 : Int32)) hx hb dX9_copy_92 (by decide) ?_
              obtain ⟨e1, e2⟩ := Prod.mk.inj (hret _ h)
              exact hR _ _ _ _ _ (congrArg some e1) rfl (by rw [e2]; exact hP) hS dX9_copy_94
            · replace h := (if_neg c17).symm.trans h
              refine lv_aload hx hb dX9_copy_80 (lv_at hl 0 rfl) ?_
              refine lv_iload hx hb dX9_copy_82 (lv_at hl 6 rfl) ?_
              refine lv_iload hx hb dX9_copy_84 (lv_at hl 7 rfl) ?_
              obtain ⟨o18, ho18, h⟩ := Option.bind_eq_some_iff.mp h
              obtain ⟨v20, x19⟩ := o18
              replace h := un2_e h
              refine bq_callVi (q0 := 38) (As := [.int _, .int _]) S hK hD hA hP hS (cX6_holds_k_38 ho18) hd_yX6_holds ml_X9_270 in_yX6_holds (hts _ sl_X6_X6_yX6_holds) ⟨rfl, rfl⟩ ⟨by decide, by decide⟩ rfl rfl rfl hl.1 rfl (Nat.le_of_ble_eq_true rfl) ⟨Nat.zero_le _, Nat.zero_le _⟩ dX9_copy_86 (fun H locs hP hS => ?_)
              refine lv_if_ne (tgt := 95) hx hb dX9_copy_89 (by decide) (fun c21 => ?_) (fun c21 => ?_)
              · replace h := (if_neg c21).symm.trans h
                refine lv_aload hx hb dX9_copy_95 (lv_at hl 1 rfl) ?_
                refine bq_get (q0 := 34) S hK hP fl_X9_237_X6_0 rfl rfl rfl dX9_copy_97 ?_
                refine lv_iload_n hx hb dX9_copy_100 rfl (lv_at hl 4 rfl) ?_
                refine lv_aload hx hb dX9_copy_101 (lv_at hl 0 rfl) ?_
                refine bq_get (q0 := 38) S hK hP fl_X9_237_X6_0 rfl rfl rfl dX9_copy_103 ?_
                refine lv_iload hx hb dX9_copy_106 (lv_at hl 6 rfl) ?_
                refine lv_iload hx hb dX9_copy_108 (lv_at hl 7 rfl) ?_
                obtain ⟨⟨g221, g222, g223, g224, g225⟩, h⟩ := bq_gp h
                obtain ⟨x23, hx23, h⟩ := bq_b h
                refine va_copyl (D := D) hx hb (hml.trans hl.1.symm) hown (hts _ ml_X9_273) (hts _ acn) (hts _ acs) (hts _ aci) hK hP (hD _) hS 35 39 1 1 rfl rfl rfl rfl rfl g221 g222 g223 g224 g225 (fun _ _ => rfl) (by decide) (by decide +kernel) dX9_copy_110 (fun H locs hP _ hS => ?_)
                replace hP : va_P D bq_cl (bq_wC a k x23) H := by rw [hx23]; exact hP
                refine lv_iload hx hb dX9_copy_113 (lv_at hl 7 rfl) ?_
                obtain ⟨e1, e2⟩ := Prod.mk.inj (hret _ h)
                exact hR _ _ _ _ _ (congrArg some e1) rfl (by rw [e2]; exact hP) hS dX9_copy_115
              · replace h := (if_pos c21).symm.trans h
                refine lv_bipush (v := (-13 : Int32)) hx hb dX9_copy_92 (by decide) ?_
                obtain ⟨e1, e2⟩ := Prod.mk.inj (hret _ h)
                exact hR _ _ _ _ _ (congrArg some e1) rfl (by rw [e2]; exact hP) hS dX9_copy_94
          · replace h := (if_neg c13).symm.trans h
            refine lv_bipush (v := (-12 : Int32)) hx hb dX9_copy_66 (by decide) ?_
            obtain ⟨e1, e2⟩ := Prod.mk.inj (hret _ h)
            exact hR _ _ _ _ _ (congrArg some e1) rfl (by rw [e2]; exact hP) hS dX9_copy_68
        · replace h := (if_pos c12).symm.trans h
          refine lv_bipush (v := (-11 : Int32)) hx hb dX9_copy_50 (by decide) ?_
          obtain ⟨e1, e2⟩ := Prod.mk.inj (hret _ h)
          exact hR _ _ _ _ _ (congrArg some e1) rfl (by rw [e2]; exact hP) hS dX9_copy_52
    · replace h := (if_pos c8).symm.trans h
      refine lv_iconst (v := (-1 : Int32)) hx hb dX9_copy_14 (by decide) ?_
      obtain ⟨e1, e2⟩ := Prod.mk.inj (hret _ h)
      exact hR _ _ _ _ _ (congrArg some e1) rfl (by rw [e2]; exact hP) hS dX9_copy_15
set_option maxHeartbeats 4000000 in
set_option maxRecDepth 100000 in
theorem cX9_copy_k_0_s0_s3 {l : Launch} {D : va_G} {a : Nat → Nat} {k : Nat → ClassId} {p1 : Int32} {p2 : Int32} {p3 : Int32} {p4 : Int32} {p5 : Int32} {x0 xz : bq_S} {rz : Int32} (hkp1 : p1.toNatClampNeg = 0) (hkp3 : p3.toNatClampNeg = 3) (h : fX9_copy  p1 p2 p3 p4 p5 x0 = some (rz, xz)) : bq_M l D bq_cl (bq_ty k) (bq_wC a k) yX9_copy cX9_copy 8 (some .int) { frames := 1, cells := 0, slots := 0, locals := 60 } [.ref (a 0), .int p1, .int p2, .int p3, .int p4, .int p5] x0 (some rz) xz := by
  refine bq_ofW RX9 [(0, .ref (a 0)), (1, .int p1), (2, .int p2), (3, .int p3), (4, .int p4), (5, .int p5)] (by decide +kernel) rfl (Nat.le_of_ble_eq_true rfl) rfl (bq_adC a k) ?_
  intro p e s m below meth c A Q ls S hK hD hA hR hS hP hl
  have hx := S.1; have hb := S.2.1; have hml := S.2.2.1; have hown := S.2.2.2.1; have hts := S.2.2.2.2
  have hret : ∀ z, some z = some (rz, xz) → (rz, xz) = z := fun z h => (Option.some.inj h).symm
  unfold fX9_copy at h
  refine lv_iload_n hx hb dX9_copy_0 rfl (lv_at hl 1 rfl) ?_
  obtain ⟨o1, ho1, h⟩ := Option.bind_eq_some_iff.mp h
  obtain ⟨v3, x2⟩ := o1
  replace h := un2_e h
  refine bq_callSi (As := [.int _]) S hK hD hA hP hS (cX9_isSheet_k ho1) hd_yX9_isSheet ml_X9_252 st_yX9_isSheet ⟨rfl, rfl⟩ ⟨by decide, by decide⟩ rfl hl.1 rfl (Nat.le_of_ble_eq_true rfl) ⟨Nat.zero_le _, Nat.zero_le _⟩ dX9_copy_1 (fun H locs hP hS => ?_)
  refine lv_if_eq (tgt := 14) hx hb dX9_copy_4 (by decide) (fun c4 => ?_) (fun c4 => ?_)
  · replace h := (if_pos c4).symm.trans h
    refine lv_iconst (v := (-1 : Int32)) hx hb dX9_copy_14 (by decide) ?_
    obtain ⟨e1, e2⟩ := Prod.mk.inj (hret _ h)
    exact hR _ _ _ _ _ (congrArg some e1) rfl (by rw [e2]; exact hP) hS dX9_copy_15
  · replace h := (if_neg c4).symm.trans h
    refine lv_iload_n hx hb dX9_copy_7 rfl (lv_at hl 3 rfl) ?_
    obtain ⟨o5, ho5, h⟩ := Option.bind_eq_some_iff.mp h
    obtain ⟨v7, x6⟩ := o5
    replace h := un2_e h
    refine bq_callSi (As := [.int _]) S hK hD hA hP hS (cX9_isSheet_k ho5) hd_yX9_isSheet ml_X9_252 st_yX9_isSheet ⟨rfl, rfl⟩ ⟨by decide, by decide⟩ rfl hl.1 rfl (Nat.le_of_ble_eq_true rfl) ⟨Nat.zero_le _, Nat.zero_le _⟩ dX9_copy_8 (fun H locs hP hS => ?_)
    refine lv_if_ne (tgt := 16) hx hb dX9_copy_11 (by decide) (fun c8 => ?_) (fun c8 => ?_)
    · replace h := (if_neg c8).symm.trans h
      refine lv_aload_n hx hb dX9_copy_16 rfl (lv_at hl 0 rfl) ?_
      refine bq_get (q0 := 0) S hK hP fl_X9_70_X9_9 rfl rfl rfl dX9_copy_17 ?_
      refine lv_iload_n hx hb dX9_copy_20 rfl (lv_at hl 1 rfl) ?_
      obtain ⟨g9, h⟩ := bq_gd h
      refine va_aldq (D := D) hx hb hK hP 33 3 rfl rfl g9 dX9_copy_21 ?_
      rw [hkp1]
      try rw [hkp1] at h
      refine W.eq (g2 := F0 m 22 ls [.ref (a 34)]) rfl ?_
      refine lv_astore (lv' := [(6, .ref (a 34)), (0, .ref (a 0)), (1, .int p1), (2, .int p2), (3, .int p3), (4, .int p4), (5, .int p5)]) hx hb dX9_copy_22 hl (by decide) rfl (fun ls hl => ?_)
      refine lv_aload_n hx hb dX9_copy_24 rfl (lv_at hl 1 rfl) ?_
      refine bq_get (q0 := 0) S hK hP fl_X9_70_X9_9 rfl rfl rfl dX9_copy_25 ?_
      refine lv_iload_n hx hb dX9_copy_28 rfl (lv_at hl 4 rfl) ?_
      obtain ⟨g10, h⟩ := bq_gd h
      refine va_aldq (D := D) hx hb hK hP 33 3 rfl rfl g10 dX9_copy_29 ?_
      rw [hkp3]
      try rw [hkp3] at h
      refine W.eq (g2 := F0 m 30 ls [.ref (a 40)]) rfl ?_
      refine lv_astore (lv' := [(7, .ref (a 40)), (6, .ref (a 34)), (0, .ref (a 0)), (1, .int p1), (2, .int p2), (3, .int p3), (4, .int p4), (5, .int p5)]) hx hb dX9_copy_30 hl (by decide) rfl (fun ls hl => ?_)
      refine lv_aload hx hb dX9_copy_32 (lv_at hl 1 rfl) ?_
      refine bq_get (q0 := 34) S hK hP fl_X9_262_X6_1 rfl rfl rfl dX9_copy_34 ?_
      refine lv_iconst (v := (-1 : Int32)) hx hb dX9_copy_37 (by decide) ?_
      refine lv_icmp_eq (tgt := 50) hx hb dX9_copy_38 (by decide) (fun c11 => ?_) (fun c11 => ?_)
      · replace h := (if_pos c11).symm.trans h
        refine lv_bipush (v := (-11 : Int32)) hx hb dX9_copy_50 (by decide) ?_
        obtain ⟨e1, e2⟩ := Prod.mk.inj (hret _ h)
        exact hR _ _ _ _ _ (congrArg some e1) rfl (by rw [e2]; exact hP) hS dX9_copy_52
      · replace h := (if_neg c11).symm.trans h
        refine lv_aload hx hb dX9_copy_41 (lv_at hl 0 rfl) ?_
        refine bq_get (q0 := 40) S hK hP fl_X9_262_X6_1 rfl rfl rfl dX9_copy_43 ?_
        refine lv_iconst (v := (-1 : Int32)) hx hb dX9_copy_46 (by decide) ?_
        refine lv_icmp_ne (tgt := 53) hx hb dX9_copy_47 (by decide) (fun c12 => ?_) (fun c12 => ?_)
        · replace h := (if_neg c12).symm.trans h
          refine lv_aload hx hb dX9_copy_53 (lv_at hl 1 rfl) ?_
          refine bq_get (q0 := 34) S hK hP fl_X9_262_X6_1 rfl rfl rfl dX9_copy_55 ?_
          refine lv_aload hx hb dX9_copy_58 (lv_at hl 0 rfl) ?_
          refine bq_get (q0 := 40) S hK hP fl_X9_262_X6_1 rfl rfl rfl dX9_copy_60 ?_
          refine lv_icmp_eq (tgt := 69) hx hb dX9_copy_63 (by decide) (fun c13 => ?_) (fun c13 => ?_)
          · replace h := (if_pos c13).symm.trans h
            refine lv_aload hx hb dX9_copy_69 (lv_at hl 1 rfl) ?_
            refine lv_iload_n hx hb dX9_copy_71 rfl (lv_at hl 4 rfl) ?_
            refine lv_iload hx hb dX9_copy_72 (lv_at hl 7 rfl) ?_
            obtain ⟨o14, ho14, h⟩ := Option.bind_eq_some_iff.mp h
            obtain ⟨v16, x15⟩ := o14
            replace h := un2_e h
            refine bq_callVi (q0 := 34) (As := [.int _, .int _]) S hK hD hA hP hS (cX6_holds_k_34 ho14) hd_yX6_holds ml_X9_270 in_yX6_holds (hts _ sl_X6_X6_yX6_holds) ⟨rfl, rfl⟩ ⟨by decide, by decide⟩ rfl rfl rfl hl.1 rfl (Nat.le_of_ble_eq_true rfl) ⟨Nat.zero_le _, Nat.zero_le _⟩ dX9_copy_74 (fun H locs hP hS => ?_)
            refine lv_if_eq (tgt := 92) hx hb dX9_copy_77 (by decide) (fun c17 => ?_) (fun c17 => ?_)
            · replace h := (if_pos c17).symm.trans h
              refine lv_bipush (v := (-13 : Int32)) hx hb dX9_copy_92 (by decide) ?_
              obtain ⟨e1, e2⟩ := Prod.mk.inj (hret _ h)
              exact hR _ _ _ _ _ (congrArg some e1) rfl (by rw [e2]; exact hP) hS dX9_copy_94
            · replace h := (if_neg c17).symm.trans h
              refine lv_aload hx hb dX9_copy_80 (lv_at hl 0 rfl) ?_
              refine lv_iload hx hb dX9_copy_82 (lv_at hl 6 rfl) ?_
              refine lv_iload hx hb dX9_copy_84 (lv_at hl 7 rfl) ?_
              obtain ⟨o18, ho18, h⟩ := Option.bind_eq_some_iff.mp h
              obtain ⟨v20, x19⟩ := o18
              replace h := un2_e h
              refine bq_callVi (q0 := 40) (As := [.int _, .int _]) S hK hD hA hP hS (cX6_holds_k_40 ho18) hd_yX6_holds ml_X9_270 in_yX6_holds (hts _ sl_X6_X6_yX6_holds) ⟨rfl, rfl⟩ ⟨by decide, by decide⟩ rfl rfl rfl hl.1 rfl (Nat.le_of_ble_eq_true rfl) ⟨Nat.zero_le _, Nat.zero_le _⟩ dX9_copy_86 (fun H locs hP hS => ?_)
              refine lv_if_ne (tgt := 95) hx hb dX9_copy_89 (by decide) (fun c21 => ?_) (fun c21 => ?_)
              · replace h := (if_neg c21).symm.trans h
                refine lv_aload hx hb dX9_copy_95 (lv_at hl 1 rfl) ?_
                refine bq_get (q0 := 34) S hK hP fl_X9_237_X6_0 rfl rfl rfl dX9_copy_97 ?_
                refine lv_iload_n hx hb dX9_copy_100 rfl (lv_at hl 4 rfl) ?_
                refine lv_aload hx hb dX9_copy_101 (lv_at hl 0 rfl) ?_
                refine bq_get (q0 := 40) S hK hP fl_X9_237_X6_0 rfl rfl rfl dX9_copy_103 ?_
                refine lv_iload hx hb dX9_copy_106 (lv_at hl 6 rfl) ?_
                refine lv_iload hx hb dX9_copy_108 (lv_at hl 7 rfl) ?_
                obtain ⟨⟨g221, g222, g223, g224, g225⟩, h⟩ := bq_gp h
                obtain ⟨x23, hx23, h⟩ := bq_b h
                refine va_copyl (D := D) hx hb (hml.trans hl.1.symm) hown (hts _ ml_X9_273) (hts _ acn) (hts _ acs) (hts _ aci) hK hP (hD _) hS 35 41 1 1 rfl rfl rfl rfl rfl g221 g222 g223 g224 g225 (fun _ _ => rfl) (by decide) (by decide +kernel) dX9_copy_110 (fun H locs hP _ hS => ?_)
                replace hP : va_P D bq_cl (bq_wC a k x23) H := by rw [hx23]; exact hP
                refine lv_iload hx hb dX9_copy_113 (lv_at hl 7 rfl) ?_
                obtain ⟨e1, e2⟩ := Prod.mk.inj (hret _ h)
                exact hR _ _ _ _ _ (congrArg some e1) rfl (by rw [e2]; exact hP) hS dX9_copy_115
              · replace h := (if_pos c21).symm.trans h
                refine lv_bipush (v := (-13 : Int32)) hx hb dX9_copy_92 (by decide) ?_
                obtain ⟨e1, e2⟩ := Prod.mk.inj (hret _ h)
                exact hR _ _ _ _ _ (congrArg some e1) rfl (by rw [e2]; exact hP) hS dX9_copy_94
          · replace h := (if_neg c13).symm.trans h
            refine lv_bipush (v := (-12 : Int32)) hx hb dX9_copy_66 (by decide) ?_
            obtain ⟨e1, e2⟩ := Prod.mk.inj (hret _ h)
            exact hR _ _ _ _ _ (congrArg some e1) rfl (by rw [e2]; exact hP) hS dX9_copy_68
        · replace h := (if_pos c12).symm.trans h
          refine lv_bipush (v := (-11 : Int32)) hx hb dX9_copy_50 (by decide) ?_
          obtain ⟨e1, e2⟩ := Prod.mk.inj (hret _ h)
          exact hR _ _ _ _ _ (congrArg some e1) rfl (by rw [e2]; exact hP) hS dX9_copy_52
    · replace h := (if_pos c8).symm.trans h
      refine lv_iconst (v := (-1 : Int32)) hx hb dX9_copy_14 (by decide) ?_
      obtain ⟨e1, e2⟩ := Prod.mk.inj (hret _ h)
      exact hR _ _ _ _ _ (congrArg some e1) rfl (by rw [e2]; exact hP) hS dX9_copy_15
