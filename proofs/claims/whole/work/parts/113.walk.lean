def fX10_wrongAt_b2 (n : Nat) (v : Int32 × bq_S) : Option ((Int32 × bq_S) ⊕ ((Int32 × bq_S) ⊕ (Int32 × bq_S))) :=
  un2 v (fun v1 x2 =>
  if (x2.1 0 17) ≤ (v1 + (1 : Int32)) then
  some (.inr (.inl (v1, x2)))
  else
  if ok_i v1 8 then
  if ok_i (v1 + (1 : Int32)) 8 then
  (fX10_mayTouch (x2.1 10 v1.toNatClampNeg) (x2.1 10 (v1 + (1 : Int32)).toNatClampNeg) x2).bind (fun o6 => un2 o6 (fun v8 x7 =>
  if v8 = 0 then
  some (.inr (.inr (v1, x7)))
  else
  bd (v1 + (1 : Int32)) (fun v10 =>
  some (.inl (v10, x7)))))
  else none
  else none)
def fX10_wrongAt (n : Nat) (x0 : bq_S) : Option (Int32 × bq_S) :=
  (wh n (fX10_wrongAt_b2 n) ((0 : Int32), x0)).bind (fun e11 =>
  Sum.elim (fun z => un2 z (fun v12 x13 =>
  if (x13.1 4 (0 : Int32).toNatClampNeg) = (1 : Int32) then
  if (x13.1 0 17) ≤ (2 : Int32) then
  some ((-4 : Int32), x13)
  else
  if ok_i ((x13.1 0 17) - (1 : Int32)) 8 then
  (fX10_mayTouch (x13.1 10 ((x13.1 0 17) - (1 : Int32)).toNatClampNeg) (x13.1 10 (0 : Int32).toNatClampNeg) x13).bind (fun o17 => un2 o17 (fun v19 x18 =>
  if v19 = 0 then
  some (((x18.1 0 17) - (1 : Int32)), x18)
  else
  some ((-4 : Int32), x18)))
  else none
  else
  some ((-4 : Int32), x13))) (fun z => some z) e11)
theorem dX10_wrongAt_0 : decode cX10_wrongAt 0 = .ok (.iconst 0, 1) := by decide +kernel
theorem dX10_wrongAt_1 : decode cX10_wrongAt 1 = .ok (.istore_n 1, 1) := by decide +kernel
theorem dX10_wrongAt_2 : decode cX10_wrongAt 2 = .ok (.iload_n 1, 1) := by decide +kernel
theorem dX10_wrongAt_3 : decode cX10_wrongAt 3 = .ok (.iconst 1, 1) := by decide +kernel
theorem dX10_wrongAt_4 : decode cX10_wrongAt 4 = .ok (.iadd, 1) := by decide +kernel
theorem dX10_wrongAt_5 : decode cX10_wrongAt 5 = .ok (.aload_n 0, 1) := by decide +kernel
theorem dX10_wrongAt_6 : decode cX10_wrongAt 6 = .ok (.getfield 133, 3) := by decide +kernel
theorem dX10_wrongAt_9 : decode cX10_wrongAt 9 = .ok (.if_icmp .ge 32, 3) := by decide +kernel
theorem dX10_wrongAt_12 : decode cX10_wrongAt 12 = .ok (.aload_n 0, 1) := by decide +kernel
theorem dX10_wrongAt_13 : decode cX10_wrongAt 13 = .ok (.aload_n 0, 1) := by decide +kernel
theorem dX10_wrongAt_14 : decode cX10_wrongAt 14 = .ok (.getfield 37, 3) := by decide +kernel
theorem dX10_wrongAt_17 : decode cX10_wrongAt 17 = .ok (.iload_n 1, 1) := by decide +kernel
theorem dX10_wrongAt_18 : decode cX10_wrongAt 18 = .ok (.iaload, 1) := by decide +kernel
theorem dX10_wrongAt_19 : decode cX10_wrongAt 19 = .ok (.aload_n 0, 1) := by decide +kernel
theorem dX10_wrongAt_20 : decode cX10_wrongAt 20 = .ok (.getfield 37, 3) := by decide +kernel
theorem dX10_wrongAt_23 : decode cX10_wrongAt 23 = .ok (.iload_n 1, 1) := by decide +kernel
theorem dX10_wrongAt_24 : decode cX10_wrongAt 24 = .ok (.iconst 1, 1) := by decide +kernel
theorem dX10_wrongAt_25 : decode cX10_wrongAt 25 = .ok (.iadd, 1) := by decide +kernel
theorem dX10_wrongAt_26 : decode cX10_wrongAt 26 = .ok (.iaload, 1) := by decide +kernel
theorem dX10_wrongAt_27 : decode cX10_wrongAt 27 = .ok (.invokevirtual 83, 3) := by decide +kernel
theorem dX10_wrongAt_30 : decode cX10_wrongAt 30 = .ok (.ifCond .ne 5, 3) := by decide +kernel
theorem dX10_wrongAt_33 : decode cX10_wrongAt 33 = .ok (.iload_n 1, 1) := by decide +kernel
theorem dX10_wrongAt_34 : decode cX10_wrongAt 34 = .ok (.ireturn, 1) := by decide +kernel
theorem dX10_wrongAt_35 : decode cX10_wrongAt 35 = .ok (.iinc 1 1, 3) := by decide +kernel
theorem dX10_wrongAt_38 : decode cX10_wrongAt 38 = .ok (.goto (-36), 3) := by decide +kernel
theorem dX10_wrongAt_41 : decode cX10_wrongAt 41 = .ok (.aload_n 0, 1) := by decide +kernel
theorem dX10_wrongAt_42 : decode cX10_wrongAt 42 = .ok (.getfield 19, 3) := by decide +kernel
theorem dX10_wrongAt_45 : decode cX10_wrongAt 45 = .ok (.iconst 0, 1) := by decide +kernel
theorem dX10_wrongAt_46 : decode cX10_wrongAt 46 = .ok (.iaload, 1) := by decide +kernel
theorem dX10_wrongAt_47 : decode cX10_wrongAt 47 = .ok (.iconst 1, 1) := by decide +kernel
theorem dX10_wrongAt_48 : decode cX10_wrongAt 48 = .ok (.if_icmp .ne 44, 3) := by decide +kernel
theorem dX10_wrongAt_51 : decode cX10_wrongAt 51 = .ok (.aload_n 0, 1) := by decide +kernel
theorem dX10_wrongAt_52 : decode cX10_wrongAt 52 = .ok (.getfield 133, 3) := by decide +kernel
theorem dX10_wrongAt_55 : decode cX10_wrongAt 55 = .ok (.iconst 2, 1) := by decide +kernel
theorem dX10_wrongAt_56 : decode cX10_wrongAt 56 = .ok (.if_icmp .le 36, 3) := by decide +kernel
theorem dX10_wrongAt_59 : decode cX10_wrongAt 59 = .ok (.aload_n 0, 1) := by decide +kernel
theorem dX10_wrongAt_60 : decode cX10_wrongAt 60 = .ok (.aload_n 0, 1) := by decide +kernel
theorem dX10_wrongAt_61 : decode cX10_wrongAt 61 = .ok (.getfield 37, 3) := by decide +kernel
theorem dX10_wrongAt_64 : decode cX10_wrongAt 64 = .ok (.aload_n 0, 1) := by decide +kernel
theorem dX10_wrongAt_65 : decode cX10_wrongAt 65 = .ok (.getfield 133, 3) := by decide +kernel
theorem dX10_wrongAt_68 : decode cX10_wrongAt 68 = .ok (.iconst 1, 1) := by decide +kernel
theorem dX10_wrongAt_69 : decode cX10_wrongAt 69 = .ok (.isub, 1) := by decide +kernel
theorem dX10_wrongAt_70 : decode cX10_wrongAt 70 = .ok (.iaload, 1) := by decide +kernel
theorem dX10_wrongAt_71 : decode cX10_wrongAt 71 = .ok (.aload_n 0, 1) := by decide +kernel
theorem dX10_wrongAt_72 : decode cX10_wrongAt 72 = .ok (.getfield 37, 3) := by decide +kernel
theorem dX10_wrongAt_75 : decode cX10_wrongAt 75 = .ok (.iconst 0, 1) := by decide +kernel
theorem dX10_wrongAt_76 : decode cX10_wrongAt 76 = .ok (.iaload, 1) := by decide +kernel
theorem dX10_wrongAt_77 : decode cX10_wrongAt 77 = .ok (.invokevirtual 83, 3) := by decide +kernel
theorem dX10_wrongAt_80 : decode cX10_wrongAt 80 = .ok (.ifCond .ne 12, 3) := by decide +kernel
theorem dX10_wrongAt_83 : decode cX10_wrongAt 83 = .ok (.aload_n 0, 1) := by decide +kernel
theorem dX10_wrongAt_84 : decode cX10_wrongAt 84 = .ok (.getfield 133, 3) := by decide +kernel
theorem dX10_wrongAt_87 : decode cX10_wrongAt 87 = .ok (.iconst 1, 1) := by decide +kernel
theorem dX10_wrongAt_88 : decode cX10_wrongAt 88 = .ok (.isub, 1) := by decide +kernel
theorem dX10_wrongAt_89 : decode cX10_wrongAt 89 = .ok (.goto 5, 3) := by decide +kernel
theorem dX10_wrongAt_92 : decode cX10_wrongAt 92 = .ok (.bipush (-4), 2) := by decide +kernel
theorem dX10_wrongAt_94 : decode cX10_wrongAt 94 = .ok (.ireturn, 1) := by decide +kernel
set_option maxHeartbeats 4000000 in
set_option maxRecDepth 100000 in
theorem cX10_wrongAt_k_0 {l : Launch} {D : va_G} {a : Nat → Nat} {k : Nat → ClassId} {n : Nat} {x0 xz : bq_S} {rz : Int32} (h : fX10_wrongAt n  x0 = some (rz, xz)) : bq_M l D bq_cl (bq_ty k) (bq_wM a k) yX10_wrongAt cX10_wrongAt 2 (some .int) { frames := 1, cells := 0, slots := 0, locals := 25 } [.ref (a 0)] x0 (some rz) xz := by
  refine bq_ofW RX10 [(0, .ref (a 0))] (by decide +kernel) rfl (Nat.le_of_ble_eq_true rfl) rfl (bq_adM a k) ?_
  intro p e s m below meth c A Q ls S hK hD hA hR hS hP hl
  have hx := S.1; have hb := S.2.1; have hml := S.2.2.1; have hown := S.2.2.2.1; have hts := S.2.2.2.2
  have hret : ∀ z, some z = some (rz, xz) → (rz, xz) = z := fun z h => (Option.some.inj h).symm
  unfold fX10_wrongAt at h
  refine lv_iconst (v := (0 : Int32)) hx hb dX10_wrongAt_0 (by decide) ?_
  refine lv_istore_n (lv' := [(1, .int (0 : Int32)), (0, .ref (a 0))]) hx hb dX10_wrongAt_1 rfl hl (by decide) rfl (fun ls hl => ?_)
  have hl2 : ∀ (kf : Nat) (v1 : Int32) (x2 : bq_S) (eo : (Int32 × bq_S) ⊕ (Int32 × bq_S)) (H : Heap) (locs : List Loc) (ls : Array Slot), wh kf (fX10_wrongAt_b2 n ) (v1, x2) = some eo → va_P D bq_cl (bq_wM a k x2) H → va_S A s.heap H locs → lv_has ls 2 [(0, .ref (a 0)), (1, .int v1)] → (∀ (H : Heap) (locs : List Loc) (ls : Array Slot) (v12 : Int32) (x13 : bq_S), eo = .inl (v12, x13) → va_P D bq_cl (bq_wM a k x13) H → va_S A s.heap H locs → lv_has ls 2 [(0, .ref (a 0))] → W p l e { frames := 1, cells := 0, slots := 0, locals := 25 } s m [.ref (a 0)].toArray below meth c H locs 0 0 Q (F0 m 41 ls [])) → (∀ z, eo = .inr z → (rz, xz) = z) → W p l e { frames := 1, cells := 0, slots := 0, locals := 25 } s m [.ref (a 0)].toArray below meth c H locs 0 0 Q (F0 m 2 ls []) := by
    intro  kf
    induction kf with
    | zero => intro v1 x2 eo H locs ls h; cases h
    | succ kf ih =>
      intro v1 x2 eo H locs ls h hP hS hl kx kr
      obtain ⟨out, h, hw⟩ := wh_s h
      have hret : ∀ z, (some (.inr (.inr z)) : Option ((Int32 × bq_S) ⊕ ((Int32 × bq_S) ⊕ (Int32 × bq_S)))) = some out → (rz, xz) = z := fun z h => kr z (by cases h; exact (Option.some.inj hw).symm)
      unfold fX10_wrongAt_b2 at h
      replace h := un2_e h
      refine lv_iload_n hx hb dX10_wrongAt_2 rfl (lv_at hl 1 rfl) ?_
      refine lv_iconst (v := (1 : Int32)) hx hb dX10_wrongAt_3 (by decide) ?_
      refine lv_iadd hx hb dX10_wrongAt_4 ?_
      refine lv_aload_n hx hb dX10_wrongAt_5 rfl (lv_at hl 0 rfl) ?_
      refine bq_get (q0 := 0) S hK hP fl_X10_133_X10_17 rfl rfl rfl dX10_wrongAt_6 ?_
      refine lv_icmp_ge (tgt := 41) hx hb dX10_wrongAt_9 (by decide) (fun c3 => ?_) (fun c3 => ?_)
      · replace h := (if_pos c3).symm.trans h
        cases h
        exact kx _ _ _ _ _ (Option.some.inj hw).symm hP hS (lv_sub hl [0] rfl)
      · replace h := (if_neg c3).symm.trans h
        refine lv_aload_n hx hb dX10_wrongAt_12 rfl (lv_at hl 0 rfl) ?_
        refine lv_aload_n hx hb dX10_wrongAt_13 rfl (lv_at hl 0 rfl) ?_
        refine bq_get (q0 := 0) S hK hP fl_X10_37_X10_16 rfl rfl rfl dX10_wrongAt_14 ?_
        refine lv_iload_n hx hb dX10_wrongAt_17 rfl (lv_at hl 1 rfl) ?_
        obtain ⟨g4, h⟩ := bq_gd h
        refine va_iald (D := D) hx hb hK hP 10 0 rfl rfl g4 dX10_wrongAt_18 ?_
        refine lv_aload_n hx hb dX10_wrongAt_19 rfl (lv_at hl 0 rfl) ?_
        refine bq_get (q0 := 0) S hK hP fl_X10_37_X10_16 rfl rfl rfl dX10_wrongAt_20 ?_
        refine lv_iload_n hx hb dX10_wrongAt_23 rfl (lv_at hl 1 rfl) ?_
        refine lv_iconst (v := (1 : Int32)) hx hb dX10_wrongAt_24 (by decide) ?_
        refine lv_iadd hx hb dX10_wrongAt_25 ?_
        obtain ⟨g5, h⟩ := bq_gd h
        refine va_iald (D := D) hx hb hK hP 10 0 rfl rfl g5 dX10_wrongAt_26 ?_
        obtain ⟨o6, ho6, h⟩ := Option.bind_eq_some_iff.mp h
        obtain ⟨v8, x7⟩ := o6
        replace h := un2_e h
        refine bq_callVi (q0 := 0) (As := [.int _, .int _]) S hK hD hA hP hS (cX10_mayTouch_k_0 ho6) hd_yX10_mayTouch ml_X10_83 in_yX10_mayTouch (hts _ sl_X10_X10_yX10_mayTouch) ⟨rfl, rfl⟩ ⟨by decide, by decide⟩ rfl rfl rfl hl.1 rfl (Nat.le_of_ble_eq_true rfl) ⟨Nat.zero_le _, Nat.zero_le _⟩ dX10_wrongAt_27 (fun H locs hP hS => ?_)
        refine lv_if_ne (tgt := 35) hx hb dX10_wrongAt_30 (by decide) (fun c9 => ?_) (fun c9 => ?_)
        · replace h := (if_neg c9).symm.trans h
          obtain ⟨v10, hv10, h⟩ := bq_b h
          refine lv_iinc (v := v10) (lv' := [(1, .int v10), (0, .ref (a 0))]) hx hb dX10_wrongAt_35 hl (k := 1) rfl (by rw [hv10]; rfl) (by decide) rfl (fun ls hl => ?_)
          refine lv_goto (tgt := 2) hx hb dX10_wrongAt_38 (by decide) ?_
          cases h
          exact ih _ _ _ _ _ _ hw hP hS (lv_sub hl [1, 0] rfl) kx kr
        · replace h := (if_pos c9).symm.trans h
          refine lv_iload_n hx hb dX10_wrongAt_33 rfl (lv_at hl 1 rfl) ?_
          obtain ⟨e1, e2⟩ := Prod.mk.inj (hret _ h)
          exact hR _ _ _ _ _ (congrArg some e1) rfl (by rw [e2]; exact hP) hS dX10_wrongAt_34
  obtain ⟨e11, he11, h⟩ := Option.bind_eq_some_iff.mp h
  refine hl2 n _ _ e11 _ _ _ he11 hP hS (lv_sub hl [1, 0] rfl) (fun H locs ls v12 x13 hz hP hS hl => ?_) (fun z hz => hret z (bq_ir h hz :))
  replace h := bq_il h hz
  replace h := un2_e h
  refine lv_aload_n hx hb dX10_wrongAt_41 rfl (lv_at hl 0 rfl) ?_
  refine bq_get (q0 := 0) S hK hP fl_X10_19_X10_5 rfl rfl rfl dX10_wrongAt_42 ?_
  refine lv_iconst (v := (0 : Int32)) hx hb dX10_wrongAt_45 (by decide) ?_
  refine va_iald (D := D) hx hb hK hP 4 0 rfl rfl (bq_inl rfl) dX10_wrongAt_46 ?_
  refine lv_iconst (v := (1 : Int32)) hx hb dX10_wrongAt_47 (by decide) ?_
  refine lv_icmp_ne (tgt := 92) hx hb dX10_wrongAt_48 (by decide) (fun c14 => ?_) (fun c14 => ?_)
  · replace h := (if_neg c14).symm.trans h
    refine lv_bipush (v := (-4 : Int32)) hx hb dX10_wrongAt_92 (by decide) ?_
    obtain ⟨e1, e2⟩ := Prod.mk.inj (hret _ h)
    exact hR _ _ _ _ _ (congrArg some e1) rfl (by rw [e2]; exact hP) hS dX10_wrongAt_94
  · replace h := (if_pos c14).symm.trans h
    refine lv_aload_n hx hb dX10_wrongAt_51 rfl (lv_at hl 0 rfl) ?_
    refine bq_get (q0 := 0) S hK hP fl_X10_133_X10_17 rfl rfl rfl dX10_wrongAt_52 ?_
    refine lv_iconst (v := (2 : Int32)) hx hb dX10_wrongAt_55 (by decide) ?_
    refine lv_icmp_le (tgt := 92) hx hb dX10_wrongAt_56 (by decide) (fun c15 => ?_) (fun c15 => ?_)
    · replace h := (if_pos c15).symm.trans h
      refine lv_bipush (v := (-4 : Int32)) hx hb dX10_wrongAt_92 (by decide) ?_
      obtain ⟨e1, e2⟩ := Prod.mk.inj (hret _ h)
      exact hR _ _ _ _ _ (congrArg some e1) rfl (by rw [e2]; exact hP) hS dX10_wrongAt_94
    · replace h := (if_neg c15).symm.trans h
      refine lv_aload_n hx hb dX10_wrongAt_59 rfl (lv_at hl 0 rfl) ?_
      refine lv_aload_n hx hb dX10_wrongAt_60 rfl (lv_at hl 0 rfl) ?_
      refine bq_get (q0 := 0) S hK hP fl_X10_37_X10_16 rfl rfl rfl dX10_wrongAt_61 ?_
      refine lv_aload_n hx hb dX10_wrongAt_64 rfl (lv_at hl 0 rfl) ?_
      refine bq_get (q0 := 0) S hK hP fl_X10_133_X10_17 rfl rfl rfl dX10_wrongAt_65 ?_
      refine lv_iconst (v := (1 : Int32)) hx hb dX10_wrongAt_68 (by decide) ?_
      refine lv_isub hx hb dX10_wrongAt_69 ?_
      obtain ⟨g16, h⟩ := bq_gd h
      refine va_iald (D := D) hx hb hK hP 10 0 rfl rfl g16 dX10_wrongAt_70 ?_
      refine lv_aload_n hx hb dX10_wrongAt_71 rfl (lv_at hl 0 rfl) ?_
      refine bq_get (q0 := 0) S hK hP fl_X10_37_X10_16 rfl rfl rfl dX10_wrongAt_72 ?_
      refine lv_iconst (v := (0 : Int32)) hx hb dX10_wrongAt_75 (by decide) ?_
      refine va_iald (D := D) hx hb hK hP 10 0 rfl rfl (bq_inl rfl) dX10_wrongAt_76 ?_
      obtain ⟨o17, ho17, h⟩ := Option.bind_eq_some_iff.mp h
      obtain ⟨v19, x18⟩ := o17
      replace h := un2_e h
      refine bq_callVi (q0 := 0) (As := [.int _, .int _]) S hK hD hA hP hS (cX10_mayTouch_k_0 ho17) hd_yX10_mayTouch ml_X10_83 in_yX10_mayTouch (hts _ sl_X10_X10_yX10_mayTouch) ⟨rfl, rfl⟩ ⟨by decide, by decide⟩ rfl rfl rfl hl.1 rfl (Nat.le_of_ble_eq_true rfl) ⟨Nat.zero_le _, Nat.zero_le _⟩ dX10_wrongAt_77 (fun H locs hP hS => ?_)
      refine lv_if_ne (tgt := 92) hx hb dX10_wrongAt_80 (by decide) (fun c20 => ?_) (fun c20 => ?_)
      · replace h := (if_neg c20).symm.trans h
        refine lv_bipush (v := (-4 : Int32)) hx hb dX10_wrongAt_92 (by decide) ?_
        obtain ⟨e1, e2⟩ := Prod.mk.inj (hret _ h)
        exact hR _ _ _ _ _ (congrArg some e1) rfl (by rw [e2]; exact hP) hS dX10_wrongAt_94
      · replace h := (if_pos c20).symm.trans h
        refine lv_aload_n hx hb dX10_wrongAt_83 rfl (lv_at hl 0 rfl) ?_
        refine bq_get (q0 := 0) S hK hP fl_X10_133_X10_17 rfl rfl rfl dX10_wrongAt_84 ?_
        refine lv_iconst (v := (1 : Int32)) hx hb dX10_wrongAt_87 (by decide) ?_
        refine lv_isub hx hb dX10_wrongAt_88 ?_
        refine lv_goto (tgt := 94) hx hb dX10_wrongAt_89 (by decide) ?_
        obtain ⟨e1, e2⟩ := Prod.mk.inj (hret _ h)
        exact hR _ _ _ _ _ (congrArg some e1) rfl (by rw [e2]; exact hP) hS dX10_wrongAt_94
def fX10_judged (n : Nat) (x0 : bq_S) : Option (Int32 × bq_S) :=
  (fX10_takesHall n  x0).bind (fun x2 =>
  (fX10_wrongAt n  x2).bind (fun o3 => un2 o3 (fun v5 x4 =>
  some (v5, x4))))
theorem dX10_judged_0 : decode cX10_judged 0 = .ok (.aload_n 0, 1) := by decide +kernel
theorem dX10_judged_1 : decode cX10_judged 1 = .ok (.invokevirtual 136, 3) := by decide +kernel
theorem dX10_judged_4 : decode cX10_judged 4 = .ok (.aload_n 0, 1) := by decide +kernel
theorem dX10_judged_5 : decode cX10_judged 5 = .ok (.invokevirtual 139, 3) := by decide +kernel
theorem dX10_judged_8 : decode cX10_judged 8 = .ok (.ireturn, 1) := by decide +kernel
set_option maxHeartbeats 4000000 in
set_option maxRecDepth 100000 in
theorem cX10_judged_k_0 {l : Launch} {D : va_G} {a : Nat → Nat} {k : Nat → ClassId} {n : Nat} {x0 xz : bq_S} {rz : Int32} (h : fX10_judged n  x0 = some (rz, xz)) : bq_M l D bq_cl (bq_ty k) (bq_wM a k) yX10_judged cX10_judged 1 (some .int) { frames := 2, cells := 0, slots := 0, locals := 46 } [.ref (a 0)] x0 (some rz) xz := by
  refine bq_ofW RX10 [(0, .ref (a 0))] (by decide +kernel) rfl (Nat.le_of_ble_eq_true rfl) rfl (bq_adM a k) ?_
  intro p e s m below meth c A Q ls S hK hD hA hR hS hP hl
  have hx := S.1; have hb := S.2.1; have hml := S.2.2.1; have hown := S.2.2.2.1; have hts := S.2.2.2.2
  have hret : ∀ z, some z = some (rz, xz) → (rz, xz) = z := fun z h => (Option.some.inj h).symm
  unfold fX10_judged at h
  refine lv_aload_n hx hb dX10_judged_0 rfl (lv_at hl 0 rfl) ?_
  obtain ⟨x2, ho1, h⟩ := Option.bind_eq_some_iff.mp h
  refine bq_callVv (q0 := 0) (As := []) S hK hD hA hP hS (cX10_takesHall_k_0 ho1) hd_yX10_takesHall ml_X10_136 in_yX10_takesHall (hts _ sl_X10_X10_yX10_takesHall) ⟨rfl, rfl⟩ ⟨by decide, by decide⟩ rfl rfl rfl hl.1 rfl (Nat.le_of_ble_eq_true rfl) ⟨Nat.zero_le _, Nat.zero_le _⟩ dX10_judged_1 (fun H locs hP hS => ?_)
  refine lv_aload_n hx hb dX10_judged_4 rfl (lv_at hl 0 rfl) ?_
  obtain ⟨o3, ho3, h⟩ := Option.bind_eq_some_iff.mp h
  obtain ⟨v5, x4⟩ := o3
  replace h := un2_e h
  refine bq_callVi (q0 := 0) (As := []) S hK hD hA hP hS (cX10_wrongAt_k_0 ho3) hd_yX10_wrongAt ml_X10_139 in_yX10_wrongAt (hts _ sl_X10_X10_yX10_wrongAt) ⟨rfl, rfl⟩ ⟨by decide, by decide⟩ rfl rfl rfl hl.1 rfl (Nat.le_of_ble_eq_true rfl) ⟨Nat.zero_le _, Nat.zero_le _⟩ dX10_judged_5 (fun H locs hP hS => ?_)
  obtain ⟨e1, e2⟩ := Prod.mk.inj (hret _ h)
  exact hR _ _ _ _ _ (congrArg some e1) rfl (by rw [e2]; exact hP) hS dX10_judged_8
def fX10_isSet (p1 : Int32) (x0 : bq_S) : Option (Int32 × bq_S) :=
  (fX10_in p1.toInt64 (0 : Int64) (((1 : Int32) <<< ((x0.1 0 0) &&& 31)) - (1 : Int32)).toInt64 x0).bind (fun o1 => un2 o1 (fun v3 x2 =>
  if v3 = 0 ∨ v3 = 1 then
  some (v3, x2)
  else none))
theorem dX10_isSet_0 : decode cX10_isSet 0 = .ok (.iload_n 1, 1) := by decide +kernel
theorem dX10_isSet_1 : decode cX10_isSet 1 = .ok (.i2l, 1) := by decide +kernel
theorem dX10_isSet_2 : decode cX10_isSet 2 = .ok (.lconst 0, 1) := by decide +kernel
theorem dX10_isSet_3 : decode cX10_isSet 3 = .ok (.iconst 1, 1) := by decide +kernel
theorem dX10_isSet_4 : decode cX10_isSet 4 = .ok (.aload_n 0, 1) := by decide +kernel
theorem dX10_isSet_5 : decode cX10_isSet 5 = .ok (.getfield 62, 3) := by decide +kernel
theorem dX10_isSet_8 : decode cX10_isSet 8 = .ok (.ishl, 1) := by decide +kernel
theorem dX10_isSet_9 : decode cX10_isSet 9 = .ok (.iconst 1, 1) := by decide +kernel
theorem dX10_isSet_10 : decode cX10_isSet 10 = .ok (.isub, 1) := by decide +kernel
theorem dX10_isSet_11 : decode cX10_isSet 11 = .ok (.i2l, 1) := by decide +kernel
theorem dX10_isSet_12 : decode cX10_isSet 12 = .ok (.invokestatic 66, 3) := by decide +kernel
theorem dX10_isSet_15 : decode cX10_isSet 15 = .ok (.ireturn, 1) := by decide +kernel
set_option maxHeartbeats 4000000 in
set_option maxRecDepth 100000 in
theorem cX10_isSet_k_0 {l : Launch} {D : va_G} {a : Nat → Nat} {k : Nat → ClassId} {p1 : Int32} {x0 xz : bq_S} {rz : Int32} (h : fX10_isSet  p1 x0 = some (rz, xz)) : bq_M l D bq_cl (bq_ty k) (bq_wM a k) yX10_isSet cX10_isSet 2 (some .boolean) { frames := 1, cells := 0, slots := 0, locals := 25 } [.ref (a 0), .int p1] x0 (some rz) xz := by
  refine bq_ofW RX10 [(0, .ref (a 0)), (1, .int p1)] (by decide +kernel) rfl (Nat.le_of_ble_eq_true rfl) rfl (bq_adM a k) ?_
  intro p e s m below meth c A Q ls S hK hD hA hR hS hP hl
  have hx := S.1; have hb := S.2.1; have hml := S.2.2.1; have hown := S.2.2.2.1; have hts := S.2.2.2.2
  have hret : ∀ z, some z = some (rz, xz) → (rz, xz) = z := fun z h => (Option.some.inj h).symm
  unfold fX10_isSet at h
  refine lv_iload_n hx hb dX10_isSet_0 rfl (lv_at hl 1 rfl) ?_
  refine lv_i2l hx hb dX10_isSet_1 rfl ?_
  refine lv_lconst (v := (0 : Int64)) hx hb dX10_isSet_2 (by decide) ?_
  refine lv_iconst (v := (1 : Int32)) hx hb dX10_isSet_3 (by decide) ?_
  refine lv_aload_n hx hb dX10_isSet_4 rfl (lv_at hl 0 rfl) ?_
  refine bq_get (q0 := 0) S hK hP fl_X10_62_X10_0 rfl rfl rfl dX10_isSet_5 ?_
  refine lv_ishl hx hb dX10_isSet_8 ?_
  refine lv_iconst (v := (1 : Int32)) hx hb dX10_isSet_9 (by decide) ?_
  refine lv_isub hx hb dX10_isSet_10 ?_
  refine lv_i2l hx hb dX10_isSet_11 rfl ?_
  obtain ⟨o1, ho1, h⟩ := Option.bind_eq_some_iff.mp h
  obtain ⟨v3, x2⟩ := o1
  replace h := un2_e h
  refine bq_callSi (As := [.long _, .long _, .long _]) S hK hD hA hP hS (cX10_in_k ho1) hd_yX10_in ml_X10_66 st_yX10_in ⟨rfl, rfl⟩ ⟨by decide, by decide⟩ rfl hl.1 rfl (Nat.le_of_ble_eq_true rfl) ⟨Nat.zero_le _, Nat.zero_le _⟩ dX10_isSet_12 (fun H locs hP hS => ?_)
  obtain ⟨g4, h⟩ := bq_gp h
  obtain ⟨e1, e2⟩ := Prod.mk.inj (hret _ h)
  exact hR _ _ _ _ _ (congrArg some e1) (bq_z g4) (by rw [e2]; exact hP) hS dX10_isSet_15
def fX10_first_b7 (n : Nat) (v2 : Int32) (v : Int32 × bq_S) : Option ((Int32 × bq_S) ⊕ (Int32 × bq_S)) :=
  un2 v (fun v3 x4 =>
  if (8 : Int32) ≤ v3 then
  some (.inr (v3, x4))
  else
  if ((v2 >>> (v3 &&& 31)) &&& (1 : Int32)) = (1 : Int32) then
  if ok_i (x4.1 0 17) 8 then
  bd (bq_sI x4 10 (x4.1 0 17).toNatClampNeg v3) (fun x8 =>
  bd (bq_sI x8 0 17 ((x8.1 0 17) + (1 : Int32))) (fun x10 =>
  bd (v3 + (1 : Int32)) (fun v11 =>
  some (.inl (v11, x10)))))
  else none
  else
  bd (v3 + (1 : Int32)) (fun v7 =>
  some (.inl (v7, x4))))
def fX10_first (n : Nat) (p1 : Int32) (x0 : bq_S) : Option (bq_S) :=
  bd (bq_sI x0 0 17 (0 : Int32)) (fun x1 =>
  (wh n (fX10_first_b7 n p1) ((0 : Int32), x1)).bind (fun e12 => un2 e12 (fun v13 x14 =>
  some x14)))
theorem dX10_first_0 : decode cX10_first 0 = .ok (.aload_n 0, 1) := by decide +kernel
theorem dX10_first_1 : decode cX10_first 1 = .ok (.iconst 0, 1) := by decide +kernel
theorem dX10_first_2 : decode cX10_first 2 = .ok (.putfield 133, 3) := by decide +kernel
theorem dX10_first_5 : decode cX10_first 5 = .ok (.iconst 0, 1) := by decide +kernel
theorem dX10_first_6 : decode cX10_first 6 = .ok (.istore_n 2, 1) := by decide +kernel
theorem dX10_first_7 : decode cX10_first 7 = .ok (.iload_n 2, 1) := by decide +kernel
theorem dX10_first_8 : decode cX10_first 8 = .ok (.bipush 8, 2) := by decide +kernel
theorem dX10_first_10 : decode cX10_first 10 = .ok (.if_icmp .ge 38, 3) := by decide +kernel
theorem dX10_first_13 : decode cX10_first 13 = .ok (.iload_n 1, 1) := by decide +kernel
theorem dX10_first_14 : decode cX10_first 14 = .ok (.iload_n 2, 1) := by decide +kernel
theorem dX10_first_15 : decode cX10_first 15 = .ok (.ishr, 1) := by decide +kernel
theorem dX10_first_16 : decode cX10_first 16 = .ok (.iconst 1, 1) := by decide +kernel
theorem dX10_first_17 : decode cX10_first 17 = .ok (.iand, 1) := by decide +kernel
theorem dX10_first_18 : decode cX10_first 18 = .ok (.iconst 1, 1) := by decide +kernel
theorem dX10_first_19 : decode cX10_first 19 = .ok (.if_icmp .ne 23, 3) := by decide +kernel
theorem dX10_first_22 : decode cX10_first 22 = .ok (.aload_n 0, 1) := by decide +kernel
theorem dX10_first_23 : decode cX10_first 23 = .ok (.getfield 37, 3) := by decide +kernel
theorem dX10_first_26 : decode cX10_first 26 = .ok (.aload_n 0, 1) := by decide +kernel
theorem dX10_first_27 : decode cX10_first 27 = .ok (.getfield 133, 3) := by decide +kernel
theorem dX10_first_30 : decode cX10_first 30 = .ok (.iload_n 2, 1) := by decide +kernel
theorem dX10_first_31 : decode cX10_first 31 = .ok (.iastore, 1) := by decide +kernel
theorem dX10_first_32 : decode cX10_first 32 = .ok (.aload_n 0, 1) := by decide +kernel
theorem dX10_first_33 : decode cX10_first 33 = .ok (.dup, 1) := by decide +kernel
theorem dX10_first_34 : decode cX10_first 34 = .ok (.getfield 133, 3) := by decide +kernel
theorem dX10_first_37 : decode cX10_first 37 = .ok (.iconst 1, 1) := by decide +kernel
theorem dX10_first_38 : decode cX10_first 38 = .ok (.iadd, 1) := by decide +kernel
theorem dX10_first_39 : decode cX10_first 39 = .ok (.putfield 133, 3) := by decide +kernel
theorem dX10_first_42 : decode cX10_first 42 = .ok (.iinc 2 1, 3) := by decide +kernel
theorem dX10_first_45 : decode cX10_first 45 = .ok (.goto (-38), 3) := by decide +kernel
theorem dX10_first_48 : decode cX10_first 48 = .ok (.return_, 1) := by decide +kernel
set_option maxHeartbeats 4000000 in
set_option maxRecDepth 100000 in
theorem cX10_first_k_0 {l : Launch} {D : va_G} {a : Nat → Nat} {k : Nat → ClassId} {n : Nat} {p1 : Int32} {x0 xz : bq_S} (h : fX10_first n p1 x0 = some xz) : bq_M l D bq_cl (bq_ty k) (bq_wM a k) yX10_first cX10_first 3 none { frames := 0, cells := 0, slots := 0, locals := 0 } [.ref (a 0), .int p1] x0 none xz := by
  refine bq_ofWv RX10 [(0, .ref (a 0)), (1, .int p1)] (by decide +kernel) rfl (Nat.le_of_ble_eq_true rfl) rfl (bq_adM a k) ?_
  intro p e s m below meth c A Q ls S hK hD hA hR hS hP hl
  have hx := S.1; have hb := S.2.1; have hml := S.2.2.1; have hown := S.2.2.2.1; have hts := S.2.2.2.2
  have hret : ∀ z, some z = some xz → xz = z := fun z h => (Option.some.inj h).symm
  unfold fX10_first at h
  refine lv_aload_n hx hb dX10_first_0 rfl (lv_at hl 0 rfl) ?_
  refine lv_iconst (v := (0 : Int32)) hx hb dX10_first_1 (by decide) ?_
  obtain ⟨x1, hx1, h⟩ := bq_b h
  refine bq_put (x1 := x1) (q0 := 0) (ty := .int) S hK hD hP hS fl_X10_133_X10_17 bt_X10 rfl (by decide +kernel) rfl rfl (Nat.le_of_ble_eq_true rfl) rfl rfl (by rw [hx1]; rfl) dX10_first_2 (fun H locs hP hS => ?_)
  refine lv_iconst (v := (0 : Int32)) hx hb dX10_first_5 (by decide) ?_
  refine lv_istore_n (lv' := [(2, .int (0 : Int32)), (0, .ref (a 0)), (1, .int p1)]) hx hb dX10_first_6 rfl hl (by decide) rfl (fun ls hl => ?_)
  have hl7 : ∀ (v2 : Int32) (kf : Nat) (v3 : Int32) (x4 : bq_S) (eo : Int32 × bq_S) (H : Heap) (locs : List Loc) (ls : Array Slot), wh kf (fX10_first_b7 n v2) (v3, x4) = some eo → va_P D bq_cl (bq_wM a k x4) H → va_S A s.heap H locs → lv_has ls 3 [(0, .ref (a 0)), (1, .int v2), (2, .int v3)] → (∀ (H : Heap) (locs : List Loc) (ls : Array Slot) (v13 : Int32) (x14 : bq_S), eo = (v13, x14) → va_P D bq_cl (bq_wM a k x14) H → va_S A s.heap H locs → lv_has ls 3 [] → W p l e { frames := 0, cells := 0, slots := 0, locals := 0 } s m [.ref (a 0), .int p1].toArray below meth c H locs 0 0 Q (F0 m 48 ls [])) → W p l e { frames := 0, cells := 0, slots := 0, locals := 0 } s m [.ref (a 0), .int p1].toArray below meth c H locs 0 0 Q (F0 m 7 ls []) := by
    intro v2 kf
    induction kf with
    | zero => intro v3 x4 eo H locs ls h; cases h
    | succ kf ih =>
      intro v3 x4 eo H locs ls h hP hS hl kx
      obtain ⟨out, h, hw⟩ := wh_s h
      unfold fX10_first_b7 at h
      replace h := un2_e h
      refine lv_iload_n hx hb dX10_first_7 rfl (lv_at hl 2 rfl) ?_
      refine lv_bipush (v := (8 : Int32)) hx hb dX10_first_8 (by decide) ?_
      refine lv_icmp_ge (tgt := 48) hx hb dX10_first_10 (by decide) (fun c5 => ?_) (fun c5 => ?_)
      · replace h := (if_pos c5).symm.trans h
        cases h
        exact kx _ _ _ _ _ (Option.some.inj hw).symm hP hS (lv_sub hl [] rfl)
      · replace h := (if_neg c5).symm.trans h
        refine lv_iload_n hx hb dX10_first_13 rfl (lv_at hl 1 rfl) ?_
        refine lv_iload_n hx hb dX10_first_14 rfl (lv_at hl 2 rfl) ?_
        refine lv_ishr hx hb dX10_first_15 ?_
        refine lv_iconst (v := (1 : Int32)) hx hb dX10_first_16 (by decide) ?_
        refine lv_iand hx hb dX10_first_17 ?_
        refine lv_iconst (v := (1 : Int32)) hx hb dX10_first_18 (by decide) ?_
        refine lv_icmp_ne (tgt := 42) hx hb dX10_first_19 (by decide) (fun c6 => ?_) (fun c6 => ?_)
        · replace h := (if_neg c6).symm.trans h
          obtain ⟨v7, hv7, h⟩ := bq_b h
          refine lv_iinc (v := v7) (lv' := [(2, .int v7), (0, .ref (a 0)), (1, .int v2)]) hx hb dX10_first_42 hl (k := 2) rfl (by rw [hv7]; rfl) (by decide) rfl (fun ls hl => ?_)
          refine lv_goto (tgt := 7) hx hb dX10_first_45 (by decide) ?_
          cases h
          exact ih _ _ _ _ _ _ hw hP hS (lv_sub hl [1, 2, 0] rfl) kx
        · replace h := (if_pos c6).symm.trans h
          refine lv_aload_n hx hb dX10_first_22 rfl (lv_at hl 0 rfl) ?_
          refine bq_get (q0 := 0) S hK hP fl_X10_37_X10_16 rfl rfl rfl dX10_first_23 ?_
          refine lv_aload_n hx hb dX10_first_26 rfl (lv_at hl 0 rfl) ?_
          refine bq_get (q0 := 0) S hK hP fl_X10_133_X10_17 rfl rfl rfl dX10_first_27 ?_
          refine lv_iload_n hx hb dX10_first_30 rfl (lv_at hl 2 rfl) ?_
          obtain ⟨g9, h⟩ := bq_gd h
          obtain ⟨x8, hx8, h⟩ := bq_b h
          refine bq_iast (x1 := x8) (q0 := 10) (t0 := 0) S hK hD hP hS rfl rfl g9 (by rw [hx8]; rfl) dX10_first_31 (fun H locs hP hS => ?_)
          refine lv_aload_n hx hb dX10_first_32 rfl (lv_at hl 0 rfl) ?_
          refine lv_dup hx hb dX10_first_33 rfl ?_
          refine bq_get (q0 := 0) S hK hP fl_X10_133_X10_17 rfl rfl rfl dX10_first_34 ?_
          refine lv_iconst (v := (1 : Int32)) hx hb dX10_first_37 (by decide) ?_
          refine lv_iadd hx hb dX10_first_38 ?_
          obtain ⟨x10, hx10, h⟩ := bq_b h
          refine bq_put (x1 := x10) (q0 := 0) (ty := .int) S hK hD hP hS fl_X10_133_X10_17 bt_X10 rfl (by decide +kernel) rfl rfl (Nat.le_of_ble_eq_true rfl) rfl rfl (by rw [hx10]; rfl) dX10_first_39 (fun H locs hP hS => ?_)
          obtain ⟨v11, hv11, h⟩ := bq_b h
          refine lv_iinc (v := v11) (lv' := [(2, .int v11), (0, .ref (a 0)), (1, .int v2)]) hx hb dX10_first_42 hl (k := 2) rfl (by rw [hv11]; rfl) (by decide) rfl (fun ls hl => ?_)
          refine lv_goto (tgt := 7) hx hb dX10_first_45 (by decide) ?_
          cases h
          exact ih _ _ _ _ _ _ hw hP hS (lv_sub hl [1, 2, 0] rfl) kx
  obtain ⟨e12, he12, h⟩ := Option.bind_eq_some_iff.mp h
  refine hl7 _ n _ _ e12 _ _ _ he12 hP hS (lv_sub hl [1, 2, 0] rfl) (fun H locs ls v13 x14 hz hP hS hl => ?_)
  subst hz
  replace h := un2_e h
  have e2 := hret _ h
  exact hR _ _ _ _ rfl (by rw [e2]; exact hP) hS dX10_first_48
def fX10_next_b7 (n : Nat) (v : Int32 × bq_S) : Option ((Int32 × bq_S) ⊕ (Int32 × bq_S)) :=
  un2 v (fun v2 x3 =>
  if v2 < 0 then
  some (.inr (v2, x3))
  else
  if ok_i v2 8 then
  if ok_i (v2 + (1 : Int32)) 8 then
  if (x3.1 10 v2.toNatClampNeg) ≤ (x3.1 10 (v2 + (1 : Int32)).toNatClampNeg) then
  some (.inr (v2, x3))
  else
  bd (v2 + (-1 : Int32)) (fun v8 =>
  some (.inl (v8, x3)))
  else none
  else none)
def fX10_next_b47 (n : Nat) (v16 : Int32) (v : Int32 × bq_S) : Option ((Int32 × bq_S) ⊕ (Int32 × bq_S)) :=
  un2 v (fun v17 x18 =>
  if ok_i v17 8 then
  if ok_i v16 8 then
  if (x18.1 10 v16.toNatClampNeg) ≤ (x18.1 10 v17.toNatClampNeg) then
  some (.inr (v17, x18))
  else
  bd (v17 + (-1 : Int32)) (fun v22 =>
  some (.inl (v22, x18)))
  else none
  else none)
def fX10_next_b107 (n : Nat) (v : Int32 × Int32 × bq_S) : Option ((Int32 × Int32 × bq_S) ⊕ (Int32 × Int32 × bq_S)) :=
  un3 v (fun v35 v36 x37 =>
  if v36 ≤ v35 then
  some (.inr (v35, v36, x37))
  else
  if ok_i v35 8 then
  bd (x37.1 10 v35.toNatClampNeg) (fun v40 =>
  if ok_i v36 8 then
  if ok_i v35 8 then
  bd (bq_sI x37 10 v35.toNatClampNeg (x37.1 10 v36.toNatClampNeg)) (fun x42 =>
  if ok_i v36 8 then
  bd (bq_sI x42 10 v36.toNatClampNeg v40) (fun x44 =>
  bd (v35 + (1 : Int32)) (fun v46 =>
  bd (v36 + (-1 : Int32)) (fun v47 =>
  some (.inl (v46, v47, x44)))))
  else none)
  else none
  else none)
  else none)
def fX10_next_j34 (n : Nat) (v12 : Int32) (x13 : bq_S) : Option (Int32 × bq_S) :=
  if 0 ≤ v12 then
  bd ((x13.1 0 17) - (1 : Int32)) (fun v15 =>
  (wh n (fX10_next_b47 n v12) (v15, x13)).bind (fun e23 => un2 e23 (fun v24 x25 =>
  if ok_i v12 8 then
  bd (x25.1 10 v12.toNatClampNeg) (fun v27 =>
  if ok_i v24 8 then
  if ok_i v12 8 then
  bd (bq_sI x25 10 v12.toNatClampNeg (x25.1 10 v24.toNatClampNeg)) (fun x29 =>
  if ok_i v24 8 then
  bd (bq_sI x29 10 v24.toNatClampNeg v27) (fun x31 =>
  bd (v12 + (1 : Int32)) (fun v33 =>
  bd ((x31.1 0 17) - (1 : Int32)) (fun v34 =>
  (wh n (fX10_next_b107 n) (v33, v34, x31)).bind (fun e48 => un3 e48 (fun v49 v50 x51 =>
  some ((1 : Int32), x51))))))
  else none)
  else none
  else none)
  else none)))
  else
  some ((0 : Int32), x13)
def fX10_next (n : Nat) (x0 : bq_S) : Option (Int32 × bq_S) :=
  bd ((x0.1 0 17) - (2 : Int32)) (fun v1 =>
  (wh n (fX10_next_b7 n) (v1, x0)).bind (fun e9 => un2 e9 (fun v10 x11 =>
  fX10_next_j34 n v10 x11)))
theorem dX10_next_0 : decode cX10_next 0 = .ok (.aload_n 0, 1) := by decide +kernel
theorem dX10_next_1 : decode cX10_next 1 = .ok (.getfield 133, 3) := by decide +kernel
theorem dX10_next_4 : decode cX10_next 4 = .ok (.iconst 2, 1) := by decide +kernel
theorem dX10_next_5 : decode cX10_next 5 = .ok (.isub, 1) := by decide +kernel
theorem dX10_next_6 : decode cX10_next 6 = .ok (.istore_n 1, 1) := by decide +kernel
theorem dX10_next_7 : decode cX10_next 7 = .ok (.iload_n 1, 1) := by decide +kernel
theorem dX10_next_8 : decode cX10_next 8 = .ok (.ifCond .lt 26, 3) := by decide +kernel
theorem dX10_next_11 : decode cX10_next 11 = .ok (.aload_n 0, 1) := by decide +kernel
theorem dX10_next_12 : decode cX10_next 12 = .ok (.getfield 37, 3) := by decide +kernel
theorem dX10_next_15 : decode cX10_next 15 = .ok (.iload_n 1, 1) := by decide +kernel
theorem dX10_next_16 : decode cX10_next 16 = .ok (.iaload, 1) := by decide +kernel
theorem dX10_next_17 : decode cX10_next 17 = .ok (.aload_n 0, 1) := by decide +kernel
theorem dX10_next_18 : decode cX10_next 18 = .ok (.getfield 37, 3) := by decide +kernel
theorem dX10_next_21 : decode cX10_next 21 = .ok (.iload_n 1, 1) := by decide +kernel
theorem dX10_next_22 : decode cX10_next 22 = .ok (.iconst 1, 1) := by decide +kernel
theorem dX10_next_23 : decode cX10_next 23 = .ok (.iadd, 1) := by decide +kernel
theorem dX10_next_24 : decode cX10_next 24 = .ok (.iaload, 1) := by decide +kernel
theorem dX10_next_25 : decode cX10_next 25 = .ok (.if_icmp .le 9, 3) := by decide +kernel
theorem dX10_next_28 : decode cX10_next 28 = .ok (.iinc 1 (-1), 3) := by decide +kernel
theorem dX10_next_31 : decode cX10_next 31 = .ok (.goto (-24), 3) := by decide +kernel
theorem dX10_next_34 : decode cX10_next 34 = .ok (.iload_n 1, 1) := by decide +kernel
theorem dX10_next_35 : decode cX10_next 35 = .ok (.ifCond .ge 5, 3) := by decide +kernel
theorem dX10_next_38 : decode cX10_next 38 = .ok (.iconst 0, 1) := by decide +kernel
theorem dX10_next_39 : decode cX10_next 39 = .ok (.ireturn, 1) := by decide +kernel
theorem dX10_next_40 : decode cX10_next 40 = .ok (.aload_n 0, 1) := by decide +kernel
theorem dX10_next_41 : decode cX10_next 41 = .ok (.getfield 133, 3) := by decide +kernel
theorem dX10_next_44 : decode cX10_next 44 = .ok (.iconst 1, 1) := by decide +kernel
theorem dX10_next_45 : decode cX10_next 45 = .ok (.isub, 1) := by decide +kernel
theorem dX10_next_46 : decode cX10_next 46 = .ok (.istore_n 2, 1) := by decide +kernel
theorem dX10_next_47 : decode cX10_next 47 = .ok (.aload_n 0, 1) := by decide +kernel
theorem dX10_next_48 : decode cX10_next 48 = .ok (.getfield 37, 3) := by decide +kernel
theorem dX10_next_51 : decode cX10_next 51 = .ok (.iload_n 2, 1) := by decide +kernel
theorem dX10_next_52 : decode cX10_next 52 = .ok (.iaload, 1) := by decide +kernel
theorem dX10_next_53 : decode cX10_next 53 = .ok (.aload_n 0, 1) := by decide +kernel
theorem dX10_next_54 : decode cX10_next 54 = .ok (.getfield 37, 3) := by decide +kernel
theorem dX10_next_57 : decode cX10_next 57 = .ok (.iload_n 1, 1) := by decide +kernel
theorem dX10_next_58 : decode cX10_next 58 = .ok (.iaload, 1) := by decide +kernel
theorem dX10_next_59 : decode cX10_next 59 = .ok (.if_icmp .ge 9, 3) := by decide +kernel
theorem dX10_next_62 : decode cX10_next 62 = .ok (.iinc 2 (-1), 3) := by decide +kernel
theorem dX10_next_65 : decode cX10_next 65 = .ok (.goto (-18), 3) := by decide +kernel
theorem dX10_next_68 : decode cX10_next 68 = .ok (.aload_n 0, 1) := by decide +kernel
theorem dX10_next_69 : decode cX10_next 69 = .ok (.getfield 37, 3) := by decide +kernel
theorem dX10_next_72 : decode cX10_next 72 = .ok (.iload_n 1, 1) := by decide +kernel
theorem dX10_next_73 : decode cX10_next 73 = .ok (.iaload, 1) := by decide +kernel
theorem dX10_next_74 : decode cX10_next 74 = .ok (.istore_n 3, 1) := by decide +kernel
theorem dX10_next_75 : decode cX10_next 75 = .ok (.aload_n 0, 1) := by decide +kernel
theorem dX10_next_76 : decode cX10_next 76 = .ok (.getfield 37, 3) := by decide +kernel
theorem dX10_next_79 : decode cX10_next 79 = .ok (.iload_n 1, 1) := by decide +kernel
theorem dX10_next_80 : decode cX10_next 80 = .ok (.aload_n 0, 1) := by decide +kernel
theorem dX10_next_81 : decode cX10_next 81 = .ok (.getfield 37, 3) := by decide +kernel
theorem dX10_next_84 : decode cX10_next 84 = .ok (.iload_n 2, 1) := by decide +kernel
theorem dX10_next_85 : decode cX10_next 85 = .ok (.iaload, 1) := by decide +kernel
theorem dX10_next_86 : decode cX10_next 86 = .ok (.iastore, 1) := by decide +kernel
theorem dX10_next_87 : decode cX10_next 87 = .ok (.aload_n 0, 1) := by decide +kernel
theorem dX10_next_88 : decode cX10_next 88 = .ok (.getfield 37, 3) := by decide +kernel
theorem dX10_next_91 : decode cX10_next 91 = .ok (.iload_n 2, 1) := by decide +kernel
theorem dX10_next_92 : decode cX10_next 92 = .ok (.iload_n 3, 1) := by decide +kernel
theorem dX10_next_93 : decode cX10_next 93 = .ok (.iastore, 1) := by decide +kernel
theorem dX10_next_94 : decode cX10_next 94 = .ok (.iload_n 1, 1) := by decide +kernel
theorem dX10_next_95 : decode cX10_next 95 = .ok (.iconst 1, 1) := by decide +kernel
theorem dX10_next_96 : decode cX10_next 96 = .ok (.iadd, 1) := by decide +kernel
theorem dX10_next_97 : decode cX10_next 97 = .ok (.istore 4, 2) := by decide +kernel
theorem dX10_next_99 : decode cX10_next 99 = .ok (.aload_n 0, 1) := by decide +kernel
theorem dX10_next_100 : decode cX10_next 100 = .ok (.getfield 133, 3) := by decide +kernel
theorem dX10_next_103 : decode cX10_next 103 = .ok (.iconst 1, 1) := by decide +kernel
theorem dX10_next_104 : decode cX10_next 104 = .ok (.isub, 1) := by decide +kernel
theorem dX10_next_105 : decode cX10_next 105 = .ok (.istore 5, 2) := by decide +kernel
theorem dX10_next_107 : decode cX10_next 107 = .ok (.iload 4, 2) := by decide +kernel
theorem dX10_next_109 : decode cX10_next 109 = .ok (.iload 5, 2) := by decide +kernel
theorem dX10_next_111 : decode cX10_next 111 = .ok (.if_icmp .ge 42, 3) := by decide +kernel
theorem dX10_next_114 : decode cX10_next 114 = .ok (.aload_n 0, 1) := by decide +kernel
theorem dX10_next_115 : decode cX10_next 115 = .ok (.getfield 37, 3) := by decide +kernel
theorem dX10_next_118 : decode cX10_next 118 = .ok (.iload 4, 2) := by decide +kernel
theorem dX10_next_120 : decode cX10_next 120 = .ok (.iaload, 1) := by decide +kernel
theorem dX10_next_121 : decode cX10_next 121 = .ok (.istore_n 3, 1) := by decide +kernel
theorem dX10_next_122 : decode cX10_next 122 = .ok (.aload_n 0, 1) := by decide +kernel
theorem dX10_next_123 : decode cX10_next 123 = .ok (.getfield 37, 3) := by decide +kernel
theorem dX10_next_126 : decode cX10_next 126 = .ok (.iload 4, 2) := by decide +kernel
theorem dX10_next_128 : decode cX10_next 128 = .ok (.aload_n 0, 1) := by decide +kernel
theorem dX10_next_129 : decode cX10_next 129 = .ok (.getfield 37, 3) := by decide +kernel
theorem dX10_next_132 : decode cX10_next 132 = .ok (.iload 5, 2) := by decide +kernel
theorem dX10_next_134 : decode cX10_next 134 = .ok (.iaload, 1) := by decide +kernel
theorem dX10_next_135 : decode cX10_next 135 = .ok (.iastore, 1) := by decide +kernel
theorem dX10_next_136 : decode cX10_next 136 = .ok (.aload_n 0, 1) := by decide +kernel
theorem dX10_next_137 : decode cX10_next 137 = .ok (.getfield 37, 3) := by decide +kernel
theorem dX10_next_140 : decode cX10_next 140 = .ok (.iload 5, 2) := by decide +kernel
theorem dX10_next_142 : decode cX10_next 142 = .ok (.iload_n 3, 1) := by decide +kernel
theorem dX10_next_143 : decode cX10_next 143 = .ok (.iastore, 1) := by decide +kernel
theorem dX10_next_144 : decode cX10_next 144 = .ok (.iinc 4 1, 3) := by decide +kernel
theorem dX10_next_147 : decode cX10_next 147 = .ok (.iinc 5 (-1), 3) := by decide +kernel
theorem dX10_next_150 : decode cX10_next 150 = .ok (.goto (-43), 3) := by decide +kernel
theorem dX10_next_153 : decode cX10_next 153 = .ok (.iconst 1, 1) := by decide +kernel
theorem dX10_next_154 : decode cX10_next 154 = .ok (.ireturn, 1) := by decide +kernel
set_option maxHeartbeats 4000000 in
set_option maxRecDepth 100000 in
theorem cX10_next_k_0 {l : Launch} {D : va_G} {a : Nat → Nat} {k : Nat → ClassId} {n : Nat} {x0 xz : bq_S} {rz : Int32} (h : fX10_next n  x0 = some (rz, xz)) : bq_M l D bq_cl (bq_ty k) (bq_wM a k) yX10_next cX10_next 6 (some .boolean) { frames := 0, cells := 0, slots := 0, locals := 0 } [.ref (a 0)] x0 (some rz) xz := by
  refine bq_ofW RX10 [(0, .ref (a 0))] (by decide +kernel) rfl (Nat.le_of_ble_eq_true rfl) rfl (bq_adM a k) ?_
  intro p e s m below meth c A Q ls S hK hD hA hR hS hP hl
  have hx := S.1; have hb := S.2.1; have hml := S.2.2.1; have hown := S.2.2.2.1; have hts := S.2.2.2.2
  have hret : ∀ z, some z = some (rz, xz) → (rz, xz) = z := fun z h => (Option.some.inj h).symm
  unfold fX10_next at h
  have hj34 : ∀ (v12 : Int32) (x13 : bq_S) (H : Heap) (locs : List Loc) (ls : Array Slot), fX10_next_j34 n v12 x13 = some (rz, xz) → va_P D bq_cl (bq_wM a k x13) H → va_S A s.heap H locs → lv_has ls 6 [(0, .ref (a 0)), (1, .int v12)] → W p l e { frames := 0, cells := 0, slots := 0, locals := 0 } s m [.ref (a 0)].toArray below meth c H locs 0 0 Q (F0 m 34 ls []) := by
    intro v12 x13 H locs ls h hP hS hl
    unfold fX10_next_j34 at h
    refine lv_iload_n hx hb dX10_next_34 rfl (lv_at hl 1 rfl) ?_
    refine lv_if_ge (tgt := 40) hx hb dX10_next_35 (by decide) (fun c14 => ?_) (fun c14 => ?_)
    · replace h := (if_pos c14).symm.trans h
      refine lv_aload_n hx hb dX10_next_40 rfl (lv_at hl 0 rfl) ?_
      refine bq_get (q0 := 0) S hK hP fl_X10_133_X10_17 rfl rfl rfl dX10_next_41 ?_
      refine lv_iconst (v := (1 : Int32)) hx hb dX10_next_44 (by decide) ?_
      refine lv_isub hx hb dX10_next_45 ?_
      refine lv_topi (fun v15 hv15 => ?_)
      replace h := bq_bv h hv15
      refine lv_istore_n (lv' := [(2, .int v15), (0, .ref (a 0)), (1, .int v12)]) hx hb dX10_next_46 rfl hl (by decide) rfl (fun ls hl => ?_)
      have hl47 : ∀ (v16 : Int32) (kf : Nat) (v17 : Int32) (x18 : bq_S) (eo : Int32 × bq_S) (H : Heap) (locs : List Loc) (ls : Array Slot), wh kf (fX10_next_b47 n v16) (v17, x18) = some eo → va_P D bq_cl (bq_wM a k x18) H → va_S A s.heap H locs → lv_has ls 6 [(0, .ref (a 0)), (1, .int v16), (2, .int v17)] → (∀ (H : Heap) (locs : List Loc) (ls : Array Slot) (v24 : Int32) (x25 : bq_S), eo = (v24, x25) → va_P D bq_cl (bq_wM a k x25) H → va_S A s.heap H locs → lv_has ls 6 [(0, .ref (a 0)), (1, .int v16), (2, .int v24)] → W p l e { frames := 0, cells := 0, slots := 0, locals := 0 } s m [.ref (a 0)].toArray below meth c H locs 0 0 Q (F0 m 68 ls [])) → W p l e { frames := 0, cells := 0, slots := 0, locals := 0 } s m [.ref (a 0)].toArray below meth c H locs 0 0 Q (F0 m 47 ls []) := by
        intro v16 kf
        induction kf with
        | zero => intro v17 x18 eo H locs ls h; cases h
        | succ kf ih =>
          intro v17 x18 eo H locs ls h hP hS hl kx
          obtain ⟨out, h, hw⟩ := wh_s h
          unfold fX10_next_b47 at h
          replace h := un2_e h
          refine lv_aload_n hx hb dX10_next_47 rfl (lv_at hl 0 rfl) ?_
          refine bq_get (q0 := 0) S hK hP fl_X10_37_X10_16 rfl rfl rfl dX10_next_48 ?_
          refine lv_iload_n hx hb dX10_next_51 rfl (lv_at hl 2 rfl) ?_
          obtain ⟨g19, h⟩ := bq_gd h
          refine va_iald (D := D) hx hb hK hP 10 0 rfl rfl g19 dX10_next_52 ?_
          refine lv_aload_n hx hb dX10_next_53 rfl (lv_at hl 0 rfl) ?_
          refine bq_get (q0 := 0) S hK hP fl_X10_37_X10_16 rfl rfl rfl dX10_next_54 ?_
          refine lv_iload_n hx hb dX10_next_57 rfl (lv_at hl 1 rfl) ?_
          obtain ⟨g20, h⟩ := bq_gd h
          refine va_iald (D := D) hx hb hK hP 10 0 rfl rfl g20 dX10_next_58 ?_
          refine lv_icmp_ge (tgt := 68) hx hb dX10_next_59 (by decide) (fun c21 => ?_) (fun c21 => ?_)
          · replace h := (if_pos c21).symm.trans h
            cases h
            exact kx _ _ _ _ _ (Option.some.inj hw).symm hP hS (lv_sub hl [0, 1, 2] rfl)
          · replace h := (if_neg c21).symm.trans h
            obtain ⟨v22, hv22, h⟩ := bq_b h
            refine lv_iinc (v := v22) (lv' := [(2, .int v22), (0, .ref (a 0)), (1, .int v16)]) hx hb dX10_next_62 hl (k := 2) rfl (by rw [hv22]; rfl) (by decide) rfl (fun ls hl => ?_)
            refine lv_goto (tgt := 47) hx hb dX10_next_65 (by decide) ?_
            cases h
            exact ih _ _ _ _ _ _ hw hP hS (lv_sub hl [1, 2, 0] rfl) kx
      obtain ⟨e23, he23, h⟩ := Option.bind_eq_some_iff.mp h
      refine hl47 _ n _ _ e23 _ _ _ he23 hP hS (lv_sub hl [1, 2, 0] rfl) (fun H locs ls v24 x25 hz hP hS hl => ?_)
      subst hz
      replace h := un2_e h
      refine lv_aload_n hx hb dX10_next_68 rfl (lv_at hl 0 rfl) ?_
      refine bq_get (q0 := 0) S hK hP fl_X10_37_X10_16 rfl rfl rfl dX10_next_69 ?_
      refine lv_iload_n hx hb dX10_next_72 rfl (lv_at hl 1 rfl) ?_
      obtain ⟨g26, h⟩ := bq_gd h
      refine va_iald (D := D) hx hb hK hP 10 0 rfl rfl g26 dX10_next_73 ?_
      refine lv_topi (fun v27 hv27 => ?_)
      replace h := bq_bv h hv27
      refine lv_istore_n (lv' := [(3, .int v27), (0, .ref (a 0)), (1, .int v12), (2, .int v24)]) hx hb dX10_next_74 rfl hl (by decide) rfl (fun ls hl => ?_)
      refine lv_aload_n hx hb dX10_next_75 rfl (lv_at hl 1 rfl) ?_
      refine bq_get (q0 := 0) S hK hP fl_X10_37_X10_16 rfl rfl rfl dX10_next_76 ?_
      refine lv_iload_n hx hb dX10_next_79 rfl (lv_at hl 2 rfl) ?_
      refine lv_aload_n hx hb dX10_next_80 rfl (lv_at hl 1 rfl) ?_
      refine bq_get (q0 := 0) S hK hP fl_X10_37_X10_16 rfl rfl rfl dX10_next_81 ?_
      refine lv_iload_n hx hb dX10_next_84 rfl (lv_at hl 3 rfl) ?_
      obtain ⟨g28, h⟩ := bq_gd h
      refine va_iald (D := D) hx hb hK hP 10 0 rfl rfl g28 dX10_next_85 ?_
      obtain ⟨g30, h⟩ := bq_gd h
      obtain ⟨x29, hx29, h⟩ := bq_b h
      refine bq_iast (x1 := x29) (q0 := 10) (t0 := 0) S hK hD hP hS rfl rfl g30 (by rw [hx29]; rfl) dX10_next_86 (fun H locs hP hS => ?_)
      refine lv_aload_n hx hb dX10_next_87 rfl (lv_at hl 1 rfl) ?_
      refine bq_get (q0 := 0) S hK hP fl_X10_37_X10_16 rfl rfl rfl dX10_next_88 ?_
      refine lv_iload_n hx hb dX10_next_91 rfl (lv_at hl 3 rfl) ?_
      refine lv_iload_n hx hb dX10_next_92 rfl (lv_at hl 0 rfl) ?_
      obtain ⟨g32, h⟩ := bq_gd h
      obtain ⟨x31, hx31, h⟩ := bq_b h
      refine bq_iast (x1 := x31) (q0 := 10) (t0 := 0) S hK hD hP hS rfl rfl g32 (by rw [hx31]; rfl) dX10_next_93 (fun H locs hP hS => ?_)
      refine lv_iload_n hx hb dX10_next_94 rfl (lv_at hl 2 rfl) ?_
      refine lv_iconst (v := (1 : Int32)) hx hb dX10_next_95 (by decide) ?_
      refine lv_iadd hx hb dX10_next_96 ?_
      refine lv_topi (fun v33 hv33 => ?_)
      replace h := bq_bv h hv33
      refine lv_istore (lv' := [(4, .int v33), (3, .int v27), (0, .ref (a 0)), (1, .int v12), (2, .int v24)]) hx hb dX10_next_97 hl (by decide) rfl (fun ls hl => ?_)
      refine lv_aload_n hx hb dX10_next_99 rfl (lv_at hl 2 rfl) ?_
      refine bq_get (q0 := 0) S hK hP fl_X10_133_X10_17 rfl rfl rfl dX10_next_100 ?_
      refine lv_iconst (v := (1 : Int32)) hx hb dX10_next_103 (by decide) ?_
      refine lv_isub hx hb dX10_next_104 ?_
      refine lv_topi (fun v34 hv34 => ?_)
      replace h := bq_bv h hv34
      refine lv_istore (lv' := [(5, .int v34), (4, .int v33), (3, .int v27), (0, .ref (a 0)), (1, .int v12), (2, .int v24)]) hx hb dX10_next_105 hl (by decide) rfl (fun ls hl => ?_)
      have hl107 : ∀ (kf : Nat) (v35 : Int32) (v36 : Int32) (x37 : bq_S) (eo : Int32 × Int32 × bq_S) (H : Heap) (locs : List Loc) (ls : Array Slot), wh kf (fX10_next_b107 n ) (v35, v36, x37) = some eo → va_P D bq_cl (bq_wM a k x37) H → va_S A s.heap H locs → lv_has ls 6 [(0, .ref (a 0)), (4, .int v35), (5, .int v36)] → (∀ (H : Heap) (locs : List Loc) (ls : Array Slot) (v49 : Int32) (v50 : Int32) (x51 : bq_S), eo = (v49, v50, x51) → va_P D bq_cl (bq_wM a k x51) H → va_S A s.heap H locs → lv_has ls 6 [] → W p l e { frames := 0, cells := 0, slots := 0, locals := 0 } s m [.ref (a 0)].toArray below meth c H locs 0 0 Q (F0 m 153 ls [])) → W p l e { frames := 0, cells := 0, slots := 0, locals := 0 } s m [.ref (a 0)].toArray below meth c H locs 0 0 Q (F0 m 107 ls []) := by
        intro  kf
        induction kf with
        | zero => intro v35 v36 x37 eo H locs ls h; cases h
        | succ kf ih =>
          intro v35 v36 x37 eo H locs ls h hP hS hl kx
          obtain ⟨out, h, hw⟩ := wh_s h
          unfold fX10_next_b107 at h
          replace h := un3_e h
          refine lv_iload hx hb dX10_next_107 (lv_at hl 1 rfl) ?_
          refine lv_iload hx hb dX10_next_109 (lv_at hl 2 rfl) ?_
          refine lv_icmp_ge (tgt := 153) hx hb dX10_next_111 (by decide) (fun c38 => ?_) (fun c38 => ?_)
          · replace h := (if_pos c38).symm.trans h
            cases h
            exact kx _ _ _ _ _ _ (Option.some.inj hw).symm hP hS (lv_sub hl [] rfl)
          · replace h := (if_neg c38).symm.trans h
            refine lv_aload_n hx hb dX10_next_114 rfl (lv_at hl 0 rfl) ?_
            refine bq_get (q0 := 0) S hK hP fl_X10_37_X10_16 rfl rfl rfl dX10_next_115 ?_
            refine lv_iload hx hb dX10_next_118 (lv_at hl 1 rfl) ?_
            obtain ⟨g39, h⟩ := bq_gd h
            refine va_iald (D := D) hx hb hK hP 10 0 rfl rfl g39 dX10_next_120 ?_
            refine lv_topi (fun v40 hv40 => ?_)
            replace h := bq_bv h hv40
            refine lv_istore_n (lv' := [(3, .int v40), (0, .ref (a 0)), (4, .int v35), (5, .int v36)]) hx hb dX10_next_121 rfl hl (by decide) rfl (fun ls hl => ?_)
            refine lv_aload_n hx hb dX10_next_122 rfl (lv_at hl 1 rfl) ?_
            refine bq_get (q0 := 0) S hK hP fl_X10_37_X10_16 rfl rfl rfl dX10_next_123 ?_
            refine lv_iload hx hb dX10_next_126 (lv_at hl 2 rfl) ?_
            refine lv_aload_n hx hb dX10_next_128 rfl (lv_at hl 1 rfl) ?_
            refine bq_get (q0 := 0) S hK hP fl_X10_37_X10_16 rfl rfl rfl dX10_next_129 ?_
            refine lv_iload hx hb dX10_next_132 (lv_at hl 3 rfl) ?_
            obtain ⟨g41, h⟩ := bq_gd h
            refine va_iald (D := D) hx hb hK hP 10 0 rfl rfl g41 dX10_next_134 ?_
            obtain ⟨g43, h⟩ := bq_gd h
            obtain ⟨x42, hx42, h⟩ := bq_b h
            refine bq_iast (x1 := x42) (q0 := 10) (t0 := 0) S hK hD hP hS rfl rfl g43 (by rw [hx42]; rfl) dX10_next_135 (fun H locs hP hS => ?_)
            refine lv_aload_n hx hb dX10_next_136 rfl (lv_at hl 1 rfl) ?_
            refine bq_get (q0 := 0) S hK hP fl_X10_37_X10_16 rfl rfl rfl dX10_next_137 ?_
            refine lv_iload hx hb dX10_next_140 (lv_at hl 3 rfl) ?_
            refine lv_iload_n hx hb dX10_next_142 rfl (lv_at hl 0 rfl) ?_
            obtain ⟨g45, h⟩ := bq_gd h
            obtain ⟨x44, hx44, h⟩ := bq_b h
            refine bq_iast (x1 := x44) (q0 := 10) (t0 := 0) S hK hD hP hS rfl rfl g45 (by rw [hx44]; rfl) dX10_next_143 (fun H locs hP hS => ?_)
            obtain ⟨v46, hv46, h⟩ := bq_b h
            refine lv_iinc (v := v46) (lv' := [(4, .int v46), (3, .int v40), (0, .ref (a 0)), (5, .int v36)]) hx hb dX10_next_144 hl (k := 2) rfl (by rw [hv46]; rfl) (by decide) rfl (fun ls hl => ?_)
            obtain ⟨v47, hv47, h⟩ := bq_b h
            refine lv_iinc (v := v47) (lv' := [(5, .int v47), (4, .int v46), (3, .int v40), (0, .ref (a 0))]) hx hb dX10_next_147 hl (k := 3) rfl (by rw [hv47]; rfl) (by decide) rfl (fun ls hl => ?_)
            refine lv_goto (tgt := 107) hx hb dX10_next_150 (by decide) ?_
            cases h
            exact ih _ _ _ _ _ _ _ hw hP hS (lv_sub hl [3, 1, 0] rfl) kx
      obtain ⟨e48, he48, h⟩ := Option.bind_eq_some_iff.mp h
      refine hl107 n _ _ _ e48 _ _ _ he48 hP hS (lv_sub hl [3, 1, 0] rfl) (fun H locs ls v49 v50 x51 hz hP hS hl => ?_)
      subst hz
      replace h := un3_e h
      refine lv_iconst (v := (1 : Int32)) hx hb dX10_next_153 (by decide) ?_
      obtain ⟨e1, e2⟩ := Prod.mk.inj (hret _ h)
      exact hR _ _ _ _ _ (congrArg some e1) rfl (by rw [e2]; exact hP) hS dX10_next_154
    · replace h := (if_neg c14).symm.trans h
      refine lv_iconst (v := (0 : Int32)) hx hb dX10_next_38 (by decide) ?_
      obtain ⟨e1, e2⟩ := Prod.mk.inj (hret _ h)
      exact hR _ _ _ _ _ (congrArg some e1) rfl (by rw [e2]; exact hP) hS dX10_next_39
  refine lv_aload_n hx hb dX10_next_0 rfl (lv_at hl 0 rfl) ?_
  refine bq_get (q0 := 0) S hK hP fl_X10_133_X10_17 rfl rfl rfl dX10_next_1 ?_
  refine lv_iconst (v := (2 : Int32)) hx hb dX10_next_4 (by decide) ?_
  refine lv_isub hx hb dX10_next_5 ?_
  refine lv_topi (fun v1 hv1 => ?_)
  replace h := bq_bv h hv1
  refine lv_istore_n (lv' := [(1, .int v1), (0, .ref (a 0))]) hx hb dX10_next_6 rfl hl (by decide) rfl (fun ls hl => ?_)
  have hl7 : ∀ (kf : Nat) (v2 : Int32) (x3 : bq_S) (eo : Int32 × bq_S) (H : Heap) (locs : List Loc) (ls : Array Slot), wh kf (fX10_next_b7 n ) (v2, x3) = some eo → va_P D bq_cl (bq_wM a k x3) H → va_S A s.heap H locs → lv_has ls 6 [(0, .ref (a 0)), (1, .int v2)] → (∀ (H : Heap) (locs : List Loc) (ls : Array Slot) (v10 : Int32) (x11 : bq_S), eo = (v10, x11) → va_P D bq_cl (bq_wM a k x11) H → va_S A s.heap H locs → lv_has ls 6 [(0, .ref (a 0)), (1, .int v10)] → W p l e { frames := 0, cells := 0, slots := 0, locals := 0 } s m [.ref (a 0)].toArray below meth c H locs 0 0 Q (F0 m 34 ls [])) → W p l e { frames := 0, cells := 0, slots := 0, locals := 0 } s m [.ref (a 0)].toArray below meth c H locs 0 0 Q (F0 m 7 ls []) := by
    intro  kf
    induction kf with
    | zero => intro v2 x3 eo H locs ls h; cases h
    | succ kf ih =>
      intro v2 x3 eo H locs ls h hP hS hl kx
      obtain ⟨out, h, hw⟩ := wh_s h
      unfold fX10_next_b7 at h
      replace h := un2_e h
      refine lv_iload_n hx hb dX10_next_7 rfl (lv_at hl 1 rfl) ?_
      refine lv_if_lt (tgt := 34) hx hb dX10_next_8 (by decide) (fun c4 => ?_) (fun c4 => ?_)
      · replace h := (if_pos c4).symm.trans h
        cases h
        exact kx _ _ _ _ _ (Option.some.inj hw).symm hP hS (lv_sub hl [0, 1] rfl)
      · replace h := (if_neg c4).symm.trans h
        refine lv_aload_n hx hb dX10_next_11 rfl (lv_at hl 0 rfl) ?_
        refine bq_get (q0 := 0) S hK hP fl_X10_37_X10_16 rfl rfl rfl dX10_next_12 ?_
        refine lv_iload_n hx hb dX10_next_15 rfl (lv_at hl 1 rfl) ?_
        obtain ⟨g5, h⟩ := bq_gd h
        refine va_iald (D := D) hx hb hK hP 10 0 rfl rfl g5 dX10_next_16 ?_
        refine lv_aload_n hx hb dX10_next_17 rfl (lv_at hl 0 rfl) ?_
        refine bq_get (q0 := 0) S hK hP fl_X10_37_X10_16 rfl rfl rfl dX10_next_18 ?_
        refine lv_iload_n hx hb dX10_next_21 rfl (lv_at hl 1 rfl) ?_
        refine lv_iconst (v := (1 : Int32)) hx hb dX10_next_22 (by decide) ?_
        refine lv_iadd hx hb dX10_next_23 ?_
        obtain ⟨g6, h⟩ := bq_gd h
        refine va_iald (D := D) hx hb hK hP 10 0 rfl rfl g6 dX10_next_24 ?_
        refine lv_icmp_le (tgt := 34) hx hb dX10_next_25 (by decide) (fun c7 => ?_) (fun c7 => ?_)
        · replace h := (if_pos c7).symm.trans h
          cases h
          exact kx _ _ _ _ _ (Option.some.inj hw).symm hP hS (lv_sub hl [0, 1] rfl)
        · replace h := (if_neg c7).symm.trans h
          obtain ⟨v8, hv8, h⟩ := bq_b h
          refine lv_iinc (v := v8) (lv' := [(1, .int v8), (0, .ref (a 0))]) hx hb dX10_next_28 hl (k := 1) rfl (by rw [hv8]; rfl) (by decide) rfl (fun ls hl => ?_)
          refine lv_goto (tgt := 7) hx hb dX10_next_31 (by decide) ?_
          cases h
          exact ih _ _ _ _ _ _ hw hP hS (lv_sub hl [1, 0] rfl) kx
  obtain ⟨e9, he9, h⟩ := Option.bind_eq_some_iff.mp h
  refine hl7 n _ _ e9 _ _ _ he9 hP hS (lv_sub hl [1, 0] rfl) (fun H locs ls v10 x11 hz hP hS hl => ?_)
  subst hz
  replace h := un2_e h
  exact hj34 _ _ _ _ _ h hP hS (lv_sub hl [0, 1] rfl)
def fX10_rows_j36 (n : Nat) (v15 : Int32) (v16 : Int32) (x17 : bq_S) : Option ((Int32 × Int32 × bq_S) ⊕ (Int32 × Int32 × bq_S)) :=
  bd (v15 + v16) (fun v18 =>
  (fX10_next n  x17).bind (fun o19 => un2 o19 (fun v21 x20 =>
  some (.inl (v18, v21, x20)))))
def fX10_rows_b19 (n : Nat) (v : Int32 × Int32 × bq_S) : Option ((Int32 × Int32 × bq_S) ⊕ (Int32 × Int32 × bq_S)) :=
  un3 v (fun v7 v8 x9 =>
  if v8 = 0 then
  some (.inr (v7, v8, x9))
  else
  (fX10_wrongAt n  x9).bind (fun o11 => un2 o11 (fun v13 x12 =>
  if 0 ≤ v13 then
  fX10_rows_j36 n v7 (0 : Int32) x12
  else
  fX10_rows_j36 n v7 (1 : Int32) x12)))
def fX10_rows (n : Nat) (p1 : Int32) (x0 : bq_S) : Option (Int32 × bq_S) :=
  (fX10_isSet p1 x0).bind (fun o1 => un2 o1 (fun v3 x2 =>
  if v3 = 0 then
  some ((-1 : Int32), x2)
  else
  (fX10_first n p1 x2).bind (fun x6 =>
  (wh n (fX10_rows_b19 n) ((0 : Int32), (1 : Int32), x6)).bind (fun e22 => un3 e22 (fun v23 v24 x25 =>
  some (v23, x25))))))
theorem dX10_rows_0 : decode cX10_rows 0 = .ok (.aload_n 0, 1) := by decide +kernel
theorem dX10_rows_1 : decode cX10_rows 1 = .ok (.iload_n 1, 1) := by decide +kernel
theorem dX10_rows_2 : decode cX10_rows 2 = .ok (.invokevirtual 142, 3) := by decide +kernel
theorem dX10_rows_5 : decode cX10_rows 5 = .ok (.ifCond .ne 5, 3) := by decide +kernel
theorem dX10_rows_8 : decode cX10_rows 8 = .ok (.iconst (-1), 1) := by decide +kernel
theorem dX10_rows_9 : decode cX10_rows 9 = .ok (.ireturn, 1) := by decide +kernel
theorem dX10_rows_10 : decode cX10_rows 10 = .ok (.iconst 0, 1) := by decide +kernel
theorem dX10_rows_11 : decode cX10_rows 11 = .ok (.istore_n 2, 1) := by decide +kernel
theorem dX10_rows_12 : decode cX10_rows 12 = .ok (.aload_n 0, 1) := by decide +kernel
theorem dX10_rows_13 : decode cX10_rows 13 = .ok (.iload_n 1, 1) := by decide +kernel
theorem dX10_rows_14 : decode cX10_rows 14 = .ok (.invokevirtual 145, 3) := by decide +kernel
theorem dX10_rows_17 : decode cX10_rows 17 = .ok (.iconst 1, 1) := by decide +kernel
theorem dX10_rows_18 : decode cX10_rows 18 = .ok (.istore_n 3, 1) := by decide +kernel
theorem dX10_rows_19 : decode cX10_rows 19 = .ok (.iload_n 3, 1) := by decide +kernel
theorem dX10_rows_20 : decode cX10_rows 20 = .ok (.ifCond .eq 26, 3) := by decide +kernel
theorem dX10_rows_23 : decode cX10_rows 23 = .ok (.iload_n 2, 1) := by decide +kernel
theorem dX10_rows_24 : decode cX10_rows 24 = .ok (.aload_n 0, 1) := by decide +kernel
theorem dX10_rows_25 : decode cX10_rows 25 = .ok (.invokevirtual 139, 3) := by decide +kernel
theorem dX10_rows_28 : decode cX10_rows 28 = .ok (.ifCond .ge 7, 3) := by decide +kernel
theorem dX10_rows_31 : decode cX10_rows 31 = .ok (.iconst 1, 1) := by decide +kernel
theorem dX10_rows_32 : decode cX10_rows 32 = .ok (.goto 4, 3) := by decide +kernel
theorem dX10_rows_35 : decode cX10_rows 35 = .ok (.iconst 0, 1) := by decide +kernel
theorem dX10_rows_36 : decode cX10_rows 36 = .ok (.iadd, 1) := by decide +kernel
theorem dX10_rows_37 : decode cX10_rows 37 = .ok (.istore_n 2, 1) := by decide +kernel
theorem dX10_rows_38 : decode cX10_rows 38 = .ok (.aload_n 0, 1) := by decide +kernel
theorem dX10_rows_39 : decode cX10_rows 39 = .ok (.invokevirtual 148, 3) := by decide +kernel
theorem dX10_rows_42 : decode cX10_rows 42 = .ok (.istore_n 3, 1) := by decide +kernel
theorem dX10_rows_43 : decode cX10_rows 43 = .ok (.goto (-24), 3) := by decide +kernel
theorem dX10_rows_46 : decode cX10_rows 46 = .ok (.iload_n 2, 1) := by decide +kernel
theorem dX10_rows_47 : decode cX10_rows 47 = .ok (.ireturn, 1) := by decide +kernel
set_option maxHeartbeats 4000000 in
set_option maxRecDepth 100000 in
theorem cX10_rows_k_0 {l : Launch} {D : va_G} {a : Nat → Nat} {k : Nat → ClassId} {n : Nat} {p1 : Int32} {x0 xz : bq_S} {rz : Int32} (h : fX10_rows n p1 x0 = some (rz, xz)) : bq_M l D bq_cl (bq_ty k) (bq_wM a k) yX10_rows cX10_rows 4 (some .int) { frames := 2, cells := 0, slots := 0, locals := 46 } [.ref (a 0), .int p1] x0 (some rz) xz := by
  refine bq_ofW RX10 [(0, .ref (a 0)), (1, .int p1)] (by decide +kernel) rfl (Nat.le_of_ble_eq_true rfl) rfl (bq_adM a k) ?_
  intro p e s m below meth c A Q ls S hK hD hA hR hS hP hl
  have hx := S.1; have hb := S.2.1; have hml := S.2.2.1; have hown := S.2.2.2.1; have hts := S.2.2.2.2
  have hret : ∀ z, some z = some (rz, xz) → (rz, xz) = z := fun z h => (Option.some.inj h).symm
  unfold fX10_rows at h
  refine lv_aload_n hx hb dX10_rows_0 rfl (lv_at hl 0 rfl) ?_
  refine lv_iload_n hx hb dX10_rows_1 rfl (lv_at hl 1 rfl) ?_
  obtain ⟨o1, ho1, h⟩ := Option.bind_eq_some_iff.mp h
  obtain ⟨v3, x2⟩ := o1
  replace h := un2_e h
  refine bq_callVi (q0 := 0) (As := [.int _]) S hK hD hA hP hS (cX10_isSet_k_0 ho1) hd_yX10_isSet ml_X10_142 in_yX10_isSet (hts _ sl_X10_X10_yX10_isSet) ⟨rfl, rfl⟩ ⟨by decide, by decide⟩ rfl rfl rfl hl.1 rfl (Nat.le_of_ble_eq_true rfl) ⟨Nat.zero_le _, Nat.zero_le _⟩ dX10_rows_2 (fun H locs hP hS => ?_)
  refine lv_if_ne (tgt := 10) hx hb dX10_rows_5 (by decide) (fun c4 => ?_) (fun c4 => ?_)
  · replace h := (if_neg c4).symm.trans h
    refine lv_iconst (v := (0 : Int32)) hx hb dX10_rows_10 (by decide) ?_
    refine lv_istore_n (lv' := [(2, .int (0 : Int32)), (0, .ref (a 0)), (1, .int p1)]) hx hb dX10_rows_11 rfl hl (by decide) rfl (fun ls hl => ?_)
    refine lv_aload_n hx hb dX10_rows_12 rfl (lv_at hl 1 rfl) ?_
    refine lv_iload_n hx hb dX10_rows_13 rfl (lv_at hl 2 rfl) ?_
    obtain ⟨x6, ho5, h⟩ := Option.bind_eq_some_iff.mp h
    refine bq_callVv (q0 := 0) (As := [.int _]) S hK hD hA hP hS (cX10_first_k_0 ho5) hd_yX10_first ml_X10_145 in_yX10_first (hts _ sl_X10_X10_yX10_first) ⟨rfl, rfl⟩ ⟨by decide, by decide⟩ rfl rfl rfl hl.1 rfl (Nat.le_of_ble_eq_true rfl) ⟨Nat.zero_le _, Nat.zero_le _⟩ dX10_rows_14 (fun H locs hP hS => ?_)
    refine lv_iconst (v := (1 : Int32)) hx hb dX10_rows_17 (by decide) ?_
    refine lv_istore_n (lv' := [(3, .int (1 : Int32)), (2, .int (0 : Int32)), (0, .ref (a 0)), (1, .int p1)]) hx hb dX10_rows_18 rfl hl (by decide) rfl (fun ls hl => ?_)
    have hl19 : ∀ (kf : Nat) (v7 : Int32) (v8 : Int32) (x9 : bq_S) (eo : Int32 × Int32 × bq_S) (H : Heap) (locs : List Loc) (ls : Array Slot), wh kf (fX10_rows_b19 n ) (v7, v8, x9) = some eo → va_P D bq_cl (bq_wM a k x9) H → va_S A s.heap H locs → lv_has ls 4 [(0, .ref (a 0)), (2, .int v7), (3, .int v8)] → (∀ (H : Heap) (locs : List Loc) (ls : Array Slot) (v23 : Int32) (v24 : Int32) (x25 : bq_S), eo = (v23, v24, x25) → va_P D bq_cl (bq_wM a k x25) H → va_S A s.heap H locs → lv_has ls 4 [(2, .int v23)] → W p l e { frames := 2, cells := 0, slots := 0, locals := 46 } s m [.ref (a 0), .int p1].toArray below meth c H locs 0 0 Q (F0 m 46 ls [])) → W p l e { frames := 2, cells := 0, slots := 0, locals := 46 } s m [.ref (a 0), .int p1].toArray below meth c H locs 0 0 Q (F0 m 19 ls []) := by
      intro  kf
      induction kf with
      | zero => intro v7 v8 x9 eo H locs ls h; cases h
      | succ kf ih =>
        intro v7 v8 x9 eo H locs ls h hP hS hl kx
        obtain ⟨out, h, hw⟩ := wh_s h
        unfold fX10_rows_b19 at h
        replace h := un3_e h
        have hj36 : ∀ (v15 : Int32) (v16 : Int32) (x17 : bq_S) (H : Heap) (locs : List Loc) (ls : Array Slot), fX10_rows_j36 n v15 v16 x17 = some out → va_P D bq_cl (bq_wM a k x17) H → va_S A s.heap H locs → lv_has ls 4 [(0, .ref (a 0))] → W p l e { frames := 2, cells := 0, slots := 0, locals := 46 } s m [.ref (a 0), .int p1].toArray below meth c H locs 0 0 Q (F0 m 36 ls [.int v16, .int v15]) := by
          intro v15 v16 x17 H locs ls h hP hS hl
          unfold fX10_rows_j36 at h
          refine lv_iadd hx hb dX10_rows_36 ?_
          refine lv_topi (fun v18 hv18 => ?_)
          replace h := bq_bv h hv18
          refine lv_istore_n (lv' := [(2, .int v18), (0, .ref (a 0))]) hx hb dX10_rows_37 rfl hl (by decide) rfl (fun ls hl => ?_)
          refine lv_aload_n hx hb dX10_rows_38 rfl (lv_at hl 1 rfl) ?_
          obtain ⟨o19, ho19, h⟩ := Option.bind_eq_some_iff.mp h
          obtain ⟨v21, x20⟩ := o19
          replace h := un2_e h
          refine bq_callVi (q0 := 0) (As := []) S hK hD hA hP hS (cX10_next_k_0 ho19) hd_yX10_next ml_X10_148 in_yX10_next (hts _ sl_X10_X10_yX10_next) ⟨rfl, rfl⟩ ⟨by decide, by decide⟩ rfl rfl rfl hl.1 rfl (Nat.le_of_ble_eq_true rfl) ⟨Nat.zero_le _, Nat.zero_le _⟩ dX10_rows_39 (fun H locs hP hS => ?_)
          refine lv_istore_n (lv' := [(3, .int v21), (2, .int v18), (0, .ref (a 0))]) hx hb dX10_rows_42 rfl hl (by decide) rfl (fun ls hl => ?_)
          refine lv_goto (tgt := 19) hx hb dX10_rows_43 (by decide) ?_
          cases h
          exact ih _ _ _ _ _ _ _ hw hP hS (lv_sub hl [2, 1, 0] rfl) kx
        refine lv_iload_n hx hb dX10_rows_19 rfl (lv_at hl 2 rfl) ?_
        refine lv_if_eq (tgt := 46) hx hb dX10_rows_20 (by decide) (fun c10 => ?_) (fun c10 => ?_)
        · replace h := (if_pos c10).symm.trans h
          cases h
          exact kx _ _ _ _ _ _ (Option.some.inj hw).symm hP hS (lv_sub hl [1] rfl)
        · replace h := (if_neg c10).symm.trans h
          refine lv_iload_n hx hb dX10_rows_23 rfl (lv_at hl 1 rfl) ?_
          refine lv_aload_n hx hb dX10_rows_24 rfl (lv_at hl 0 rfl) ?_
          obtain ⟨o11, ho11, h⟩ := Option.bind_eq_some_iff.mp h
          obtain ⟨v13, x12⟩ := o11
          replace h := un2_e h
          refine bq_callVi (q0 := 0) (As := []) S hK hD hA hP hS (cX10_wrongAt_k_0 ho11) hd_yX10_wrongAt ml_X10_139 in_yX10_wrongAt (hts _ sl_X10_X10_yX10_wrongAt) ⟨rfl, rfl⟩ ⟨by decide, by decide⟩ rfl rfl rfl hl.1 rfl (Nat.le_of_ble_eq_true rfl) ⟨Nat.zero_le _, Nat.zero_le _⟩ dX10_rows_25 (fun H locs hP hS => ?_)
          refine lv_if_ge (tgt := 35) hx hb dX10_rows_28 (by decide) (fun c14 => ?_) (fun c14 => ?_)
          · replace h := (if_pos c14).symm.trans h
            refine lv_iconst (v := (0 : Int32)) hx hb dX10_rows_35 (by decide) ?_
            exact hj36 _ _ _ _ _ _ h hP hS (lv_sub hl [0] rfl)
          · replace h := (if_neg c14).symm.trans h
            refine lv_iconst (v := (1 : Int32)) hx hb dX10_rows_31 (by decide) ?_
            refine lv_goto (tgt := 36) hx hb dX10_rows_32 (by decide) ?_
            exact hj36 _ _ _ _ _ _ h hP hS (lv_sub hl [0] rfl)
    obtain ⟨e22, he22, h⟩ := Option.bind_eq_some_iff.mp h
    refine hl19 n _ _ _ e22 _ _ _ he22 hP hS (lv_sub hl [2, 1, 0] rfl) (fun H locs ls v23 v24 x25 hz hP hS hl => ?_)
    subst hz
    replace h := un3_e h
    refine lv_iload_n hx hb dX10_rows_46 rfl (lv_at hl 0 rfl) ?_
    obtain ⟨e1, e2⟩ := Prod.mk.inj (hret _ h)
    exact hR _ _ _ _ _ (congrArg some e1) rfl (by rw [e2]; exact hP) hS dX10_rows_47
  · replace h := (if_pos c4).symm.trans h
    refine lv_iconst (v := (-1 : Int32)) hx hb dX10_rows_8 (by decide) ?_
    obtain ⟨e1, e2⟩ := Prod.mk.inj (hret _ h)
    exact hR _ _ _ _ _ (congrArg some e1) rfl (by rw [e2]; exact hP) hS dX10_rows_9
def fX10_row_j68 (n : Nat) (v15 : Int32) (v24 : Int32) (x25 : bq_S) : Option ((Int32 × Int32 × bq_S) ⊕ ((Int32 × Int32 × bq_S) ⊕ (Int32 × bq_S))) :=
  (fX10_next n  x25).bind (fun o26 => un2 o26 (fun v28 x27 =>
  some (.inl (v24, v28, x27))))
def fX10_row_b41 (n : Nat) (v15 : Int32) (v : Int32 × Int32 × bq_S) : Option ((Int32 × Int32 × bq_S) ⊕ ((Int32 × Int32 × bq_S) ⊕ (Int32 × bq_S))) :=
  un3 v (fun v16 v17 x18 =>
  if v17 = 0 then
  some (.inr (.inl (v16, v17, x18)))
  else
  (fX10_wrongAt n  x18).bind (fun o20 => un2 o20 (fun v22 x21 =>
  if 0 ≤ v22 then
  fX10_row_j68 n v15 v16 x21
  else
  if v16 = 0 then
  if ok_i v15 8 then
  some (.inr (.inr ((x21.1 10 v15.toNatClampNeg), x21)))
  else none
  else
  bd (v16 + (-1 : Int32)) (fun v30 =>
  fX10_row_j68 n v15 v30 x21))))
def fX10_row (n : Nat) (p1 : Int32) (p2 : Int32) (p3 : Int32) (x0 : bq_S) : Option (Int32 × bq_S) :=
  (fX10_isSet p1 x0).bind (fun o1 => un2 o1 (fun v3 x2 =>
  if v3 = 0 then
  some ((-1 : Int32), x2)
  else
  if p2 < 0 then
  some ((-1 : Int32), x2)
  else
  (fX10_size n p1 x2).bind (fun o6 => un2 o6 (fun v8 x7 =>
  (fX10_in p3.toInt64 (0 : Int64) (v8 - (1 : Int32)).toInt64 x7).bind (fun o9 => un2 o9 (fun v11 x10 =>
  if v11 = 0 then
  some ((-1 : Int32), x10)
  else
  (fX10_first n p1 x10).bind (fun x14 =>
  (wh n (fX10_row_b41 n p3) (p2, (1 : Int32), x14)).bind (fun e32 =>
  Sum.elim (fun z => un3 z (fun v33 v34 x35 =>
  some ((-4 : Int32), x35))) (fun z => some z) e32))))))))
theorem dX10_row_0 : decode cX10_row 0 = .ok (.aload_n 0, 1) := by decide +kernel
theorem dX10_row_1 : decode cX10_row 1 = .ok (.iload_n 1, 1) := by decide +kernel
theorem dX10_row_2 : decode cX10_row 2 = .ok (.invokevirtual 142, 3) := by decide +kernel
theorem dX10_row_5 : decode cX10_row 5 = .ok (.ifCond .eq 23, 3) := by decide +kernel
theorem dX10_row_8 : decode cX10_row 8 = .ok (.iload_n 2, 1) := by decide +kernel
theorem dX10_row_9 : decode cX10_row 9 = .ok (.ifCond .lt 19, 3) := by decide +kernel
theorem dX10_row_12 : decode cX10_row 12 = .ok (.iload_n 3, 1) := by decide +kernel
theorem dX10_row_13 : decode cX10_row 13 = .ok (.i2l, 1) := by decide +kernel
theorem dX10_row_14 : decode cX10_row 14 = .ok (.lconst 0, 1) := by decide +kernel
theorem dX10_row_15 : decode cX10_row 15 = .ok (.iload_n 1, 1) := by decide +kernel
theorem dX10_row_16 : decode cX10_row 16 = .ok (.invokestatic 129, 3) := by decide +kernel
theorem dX10_row_19 : decode cX10_row 19 = .ok (.iconst 1, 1) := by decide +kernel
theorem dX10_row_20 : decode cX10_row 20 = .ok (.isub, 1) := by decide +kernel
theorem dX10_row_21 : decode cX10_row 21 = .ok (.i2l, 1) := by decide +kernel
theorem dX10_row_22 : decode cX10_row 22 = .ok (.invokestatic 66, 3) := by decide +kernel
theorem dX10_row_25 : decode cX10_row 25 = .ok (.ifCond .ne 5, 3) := by decide +kernel
theorem dX10_row_28 : decode cX10_row 28 = .ok (.iconst (-1), 1) := by decide +kernel
theorem dX10_row_29 : decode cX10_row 29 = .ok (.ireturn, 1) := by decide +kernel
theorem dX10_row_30 : decode cX10_row 30 = .ok (.iload_n 2, 1) := by decide +kernel
theorem dX10_row_31 : decode cX10_row 31 = .ok (.istore 4, 2) := by decide +kernel
theorem dX10_row_33 : decode cX10_row 33 = .ok (.aload_n 0, 1) := by decide +kernel
theorem dX10_row_34 : decode cX10_row 34 = .ok (.iload_n 1, 1) := by decide +kernel
theorem dX10_row_35 : decode cX10_row 35 = .ok (.invokevirtual 145, 3) := by decide +kernel
theorem dX10_row_38 : decode cX10_row 38 = .ok (.iconst 1, 1) := by decide +kernel
theorem dX10_row_39 : decode cX10_row 39 = .ok (.istore 5, 2) := by decide +kernel
theorem dX10_row_41 : decode cX10_row 41 = .ok (.iload 5, 2) := by decide +kernel
theorem dX10_row_43 : decode cX10_row 43 = .ok (.ifCond .eq 34, 3) := by decide +kernel
theorem dX10_row_46 : decode cX10_row 46 = .ok (.aload_n 0, 1) := by decide +kernel
theorem dX10_row_47 : decode cX10_row 47 = .ok (.invokevirtual 139, 3) := by decide +kernel
theorem dX10_row_50 : decode cX10_row 50 = .ok (.ifCond .ge 18, 3) := by decide +kernel
theorem dX10_row_53 : decode cX10_row 53 = .ok (.iload 4, 2) := by decide +kernel
theorem dX10_row_55 : decode cX10_row 55 = .ok (.ifCond .ne 10, 3) := by decide +kernel
theorem dX10_row_58 : decode cX10_row 58 = .ok (.aload_n 0, 1) := by decide +kernel
theorem dX10_row_59 : decode cX10_row 59 = .ok (.getfield 37, 3) := by decide +kernel
theorem dX10_row_62 : decode cX10_row 62 = .ok (.iload_n 3, 1) := by decide +kernel
theorem dX10_row_63 : decode cX10_row 63 = .ok (.iaload, 1) := by decide +kernel
theorem dX10_row_64 : decode cX10_row 64 = .ok (.ireturn, 1) := by decide +kernel
theorem dX10_row_65 : decode cX10_row 65 = .ok (.iinc 4 (-1), 3) := by decide +kernel
theorem dX10_row_68 : decode cX10_row 68 = .ok (.aload_n 0, 1) := by decide +kernel
theorem dX10_row_69 : decode cX10_row 69 = .ok (.invokevirtual 148, 3) := by decide +kernel
theorem dX10_row_72 : decode cX10_row 72 = .ok (.istore 5, 2) := by decide +kernel
theorem dX10_row_74 : decode cX10_row 74 = .ok (.goto (-33), 3) := by decide +kernel
theorem dX10_row_77 : decode cX10_row 77 = .ok (.bipush (-4), 2) := by decide +kernel
theorem dX10_row_79 : decode cX10_row 79 = .ok (.ireturn, 1) := by decide +kernel
set_option maxHeartbeats 4000000 in
set_option maxRecDepth 100000 in
theorem cX10_row_k_0 {l : Launch} {D : va_G} {a : Nat → Nat} {k : Nat → ClassId} {n : Nat} {p1 : Int32} {p2 : Int32} {p3 : Int32} {x0 xz : bq_S} {rz : Int32} (h : fX10_row n p1 p2 p3 x0 = some (rz, xz)) : bq_M l D bq_cl (bq_ty k) (bq_wM a k) yX10_row cX10_row 6 (some .int) { frames := 2, cells := 0, slots := 0, locals := 46 } [.ref (a 0), .int p1, .int p2, .int p3] x0 (some rz) xz := by
  refine bq_ofW RX10 [(0, .ref (a 0)), (1, .int p1), (2, .int p2), (3, .int p3)] (by decide +kernel) rfl (Nat.le_of_ble_eq_true rfl) rfl (bq_adM a k) ?_
  intro p e s m below meth c A Q ls S hK hD hA hR hS hP hl
  have hx := S.1; have hb := S.2.1; have hml := S.2.2.1; have hown := S.2.2.2.1; have hts := S.2.2.2.2
  have hret : ∀ z, some z = some (rz, xz) → (rz, xz) = z := fun z h => (Option.some.inj h).symm
  unfold fX10_row at h
  refine lv_aload_n hx hb dX10_row_0 rfl (lv_at hl 0 rfl) ?_
  refine lv_iload_n hx hb dX10_row_1 rfl (lv_at hl 1 rfl) ?_
  obtain ⟨o1, ho1, h⟩ := Option.bind_eq_some_iff.mp h
  obtain ⟨v3, x2⟩ := o1
  replace h := un2_e h
  refine bq_callVi (q0 := 0) (As := [.int _]) S hK hD hA hP hS (cX10_isSet_k_0 ho1) hd_yX10_isSet ml_X10_142 in_yX10_isSet (hts _ sl_X10_X10_yX10_isSet) ⟨rfl, rfl⟩ ⟨by decide, by decide⟩ rfl rfl rfl hl.1 rfl (Nat.le_of_ble_eq_true rfl) ⟨Nat.zero_le _, Nat.zero_le _⟩ dX10_row_2 (fun H locs hP hS => ?_)
  refine lv_if_eq (tgt := 28) hx hb dX10_row_5 (by decide) (fun c4 => ?_) (fun c4 => ?_)
  · replace h := (if_pos c4).symm.trans h
    refine lv_iconst (v := (-1 : Int32)) hx hb dX10_row_28 (by decide) ?_
    obtain ⟨e1, e2⟩ := Prod.mk.inj (hret _ h)
    exact hR _ _ _ _ _ (congrArg some e1) rfl (by rw [e2]; exact hP) hS dX10_row_29
  · replace h := (if_neg c4).symm.trans h
    refine lv_iload_n hx hb dX10_row_8 rfl (lv_at hl 2 rfl) ?_
    refine lv_if_lt (tgt := 28) hx hb dX10_row_9 (by decide) (fun c5 => ?_) (fun c5 => ?_)
    · replace h := (if_pos c5).symm.trans h
      refine lv_iconst (v := (-1 : Int32)) hx hb dX10_row_28 (by decide) ?_
      obtain ⟨e1, e2⟩ := Prod.mk.inj (hret _ h)
      exact hR _ _ _ _ _ (congrArg some e1) rfl (by rw [e2]; exact hP) hS dX10_row_29
    · replace h := (if_neg c5).symm.trans h
      refine lv_iload_n hx hb dX10_row_12 rfl (lv_at hl 3 rfl) ?_
      refine lv_i2l hx hb dX10_row_13 rfl ?_
      refine lv_lconst (v := (0 : Int64)) hx hb dX10_row_14 (by decide) ?_
      refine lv_iload_n hx hb dX10_row_15 rfl (lv_at hl 1 rfl) ?_
      obtain ⟨o6, ho6, h⟩ := Option.bind_eq_some_iff.mp h
      obtain ⟨v8, x7⟩ := o6
      replace h := un2_e h
      refine bq_callSi (As := [.int _]) S hK hD hA hP hS (cX10_size_k ho6) hd_yX10_size ml_X10_129 st_yX10_size ⟨rfl, rfl⟩ ⟨by decide, by decide⟩ rfl hl.1 rfl (Nat.le_of_ble_eq_true rfl) ⟨Nat.zero_le _, Nat.zero_le _⟩ dX10_row_16 (fun H locs hP hS => ?_)
      refine lv_iconst (v := (1 : Int32)) hx hb dX10_row_19 (by decide) ?_
      refine lv_isub hx hb dX10_row_20 ?_
      refine lv_i2l hx hb dX10_row_21 rfl ?_
      obtain ⟨o9, ho9, h⟩ := Option.bind_eq_some_iff.mp h
      obtain ⟨v11, x10⟩ := o9
      replace h := un2_e h
      refine bq_callSi (As := [.long _, .long _, .long _]) S hK hD hA hP hS (cX10_in_k ho9) hd_yX10_in ml_X10_66 st_yX10_in ⟨rfl, rfl⟩ ⟨by decide, by decide⟩ rfl hl.1 rfl (Nat.le_of_ble_eq_true rfl) ⟨Nat.zero_le _, Nat.zero_le _⟩ dX10_row_22 (fun H locs hP hS => ?_)
      refine lv_if_ne (tgt := 30) hx hb dX10_row_25 (by decide) (fun c12 => ?_) (fun c12 => ?_)
      · replace h := (if_neg c12).symm.trans h
        refine lv_iload_n hx hb dX10_row_30 rfl (lv_at hl 2 rfl) ?_
        refine lv_istore (lv' := [(4, .int p2), (0, .ref (a 0)), (1, .int p1), (2, .int p2), (3, .int p3)]) hx hb dX10_row_31 hl (by decide) rfl (fun ls hl => ?_)
        refine lv_aload_n hx hb dX10_row_33 rfl (lv_at hl 1 rfl) ?_
        refine lv_iload_n hx hb dX10_row_34 rfl (lv_at hl 2 rfl) ?_
        obtain ⟨x14, ho13, h⟩ := Option.bind_eq_some_iff.mp h
        refine bq_callVv (q0 := 0) (As := [.int _]) S hK hD hA hP hS (cX10_first_k_0 ho13) hd_yX10_first ml_X10_145 in_yX10_first (hts _ sl_X10_X10_yX10_first) ⟨rfl, rfl⟩ ⟨by decide, by decide⟩ rfl rfl rfl hl.1 rfl (Nat.le_of_ble_eq_true rfl) ⟨Nat.zero_le _, Nat.zero_le _⟩ dX10_row_35 (fun H locs hP hS => ?_)
        refine lv_iconst (v := (1 : Int32)) hx hb dX10_row_38 (by decide) ?_
        refine lv_istore (lv' := [(5, .int (1 : Int32)), (4, .int p2), (0, .ref (a 0)), (1, .int p1), (2, .int p2), (3, .int p3)]) hx hb dX10_row_39 hl (by decide) rfl (fun ls hl => ?_)
        have hl41 : ∀ (v15 : Int32) (kf : Nat) (v16 : Int32) (v17 : Int32) (x18 : bq_S) (eo : (Int32 × Int32 × bq_S) ⊕ (Int32 × bq_S)) (H : Heap) (locs : List Loc) (ls : Array Slot), wh kf (fX10_row_b41 n v15) (v16, v17, x18) = some eo → va_P D bq_cl (bq_wM a k x18) H → va_S A s.heap H locs → lv_has ls 6 [(0, .ref (a 0)), (3, .int v15), (4, .int v16), (5, .int v17)] → (∀ (H : Heap) (locs : List Loc) (ls : Array Slot) (v33 : Int32) (v34 : Int32) (x35 : bq_S), eo = .inl (v33, v34, x35) → va_P D bq_cl (bq_wM a k x35) H → va_S A s.heap H locs → lv_has ls 6 [] → W p l e { frames := 2, cells := 0, slots := 0, locals := 46 } s m [.ref (a 0), .int p1, .int p2, .int p3].toArray below meth c H locs 0 0 Q (F0 m 77 ls [])) → (∀ z, eo = .inr z → (rz, xz) = z) → W p l e { frames := 2, cells := 0, slots := 0, locals := 46 } s m [.ref (a 0), .int p1, .int p2, .int p3].toArray below meth c H locs 0 0 Q (F0 m 41 ls []) := by
          intro v15 kf
          induction kf with
          | zero => intro v16 v17 x18 eo H locs ls h; cases h
          | succ kf ih =>
            intro v16 v17 x18 eo H locs ls h hP hS hl kx kr
            obtain ⟨out, h, hw⟩ := wh_s h
            have hret : ∀ z, (some (.inr (.inr z)) : Option ((Int32 × Int32 × bq_S) ⊕ ((Int32 × Int32 × bq_S) ⊕ (Int32 × bq_S)))) = some out → (rz, xz) = z := fun z h => kr z (by cases h; exact (Option.some.inj hw).symm)
            unfold fX10_row_b41 at h
            replace h := un3_e h
            have hj68 : ∀ (v24 : Int32) (x25 : bq_S) (H : Heap) (locs : List Loc) (ls : Array Slot), fX10_row_j68 n v15 v24 x25 = some out → va_P D bq_cl (bq_wM a k x25) H → va_S A s.heap H locs → lv_has ls 6 [(0, .ref (a 0)), (3, .int v15), (4, .int v24)] → W p l e { frames := 2, cells := 0, slots := 0, locals := 46 } s m [.ref (a 0), .int p1, .int p2, .int p3].toArray below meth c H locs 0 0 Q (F0 m 68 ls []) := by
              intro v24 x25 H locs ls h hP hS hl
              unfold fX10_row_j68 at h
              refine lv_aload_n hx hb dX10_row_68 rfl (lv_at hl 0 rfl) ?_
              obtain ⟨o26, ho26, h⟩ := Option.bind_eq_some_iff.mp h
              obtain ⟨v28, x27⟩ := o26
              replace h := un2_e h
              refine bq_callVi (q0 := 0) (As := []) S hK hD hA hP hS (cX10_next_k_0 ho26) hd_yX10_next ml_X10_148 in_yX10_next (hts _ sl_X10_X10_yX10_next) ⟨rfl, rfl⟩ ⟨by decide, by decide⟩ rfl rfl rfl hl.1 rfl (Nat.le_of_ble_eq_true rfl) ⟨Nat.zero_le _, Nat.zero_le _⟩ dX10_row_69 (fun H locs hP hS => ?_)
              refine lv_istore (lv' := [(5, .int v28), (0, .ref (a 0)), (3, .int v15), (4, .int v24)]) hx hb dX10_row_72 hl (by decide) rfl (fun ls hl => ?_)
              refine lv_goto (tgt := 41) hx hb dX10_row_74 (by decide) ?_
              cases h
              exact ih _ _ _ _ _ _ _ hw hP hS (lv_sub hl [1, 2, 3, 0] rfl) kx kr
            refine lv_iload hx hb dX10_row_41 (lv_at hl 3 rfl) ?_
            refine lv_if_eq (tgt := 77) hx hb dX10_row_43 (by decide) (fun c19 => ?_) (fun c19 => ?_)
            · replace h := (if_pos c19).symm.trans h
              cases h
              exact kx _ _ _ _ _ _ (Option.some.inj hw).symm hP hS (lv_sub hl [] rfl)
            · replace h := (if_neg c19).symm.trans h
              refine lv_aload_n hx hb dX10_row_46 rfl (lv_at hl 0 rfl) ?_
              obtain ⟨o20, ho20, h⟩ := Option.bind_eq_some_iff.mp h
              obtain ⟨v22, x21⟩ := o20
              replace h := un2_e h
              refine bq_callVi (q0 := 0) (As := []) S hK hD hA hP hS (cX10_wrongAt_k_0 ho20) hd_yX10_wrongAt ml_X10_139 in_yX10_wrongAt (hts _ sl_X10_X10_yX10_wrongAt) ⟨rfl, rfl⟩ ⟨by decide, by decide⟩ rfl rfl rfl hl.1 rfl (Nat.le_of_ble_eq_true rfl) ⟨Nat.zero_le _, Nat.zero_le _⟩ dX10_row_47 (fun H locs hP hS => ?_)
              refine lv_if_ge (tgt := 68) hx hb dX10_row_50 (by decide) (fun c23 => ?_) (fun c23 => ?_)
              · replace h := (if_pos c23).symm.trans h
                exact hj68 _ _ _ _ _ h hP hS (lv_sub hl [0, 1, 2] rfl)
              · replace h := (if_neg c23).symm.trans h
                refine lv_iload hx hb dX10_row_53 (lv_at hl 2 rfl) ?_
                refine lv_if_ne (tgt := 65) hx hb dX10_row_55 (by decide) (fun c29 => ?_) (fun c29 => ?_)
                · replace h := (if_neg c29).symm.trans h
                  obtain ⟨v30, hv30, h⟩ := bq_b h
                  refine lv_iinc (v := v30) (lv' := [(4, .int v30), (0, .ref (a 0)), (3, .int v15), (5, .int v17)]) hx hb dX10_row_65 hl (k := 2) rfl (by rw [hv30]; rfl) (by decide) rfl (fun ls hl => ?_)
                  exact hj68 _ _ _ _ _ h hP hS (lv_sub hl [1, 2, 0] rfl)
                · replace h := (if_pos c29).symm.trans h
                  refine lv_aload_n hx hb dX10_row_58 rfl (lv_at hl 0 rfl) ?_
                  refine bq_get (q0 := 0) S hK hP fl_X10_37_X10_16 rfl rfl rfl dX10_row_59 ?_
                  refine lv_iload_n hx hb dX10_row_62 rfl (lv_at hl 1 rfl) ?_
                  obtain ⟨g31, h⟩ := bq_gd h
                  refine va_iald (D := D) hx hb hK hP 10 0 rfl rfl g31 dX10_row_63 ?_
                  obtain ⟨e1, e2⟩ := Prod.mk.inj (hret _ h)
                  exact hR _ _ _ _ _ (congrArg some e1) rfl (by rw [e2]; exact hP) hS dX10_row_64
        obtain ⟨e32, he32, h⟩ := Option.bind_eq_some_iff.mp h
        refine hl41 _ n _ _ _ e32 _ _ _ he32 hP hS (lv_sub hl [2, 5, 1, 0] rfl) (fun H locs ls v33 v34 x35 hz hP hS hl => ?_) (fun z hz => hret z (bq_ir h hz :))
        replace h := bq_il h hz
        replace h := un3_e h
        refine lv_bipush (v := (-4 : Int32)) hx hb dX10_row_77 (by decide) ?_
        obtain ⟨e1, e2⟩ := Prod.mk.inj (hret _ h)
        exact hR _ _ _ _ _ (congrArg some e1) rfl (by rw [e2]; exact hP) hS dX10_row_79
      · replace h := (if_pos c12).symm.trans h
        refine lv_iconst (v := (-1 : Int32)) hx hb dX10_row_28 (by decide) ?_
        obtain ⟨e1, e2⟩ := Prod.mk.inj (hret _ h)
        exact hR _ _ _ _ _ (congrArg some e1) rfl (by rw [e2]; exact hP) hS dX10_row_29
def fX10_partsOf_j96 (n : Nat) (v19 : Int32) (v20 : Int32) (v28 : Int32) (v22 : Int32) (v23 : Int32) (v29 : Int32) (v30 : Int32) (x31 : bq_S) : Option ((Int32 × Int32 × bq_S) ⊕ (Int32 × Int32 × bq_S)) :=
  if v30 = 0 then
  bd (v28 ||| (0 : Int32)) (fun v33 =>
  bd (v29 + (1 : Int32)) (fun v34 =>
  some (.inl (v33, v34, x31))))
  else
  bd (v28 ||| ((1 : Int32) <<< (v29 &&& 31))) (fun v35 =>
  bd (v29 + (1 : Int32)) (fun v36 =>
  some (.inl (v35, v36, x31))))
def fX10_partsOf_b43 (n : Nat) (v19 : Int32) (v20 : Int32) (v22 : Int32) (v23 : Int32) (v : Int32 × Int32 × bq_S) : Option ((Int32 × Int32 × bq_S) ⊕ (Int32 × Int32 × bq_S)) :=
  un3 v (fun v21 v24 x25 =>
  if (x25.1 0 0) ≤ v24 then
  some (.inr (v21, v24, x25))
  else
  if v23 = v24 then
  fX10_partsOf_j96 n v19 v20 v21 v22 v23 v24 (0 : Int32) x25
  else
  if ((v21 >>> (v23 &&& 31)) &&& (1 : Int32)) = (1 : Int32) then
  if ((v19 >>> (v24 &&& 31)) &&& (1 : Int32)) = (1 : Int32) then
  (fX10_mayTouch v23 v24 x25).bind (fun o39 => un2 o39 (fun v41 x40 =>
  if v41 = 0 then
  fX10_partsOf_j96 n v19 v20 v21 v22 v23 v24 (0 : Int32) x40
  else
  fX10_partsOf_j96 n v19 v20 v21 v22 v23 v24 (1 : Int32) x40))
  else
  fX10_partsOf_j96 n v19 v20 v21 v22 v23 v24 (0 : Int32) x25
  else
  fX10_partsOf_j96 n v19 v20 v21 v22 v23 v24 (0 : Int32) x25)
def fX10_partsOf_b31 (n : Nat) (v12 : Int32) (v13 : Int32) (v15 : Int32) (v : Int32 × Int32 × bq_S) : Option ((Int32 × Int32 × bq_S) ⊕ (Int32 × Int32 × bq_S)) :=
  un3 v (fun v14 v16 x17 =>
  if (x17.1 0 0) ≤ v16 then
  some (.inr (v14, v16, x17))
  else
  (wh n (fX10_partsOf_b43 n v12 v13 v15 v16) (v14, (0 : Int32), x17)).bind (fun e43 => un3 e43 (fun v44 v45 x46 =>
  bd (v16 + (1 : Int32)) (fun v47 =>
  some (.inl (v44, v47, x46))))))
def fX10_partsOf_b17 (n : Nat) (v6 : Int32) (v7 : Int32) (v : Int32 × Int32 × bq_S) : Option ((Int32 × Int32 × bq_S) ⊕ (Int32 × Int32 × bq_S)) :=
  un3 v (fun v8 v9 x10 =>
  if v8 = v9 then
  some (.inr (v8, v9, x10))
  else
  (wh n (fX10_partsOf_b31 n v6 v7 v8) (v8, (0 : Int32), x10)).bind (fun e48 => un3 e48 (fun v49 v50 x51 =>
  some (.inl (v49, v8, x51)))))
def fX10_partsOf_b4 (n : Nat) (v : Int32 × Int32 × bq_S) : Option ((Int32 × Int32 × bq_S) ⊕ (Int32 × Int32 × bq_S)) :=
  un3 v (fun v1 v2 x3 =>
  if v1 = 0 then
  some (.inr (v1, v2, x3))
  else
  bd (v1 &&& (-v1)) (fun v5 =>
  (wh n (fX10_partsOf_b17 n v1 v2) (v5, (0 : Int32), x3)).bind (fun e52 => un3 e52 (fun v53 v54 x55 =>
  bd (v1 &&& (v53 ^^^ (-1 : Int32))) (fun v56 =>
  bd (v2 + (1 : Int32)) (fun v57 =>
  some (.inl (v56, v57, x55))))))))
def fX10_partsOf (n : Nat) (p1 : Int32) (x0 : bq_S) : Option (Int32 × bq_S) :=
  (wh n (fX10_partsOf_b4 n) (p1, (0 : Int32), x0)).bind (fun e58 => un3 e58 (fun v59 v60 x61 =>
  some (v60, x61)))
theorem dX10_partsOf_0 : decode cX10_partsOf 0 = .ok (.iload_n 1, 1) := by decide +kernel
theorem dX10_partsOf_1 : decode cX10_partsOf 1 = .ok (.istore_n 2, 1) := by decide +kernel
theorem dX10_partsOf_2 : decode cX10_partsOf 2 = .ok (.iconst 0, 1) := by decide +kernel
theorem dX10_partsOf_3 : decode cX10_partsOf 3 = .ok (.istore_n 3, 1) := by decide +kernel
theorem dX10_partsOf_4 : decode cX10_partsOf 4 = .ok (.iload_n 2, 1) := by decide +kernel
theorem dX10_partsOf_5 : decode cX10_partsOf 5 = .ok (.ifCond .eq 139, 3) := by decide +kernel
theorem dX10_partsOf_8 : decode cX10_partsOf 8 = .ok (.iload_n 2, 1) := by decide +kernel
theorem dX10_partsOf_9 : decode cX10_partsOf 9 = .ok (.iload_n 2, 1) := by decide +kernel
theorem dX10_partsOf_10 : decode cX10_partsOf 10 = .ok (.ineg, 1) := by decide +kernel
theorem dX10_partsOf_11 : decode cX10_partsOf 11 = .ok (.iand, 1) := by decide +kernel
theorem dX10_partsOf_12 : decode cX10_partsOf 12 = .ok (.istore 4, 2) := by decide +kernel
theorem dX10_partsOf_14 : decode cX10_partsOf 14 = .ok (.iconst 0, 1) := by decide +kernel
theorem dX10_partsOf_15 : decode cX10_partsOf 15 = .ok (.istore 5, 2) := by decide +kernel
theorem dX10_partsOf_17 : decode cX10_partsOf 17 = .ok (.iload 4, 2) := by decide +kernel
theorem dX10_partsOf_19 : decode cX10_partsOf 19 = .ok (.iload 5, 2) := by decide +kernel
theorem dX10_partsOf_21 : decode cX10_partsOf 21 = .ok (.if_icmp .eq 110, 3) := by decide +kernel
theorem dX10_partsOf_24 : decode cX10_partsOf 24 = .ok (.iload 4, 2) := by decide +kernel
theorem dX10_partsOf_26 : decode cX10_partsOf 26 = .ok (.istore 5, 2) := by decide +kernel
theorem dX10_partsOf_28 : decode cX10_partsOf 28 = .ok (.iconst 0, 1) := by decide +kernel
theorem dX10_partsOf_29 : decode cX10_partsOf 29 = .ok (.istore 6, 2) := by decide +kernel
theorem dX10_partsOf_31 : decode cX10_partsOf 31 = .ok (.iload 6, 2) := by decide +kernel
theorem dX10_partsOf_33 : decode cX10_partsOf 33 = .ok (.aload_n 0, 1) := by decide +kernel
theorem dX10_partsOf_34 : decode cX10_partsOf 34 = .ok (.getfield 62, 3) := by decide +kernel
theorem dX10_partsOf_37 : decode cX10_partsOf 37 = .ok (.if_icmp .ge 91, 3) := by decide +kernel
theorem dX10_partsOf_40 : decode cX10_partsOf 40 = .ok (.iconst 0, 1) := by decide +kernel
theorem dX10_partsOf_41 : decode cX10_partsOf 41 = .ok (.istore 7, 2) := by decide +kernel
theorem dX10_partsOf_43 : decode cX10_partsOf 43 = .ok (.iload 7, 2) := by decide +kernel
theorem dX10_partsOf_45 : decode cX10_partsOf 45 = .ok (.aload_n 0, 1) := by decide +kernel
theorem dX10_partsOf_46 : decode cX10_partsOf 46 = .ok (.getfield 62, 3) := by decide +kernel
theorem dX10_partsOf_49 : decode cX10_partsOf 49 = .ok (.if_icmp .ge 73, 3) := by decide +kernel
theorem dX10_partsOf_52 : decode cX10_partsOf 52 = .ok (.iload 6, 2) := by decide +kernel
theorem dX10_partsOf_54 : decode cX10_partsOf 54 = .ok (.iload 7, 2) := by decide +kernel
theorem dX10_partsOf_56 : decode cX10_partsOf 56 = .ok (.if_icmp .eq 39, 3) := by decide +kernel
theorem dX10_partsOf_59 : decode cX10_partsOf 59 = .ok (.iload 4, 2) := by decide +kernel
theorem dX10_partsOf_61 : decode cX10_partsOf 61 = .ok (.iload 6, 2) := by decide +kernel
theorem dX10_partsOf_63 : decode cX10_partsOf 63 = .ok (.ishr, 1) := by decide +kernel
theorem dX10_partsOf_64 : decode cX10_partsOf 64 = .ok (.iconst 1, 1) := by decide +kernel
theorem dX10_partsOf_65 : decode cX10_partsOf 65 = .ok (.iand, 1) := by decide +kernel
theorem dX10_partsOf_66 : decode cX10_partsOf 66 = .ok (.iconst 1, 1) := by decide +kernel
theorem dX10_partsOf_67 : decode cX10_partsOf 67 = .ok (.if_icmp .ne 28, 3) := by decide +kernel
theorem dX10_partsOf_70 : decode cX10_partsOf 70 = .ok (.iload_n 2, 1) := by decide +kernel
theorem dX10_partsOf_71 : decode cX10_partsOf 71 = .ok (.iload 7, 2) := by decide +kernel
theorem dX10_partsOf_73 : decode cX10_partsOf 73 = .ok (.ishr, 1) := by decide +kernel
theorem dX10_partsOf_74 : decode cX10_partsOf 74 = .ok (.iconst 1, 1) := by decide +kernel
theorem dX10_partsOf_75 : decode cX10_partsOf 75 = .ok (.iand, 1) := by decide +kernel
theorem dX10_partsOf_76 : decode cX10_partsOf 76 = .ok (.iconst 1, 1) := by decide +kernel
theorem dX10_partsOf_77 : decode cX10_partsOf 77 = .ok (.if_icmp .ne 18, 3) := by decide +kernel
theorem dX10_partsOf_80 : decode cX10_partsOf 80 = .ok (.aload_n 0, 1) := by decide +kernel
theorem dX10_partsOf_81 : decode cX10_partsOf 81 = .ok (.iload 6, 2) := by decide +kernel
theorem dX10_partsOf_83 : decode cX10_partsOf 83 = .ok (.iload 7, 2) := by decide +kernel
theorem dX10_partsOf_85 : decode cX10_partsOf 85 = .ok (.invokevirtual 83, 3) := by decide +kernel
theorem dX10_partsOf_88 : decode cX10_partsOf 88 = .ok (.ifCond .eq 7, 3) := by decide +kernel
theorem dX10_partsOf_91 : decode cX10_partsOf 91 = .ok (.iconst 1, 1) := by decide +kernel
theorem dX10_partsOf_92 : decode cX10_partsOf 92 = .ok (.goto 4, 3) := by decide +kernel
theorem dX10_partsOf_95 : decode cX10_partsOf 95 = .ok (.iconst 0, 1) := by decide +kernel
theorem dX10_partsOf_96 : decode cX10_partsOf 96 = .ok (.istore 8, 2) := by decide +kernel
theorem dX10_partsOf_98 : decode cX10_partsOf 98 = .ok (.iload 4, 2) := by decide +kernel
theorem dX10_partsOf_100 : decode cX10_partsOf 100 = .ok (.iload 8, 2) := by decide +kernel
theorem dX10_partsOf_102 : decode cX10_partsOf 102 = .ok (.ifCond .eq 10, 3) := by decide +kernel
theorem dX10_partsOf_105 : decode cX10_partsOf 105 = .ok (.iconst 1, 1) := by decide +kernel
theorem dX10_partsOf_106 : decode cX10_partsOf 106 = .ok (.iload 7, 2) := by decide +kernel
theorem dX10_partsOf_108 : decode cX10_partsOf 108 = .ok (.ishl, 1) := by decide +kernel
theorem dX10_partsOf_109 : decode cX10_partsOf 109 = .ok (.goto 4, 3) := by decide +kernel
theorem dX10_partsOf_112 : decode cX10_partsOf 112 = .ok (.iconst 0, 1) := by decide +kernel
theorem dX10_partsOf_113 : decode cX10_partsOf 113 = .ok (.ior, 1) := by decide +kernel
theorem dX10_partsOf_114 : decode cX10_partsOf 114 = .ok (.istore 4, 2) := by decide +kernel
theorem dX10_partsOf_116 : decode cX10_partsOf 116 = .ok (.iinc 7 1, 3) := by decide +kernel
theorem dX10_partsOf_119 : decode cX10_partsOf 119 = .ok (.goto (-76), 3) := by decide +kernel
theorem dX10_partsOf_122 : decode cX10_partsOf 122 = .ok (.iinc 6 1, 3) := by decide +kernel
theorem dX10_partsOf_125 : decode cX10_partsOf 125 = .ok (.goto (-94), 3) := by decide +kernel
theorem dX10_partsOf_128 : decode cX10_partsOf 128 = .ok (.goto (-111), 3) := by decide +kernel
theorem dX10_partsOf_131 : decode cX10_partsOf 131 = .ok (.iload_n 2, 1) := by decide +kernel
theorem dX10_partsOf_132 : decode cX10_partsOf 132 = .ok (.iload 4, 2) := by decide +kernel
theorem dX10_partsOf_134 : decode cX10_partsOf 134 = .ok (.iconst (-1), 1) := by decide +kernel
theorem dX10_partsOf_135 : decode cX10_partsOf 135 = .ok (.ixor, 1) := by decide +kernel
theorem dX10_partsOf_136 : decode cX10_partsOf 136 = .ok (.iand, 1) := by decide +kernel
theorem dX10_partsOf_137 : decode cX10_partsOf 137 = .ok (.istore_n 2, 1) := by decide +kernel
theorem dX10_partsOf_138 : decode cX10_partsOf 138 = .ok (.iinc 3 1, 3) := by decide +kernel
theorem dX10_partsOf_141 : decode cX10_partsOf 141 = .ok (.goto (-137), 3) := by decide +kernel
theorem dX10_partsOf_144 : decode cX10_partsOf 144 = .ok (.iload_n 3, 1) := by decide +kernel
theorem dX10_partsOf_145 : decode cX10_partsOf 145 = .ok (.ireturn, 1) := by decide +kernel
set_option maxHeartbeats 4000000 in
set_option maxRecDepth 100000 in
theorem cX10_partsOf_k_0 {l : Launch} {D : va_G} {a : Nat → Nat} {k : Nat → ClassId} {n : Nat} {p1 : Int32} {x0 xz : bq_S} {rz : Int32} (h : fX10_partsOf n p1 x0 = some (rz, xz)) : bq_M l D bq_cl (bq_ty k) (bq_wM a k) yX10_partsOf cX10_partsOf 9 (some .int) { frames := 1, cells := 0, slots := 0, locals := 25 } [.ref (a 0), .int p1] x0 (some rz) xz := by
  refine bq_ofW RX10 [(0, .ref (a 0)), (1, .int p1)] (by decide +kernel) rfl (Nat.le_of_ble_eq_true rfl) rfl (bq_adM a k) ?_
  intro p e s m below meth c A Q ls S hK hD hA hR hS hP hl
  have hx := S.1; have hb := S.2.1; have hml := S.2.2.1; have hown := S.2.2.2.1; have hts := S.2.2.2.2
  have hret : ∀ z, some z = some (rz, xz) → (rz, xz) = z := fun z h => (Option.some.inj h).symm
  unfold fX10_partsOf at h
  refine lv_iload_n hx hb dX10_partsOf_0 rfl (lv_at hl 1 rfl) ?_
  refine lv_istore_n (lv' := [(2, .int p1), (0, .ref (a 0)), (1, .int p1)]) hx hb dX10_partsOf_1 rfl hl (by decide) rfl (fun ls hl => ?_)
  refine lv_iconst (v := (0 : Int32)) hx hb dX10_partsOf_2 (by decide) ?_
  refine lv_istore_n (lv' := [(3, .int (0 : Int32)), (2, .int p1), (0, .ref (a 0)), (1, .int p1)]) hx hb dX10_partsOf_3 rfl hl (by decide) rfl (fun ls hl => ?_)
  have hl4 : ∀ (kf : Nat) (v1 : Int32) (v2 : Int32) (x3 : bq_S) (eo : Int32 × Int32 × bq_S) (H : Heap) (locs : List Loc) (ls : Array Slot), wh kf (fX10_partsOf_b4 n ) (v1, v2, x3) = some eo → va_P D bq_cl (bq_wM a k x3) H → va_S A s.heap H locs → lv_has ls 9 [(0, .ref (a 0)), (2, .int v1), (3, .int v2)] → (∀ (H : Heap) (locs : List Loc) (ls : Array Slot) (v59 : Int32) (v60 : Int32) (x61 : bq_S), eo = (v59, v60, x61) → va_P D bq_cl (bq_wM a k x61) H → va_S A s.heap H locs → lv_has ls 9 [(3, .int v60)] → W p l e { frames := 1, cells := 0, slots := 0, locals := 25 } s m [.ref (a 0), .int p1].toArray below meth c H locs 0 0 Q (F0 m 144 ls [])) → W p l e { frames := 1, cells := 0, slots := 0, locals := 25 } s m [.ref (a 0), .int p1].toArray below meth c H locs 0 0 Q (F0 m 4 ls []) := by
    intro  kf
    induction kf with
    | zero => intro v1 v2 x3 eo H locs ls h; cases h
    | succ kf ih =>
      intro v1 v2 x3 eo H locs ls h hP hS hl kx
      obtain ⟨out, h, hw⟩ := wh_s h
      unfold fX10_partsOf_b4 at h
      replace h := un3_e h
      refine lv_iload_n hx hb dX10_partsOf_4 rfl (lv_at hl 1 rfl) ?_
      refine lv_if_eq (tgt := 144) hx hb dX10_partsOf_5 (by decide) (fun c4 => ?_) (fun c4 => ?_)
      · replace h := (if_pos c4).symm.trans h
        cases h
        exact kx _ _ _ _ _ _ (Option.some.inj hw).symm hP hS (lv_sub hl [2] rfl)
      · replace h := (if_neg c4).symm.trans h
        refine lv_iload_n hx hb dX10_partsOf_8 rfl (lv_at hl 1 rfl) ?_
        refine lv_iload_n hx hb dX10_partsOf_9 rfl (lv_at hl 1 rfl) ?_
        refine lv_ineg hx hb dX10_partsOf_10 ?_
        refine lv_iand hx hb dX10_partsOf_11 ?_
        refine lv_topi (fun v5 hv5 => ?_)
        replace h := bq_bv h hv5
        refine lv_istore (lv' := [(4, .int v5), (0, .ref (a 0)), (2, .int v1), (3, .int v2)]) hx hb dX10_partsOf_12 hl (by decide) rfl (fun ls hl => ?_)
        refine lv_iconst (v := (0 : Int32)) hx hb dX10_partsOf_14 (by decide) ?_
        refine lv_istore (lv' := [(5, .int (0 : Int32)), (4, .int v5), (0, .ref (a 0)), (2, .int v1), (3, .int v2)]) hx hb dX10_partsOf_15 hl (by decide) rfl (fun ls hl => ?_)
        have hl17 : ∀ (v6 : Int32) (v7 : Int32) (kf : Nat) (v8 : Int32) (v9 : Int32) (x10 : bq_S) (eo : Int32 × Int32 × bq_S) (H : Heap) (locs : List Loc) (ls : Array Slot), wh kf (fX10_partsOf_b17 n v6 v7) (v8, v9, x10) = some eo → va_P D bq_cl (bq_wM a k x10) H → va_S A s.heap H locs → lv_has ls 9 [(0, .ref (a 0)), (2, .int v6), (3, .int v7), (4, .int v8), (5, .int v9)] → (∀ (H : Heap) (locs : List Loc) (ls : Array Slot) (v53 : Int32) (v54 : Int32) (x55 : bq_S), eo = (v53, v54, x55) → va_P D bq_cl (bq_wM a k x55) H → va_S A s.heap H locs → lv_has ls 9 [(0, .ref (a 0)), (2, .int v6), (3, .int v7), (4, .int v53)] → W p l e { frames := 1, cells := 0, slots := 0, locals := 25 } s m [.ref (a 0), .int p1].toArray below meth c H locs 0 0 Q (F0 m 131 ls [])) → W p l e { frames := 1, cells := 0, slots := 0, locals := 25 } s m [.ref (a 0), .int p1].toArray below meth c H locs 0 0 Q (F0 m 17 ls []) := by
          intro v6 v7 kf
          induction kf with
          | zero => intro v8 v9 x10 eo H locs ls h; cases h
          | succ kf ih =>
            intro v8 v9 x10 eo H locs ls h hP hS hl kx
            obtain ⟨out, h, hw⟩ := wh_s h
            unfold fX10_partsOf_b17 at h
            replace h := un3_e h
            refine lv_iload hx hb dX10_partsOf_17 (lv_at hl 3 rfl) ?_
            refine lv_iload hx hb dX10_partsOf_19 (lv_at hl 4 rfl) ?_
            refine lv_icmp_eq (tgt := 131) hx hb dX10_partsOf_21 (by decide) (fun c11 => ?_) (fun c11 => ?_)
            · replace h := (if_pos c11).symm.trans h
              cases h
              exact kx _ _ _ _ _ _ (Option.some.inj hw).symm hP hS (lv_sub hl [0, 1, 2, 3] rfl)
            · replace h := (if_neg c11).symm.trans h
              refine lv_iload hx hb dX10_partsOf_24 (lv_at hl 3 rfl) ?_
              refine lv_istore (lv' := [(5, .int v8), (0, .ref (a 0)), (2, .int v6), (3, .int v7), (4, .int v8)]) hx hb dX10_partsOf_26 hl (by decide) rfl (fun ls hl => ?_)
              refine lv_iconst (v := (0 : Int32)) hx hb dX10_partsOf_28 (by decide) ?_
              refine lv_istore (lv' := [(6, .int (0 : Int32)), (5, .int v8), (0, .ref (a 0)), (2, .int v6), (3, .int v7), (4, .int v8)]) hx hb dX10_partsOf_29 hl (by decide) rfl (fun ls hl => ?_)
              have hl31 : ∀ (v12 : Int32) (v13 : Int32) (v15 : Int32) (kf : Nat) (v14 : Int32) (v16 : Int32) (x17 : bq_S) (eo : Int32 × Int32 × bq_S) (H : Heap) (locs : List Loc) (ls : Array Slot), wh kf (fX10_partsOf_b31 n v12 v13 v15) (v14, v16, x17) = some eo → va_P D bq_cl (bq_wM a k x17) H → va_S A s.heap H locs → lv_has ls 9 [(0, .ref (a 0)), (2, .int v12), (3, .int v13), (4, .int v14), (5, .int v15), (6, .int v16)] → (∀ (H : Heap) (locs : List Loc) (ls : Array Slot) (v49 : Int32) (v50 : Int32) (x51 : bq_S), eo = (v49, v50, x51) → va_P D bq_cl (bq_wM a k x51) H → va_S A s.heap H locs → lv_has ls 9 [(0, .ref (a 0)), (2, .int v12), (3, .int v13), (4, .int v49), (5, .int v15)] → W p l e { frames := 1, cells := 0, slots := 0, locals := 25 } s m [.ref (a 0), .int p1].toArray below meth c H locs 0 0 Q (F0 m 128 ls [])) → W p l e { frames := 1, cells := 0, slots := 0, locals := 25 } s m [.ref (a 0), .int p1].toArray below meth c H locs 0 0 Q (F0 m 31 ls []) := by
                intro v12 v13 v15 kf
                induction kf with
                | zero => intro v14 v16 x17 eo H locs ls h; cases h
                | succ kf ih =>
                  intro v14 v16 x17 eo H locs ls h hP hS hl kx
                  obtain ⟨out, h, hw⟩ := wh_s h
                  unfold fX10_partsOf_b31 at h
                  replace h := un3_e h
                  refine lv_iload hx hb dX10_partsOf_31 (lv_at hl 5 rfl) ?_
                  refine lv_aload_n hx hb dX10_partsOf_33 rfl (lv_at hl 0 rfl) ?_
                  refine bq_get (q0 := 0) S hK hP fl_X10_62_X10_0 rfl rfl rfl dX10_partsOf_34 ?_
                  refine lv_icmp_ge (tgt := 128) hx hb dX10_partsOf_37 (by decide) (fun c18 => ?_) (fun c18 => ?_)
                  · replace h := (if_pos c18).symm.trans h
                    cases h
                    exact kx _ _ _ _ _ _ (Option.some.inj hw).symm hP hS (lv_sub hl [0, 1, 2, 3, 4] rfl)
                  · replace h := (if_neg c18).symm.trans h
                    refine lv_iconst (v := (0 : Int32)) hx hb dX10_partsOf_40 (by decide) ?_
                    refine lv_istore (lv' := [(7, .int (0 : Int32)), (0, .ref (a 0)), (2, .int v12), (3, .int v13), (4, .int v14), (5, .int v15), (6, .int v16)]) hx hb dX10_partsOf_41 hl (by decide) rfl (fun ls hl => ?_)
                    have hl43 : ∀ (v19 : Int32) (v20 : Int32) (v22 : Int32) (v23 : Int32) (kf : Nat) (v21 : Int32) (v24 : Int32) (x25 : bq_S) (eo : Int32 × Int32 × bq_S) (H : Heap) (locs : List Loc) (ls : Array Slot), wh kf (fX10_partsOf_b43 n v19 v20 v22 v23) (v21, v24, x25) = some eo → va_P D bq_cl (bq_wM a k x25) H → va_S A s.heap H locs → lv_has ls 9 [(0, .ref (a 0)), (2, .int v19), (3, .int v20), (4, .int v21), (5, .int v22), (6, .int v23), (7, .int v24)] → (∀ (H : Heap) (locs : List Loc) (ls : Array Slot) (v44 : Int32) (v45 : Int32) (x46 : bq_S), eo = (v44, v45, x46) → va_P D bq_cl (bq_wM a k x46) H → va_S A s.heap H locs → lv_has ls 9 [(0, .ref (a 0)), (2, .int v19), (3, .int v20), (4, .int v44), (5, .int v22), (6, .int v23)] → W p l e { frames := 1, cells := 0, slots := 0, locals := 25 } s m [.ref (a 0), .int p1].toArray below meth c H locs 0 0 Q (F0 m 122 ls [])) → W p l e { frames := 1, cells := 0, slots := 0, locals := 25 } s m [.ref (a 0), .int p1].toArray below meth c H locs 0 0 Q (F0 m 43 ls []) := by
                      intro v19 v20 v22 v23 kf
                      induction kf with
                      | zero => intro v21 v24 x25 eo H locs ls h; cases h
                      | succ kf ih =>
                        intro v21 v24 x25 eo H locs ls h hP hS hl kx
                        obtain ⟨out, h, hw⟩ := wh_s h
                        unfold fX10_partsOf_b43 at h
                        replace h := un3_e h
                        have hj96 : ∀ (v28 : Int32) (v29 : Int32) (v30 : Int32) (x31 : bq_S) (H : Heap) (locs : List Loc) (ls : Array Slot), fX10_partsOf_j96 n v19 v20 v28 v22 v23 v29 v30 x31 = some out → va_P D bq_cl (bq_wM a k x31) H → va_S A s.heap H locs → lv_has ls 9 [(0, .ref (a 0)), (2, .int v19), (3, .int v20), (4, .int v28), (5, .int v22), (6, .int v23), (7, .int v29)] → W p l e { frames := 1, cells := 0, slots := 0, locals := 25 } s m [.ref (a 0), .int p1].toArray below meth c H locs 0 0 Q (F0 m 96 ls [.int v30]) := by
                          intro v28 v29 v30 x31 H locs ls h hP hS hl
                          unfold fX10_partsOf_j96 at h
                          refine lv_istore (lv' := [(8, .int v30), (0, .ref (a 0)), (2, .int v19), (3, .int v20), (4, .int v28), (5, .int v22), (6, .int v23), (7, .int v29)]) hx hb dX10_partsOf_96 hl (by decide) rfl (fun ls hl => ?_)
                          refine lv_iload hx hb dX10_partsOf_98 (lv_at hl 4 rfl) ?_
                          refine lv_iload hx hb dX10_partsOf_100 (lv_at hl 0 rfl) ?_
                          refine lv_if_eq (tgt := 112) hx hb dX10_partsOf_102 (by decide) (fun c32 => ?_) (fun c32 => ?_)
                          · replace h := (if_pos c32).symm.trans h
                            refine lv_iconst (v := (0 : Int32)) hx hb dX10_partsOf_112 (by decide) ?_
                            refine lv_ior hx hb dX10_partsOf_113 ?_
                            refine lv_topi (fun v33 hv33 => ?_)
                            replace h := bq_bv h hv33
                            refine lv_istore (lv' := [(4, .int v33), (8, .int v30), (0, .ref (a 0)), (2, .int v19), (3, .int v20), (5, .int v22), (6, .int v23), (7, .int v29)]) hx hb dX10_partsOf_114 hl (by decide) rfl (fun ls hl => ?_)
                            obtain ⟨v34, hv34, h⟩ := bq_b h
                            refine lv_iinc (v := v34) (lv' := [(7, .int v34), (4, .int v33), (8, .int v30), (0, .ref (a 0)), (2, .int v19), (3, .int v20), (5, .int v22), (6, .int v23)]) hx hb dX10_partsOf_116 hl (k := 7) rfl (by rw [hv34]; rfl) (by decide) rfl (fun ls hl => ?_)
                            refine lv_goto (tgt := 43) hx hb dX10_partsOf_119 (by decide) ?_
                            cases h
                            exact ih _ _ _ _ _ _ _ hw hP hS (lv_sub hl [3, 4, 5, 1, 6, 7, 0] rfl) kx
                          · replace h := (if_neg c32).symm.trans h
                            refine lv_iconst (v := (1 : Int32)) hx hb dX10_partsOf_105 (by decide) ?_
                            refine lv_iload hx hb dX10_partsOf_106 (lv_at hl 7 rfl) ?_
                            refine lv_ishl hx hb dX10_partsOf_108 ?_
                            refine lv_goto (tgt := 113) hx hb dX10_partsOf_109 (by decide) ?_
                            refine lv_ior hx hb dX10_partsOf_113 ?_
                            refine lv_topi (fun v35 hv35 => ?_)
                            replace h := bq_bv h hv35
                            refine lv_istore (lv' := [(4, .int v35), (8, .int v30), (0, .ref (a 0)), (2, .int v19), (3, .int v20), (5, .int v22), (6, .int v23), (7, .int v29)]) hx hb dX10_partsOf_114 hl (by decide) rfl (fun ls hl => ?_)
                            obtain ⟨v36, hv36, h⟩ := bq_b h
                            refine lv_iinc (v := v36) (lv' := [(7, .int v36), (4, .int v35), (8, .int v30), (0, .ref (a 0)), (2, .int v19), (3, .int v20), (5, .int v22), (6, .int v23)]) hx hb dX10_partsOf_116 hl (k := 7) rfl (by rw [hv36]; rfl) (by decide) rfl (fun ls hl => ?_)
                            refine lv_goto (tgt := 43) hx hb dX10_partsOf_119 (by decide) ?_
                            cases h
                            exact ih _ _ _ _ _ _ _ hw hP hS (lv_sub hl [3, 4, 5, 1, 6, 7, 0] rfl) kx
                        refine lv_iload hx hb dX10_partsOf_43 (lv_at hl 6 rfl) ?_
                        refine lv_aload_n hx hb dX10_partsOf_45 rfl (lv_at hl 0 rfl) ?_
                        refine bq_get (q0 := 0) S hK hP fl_X10_62_X10_0 rfl rfl rfl dX10_partsOf_46 ?_
                        refine lv_icmp_ge (tgt := 122) hx hb dX10_partsOf_49 (by decide) (fun c26 => ?_) (fun c26 => ?_)
                        · replace h := (if_pos c26).symm.trans h
                          cases h
                          exact kx _ _ _ _ _ _ (Option.some.inj hw).symm hP hS (lv_sub hl [0, 1, 2, 3, 4, 5] rfl)
                        · replace h := (if_neg c26).symm.trans h
                          refine lv_iload hx hb dX10_partsOf_52 (lv_at hl 5 rfl) ?_
                          refine lv_iload hx hb dX10_partsOf_54 (lv_at hl 6 rfl) ?_
                          refine lv_icmp_eq (tgt := 95) hx hb dX10_partsOf_56 (by decide) (fun c27 => ?_) (fun c27 => ?_)
                          · replace h := (if_pos c27).symm.trans h
                            refine lv_iconst (v := (0 : Int32)) hx hb dX10_partsOf_95 (by decide) ?_
                            exact hj96 _ _ _ _ _ _ _ h hP hS (lv_sub hl [0, 1, 2, 3, 4, 5, 6] rfl)
                          · replace h := (if_neg c27).symm.trans h
                            refine lv_iload hx hb dX10_partsOf_59 (lv_at hl 3 rfl) ?_
                            refine lv_iload hx hb dX10_partsOf_61 (lv_at hl 5 rfl) ?_
                            refine lv_ishr hx hb dX10_partsOf_63 ?_
                            refine lv_iconst (v := (1 : Int32)) hx hb dX10_partsOf_64 (by decide) ?_
                            refine lv_iand hx hb dX10_partsOf_65 ?_
                            refine lv_iconst (v := (1 : Int32)) hx hb dX10_partsOf_66 (by decide) ?_
                            refine lv_icmp_ne (tgt := 95) hx hb dX10_partsOf_67 (by decide) (fun c37 => ?_) (fun c37 => ?_)
                            · replace h := (if_neg c37).symm.trans h
                              refine lv_iconst (v := (0 : Int32)) hx hb dX10_partsOf_95 (by decide) ?_
                              exact hj96 _ _ _ _ _ _ _ h hP hS (lv_sub hl [0, 1, 2, 3, 4, 5, 6] rfl)
                            · replace h := (if_pos c37).symm.trans h
                              refine lv_iload_n hx hb dX10_partsOf_70 rfl (lv_at hl 1 rfl) ?_
                              refine lv_iload hx hb dX10_partsOf_71 (lv_at hl 6 rfl) ?_
                              refine lv_ishr hx hb dX10_partsOf_73 ?_
                              refine lv_iconst (v := (1 : Int32)) hx hb dX10_partsOf_74 (by decide) ?_
                              refine lv_iand hx hb dX10_partsOf_75 ?_
                              refine lv_iconst (v := (1 : Int32)) hx hb dX10_partsOf_76 (by decide) ?_
                              refine lv_icmp_ne (tgt := 95) hx hb dX10_partsOf_77 (by decide) (fun c38 => ?_) (fun c38 => ?_)
                              · replace h := (if_neg c38).symm.trans h
                                refine lv_iconst (v := (0 : Int32)) hx hb dX10_partsOf_95 (by decide) ?_
                                exact hj96 _ _ _ _ _ _ _ h hP hS (lv_sub hl [0, 1, 2, 3, 4, 5, 6] rfl)
                              · replace h := (if_pos c38).symm.trans h
                                refine lv_aload_n hx hb dX10_partsOf_80 rfl (lv_at hl 0 rfl) ?_
                                refine lv_iload hx hb dX10_partsOf_81 (lv_at hl 5 rfl) ?_
                                refine lv_iload hx hb dX10_partsOf_83 (lv_at hl 6 rfl) ?_
                                obtain ⟨o39, ho39, h⟩ := Option.bind_eq_some_iff.mp h
                                obtain ⟨v41, x40⟩ := o39
                                replace h := un2_e h
                                refine bq_callVi (q0 := 0) (As := [.int _, .int _]) S hK hD hA hP hS (cX10_mayTouch_k_0 ho39) hd_yX10_mayTouch ml_X10_83 in_yX10_mayTouch (hts _ sl_X10_X10_yX10_mayTouch) ⟨rfl, rfl⟩ ⟨by decide, by decide⟩ rfl rfl rfl hl.1 rfl (Nat.le_of_ble_eq_true rfl) ⟨Nat.zero_le _, Nat.zero_le _⟩ dX10_partsOf_85 (fun H locs hP hS => ?_)
                                refine lv_if_eq (tgt := 95) hx hb dX10_partsOf_88 (by decide) (fun c42 => ?_) (fun c42 => ?_)
                                · replace h := (if_pos c42).symm.trans h
                                  refine lv_iconst (v := (0 : Int32)) hx hb dX10_partsOf_95 (by decide) ?_
                                  exact hj96 _ _ _ _ _ _ _ h hP hS (lv_sub hl [0, 1, 2, 3, 4, 5, 6] rfl)
                                · replace h := (if_neg c42).symm.trans h
                                  refine lv_iconst (v := (1 : Int32)) hx hb dX10_partsOf_91 (by decide) ?_
                                  refine lv_goto (tgt := 96) hx hb dX10_partsOf_92 (by decide) ?_
                                  exact hj96 _ _ _ _ _ _ _ h hP hS (lv_sub hl [0, 1, 2, 3, 4, 5, 6] rfl)
                    obtain ⟨e43, he43, h⟩ := Option.bind_eq_some_iff.mp h
                    refine hl43 _ _ _ _ n _ _ _ e43 _ _ _ he43 hP hS (lv_sub hl [1, 2, 3, 4, 5, 6, 0] rfl) (fun H locs ls v44 v45 x46 hz hP hS hl => ?_)
                    subst hz
                    replace h := un3_e h
                    obtain ⟨v47, hv47, h⟩ := bq_b h
                    refine lv_iinc (v := v47) (lv' := [(6, .int v47), (0, .ref (a 0)), (2, .int v12), (3, .int v13), (4, .int v44), (5, .int v15)]) hx hb dX10_partsOf_122 hl (k := 5) rfl (by rw [hv47]; rfl) (by decide) rfl (fun ls hl => ?_)
                    refine lv_goto (tgt := 31) hx hb dX10_partsOf_125 (by decide) ?_
                    cases h
                    exact ih _ _ _ _ _ _ _ hw hP hS (lv_sub hl [1, 2, 3, 4, 5, 0] rfl) kx
              obtain ⟨e48, he48, h⟩ := Option.bind_eq_some_iff.mp h
              refine hl31 _ _ _ n _ _ _ e48 _ _ _ he48 hP hS (lv_sub hl [2, 3, 4, 5, 1, 0] rfl) (fun H locs ls v49 v50 x51 hz hP hS hl => ?_)
              subst hz
              replace h := un3_e h
              refine lv_goto (tgt := 17) hx hb dX10_partsOf_128 (by decide) ?_
              cases h
              exact ih _ _ _ _ _ _ _ hw hP hS (lv_sub hl [0, 1, 2, 3, 4] rfl) kx
        obtain ⟨e52, he52, h⟩ := Option.bind_eq_some_iff.mp h
        refine hl17 _ _ n _ _ _ e52 _ _ _ he52 hP hS (lv_sub hl [2, 3, 4, 1, 0] rfl) (fun H locs ls v53 v54 x55 hz hP hS hl => ?_)
        subst hz
        replace h := un3_e h
        refine lv_iload_n hx hb dX10_partsOf_131 rfl (lv_at hl 1 rfl) ?_
        refine lv_iload hx hb dX10_partsOf_132 (lv_at hl 3 rfl) ?_
        refine lv_iconst (v := (-1 : Int32)) hx hb dX10_partsOf_134 (by decide) ?_
        refine lv_ixor hx hb dX10_partsOf_135 ?_
        refine lv_iand hx hb dX10_partsOf_136 ?_
        refine lv_topi (fun v56 hv56 => ?_)
        replace h := bq_bv h hv56
        refine lv_istore_n (lv' := [(2, .int v56), (0, .ref (a 0)), (3, .int v2), (4, .int v53)]) hx hb dX10_partsOf_137 rfl hl (by decide) rfl (fun ls hl => ?_)
        obtain ⟨v57, hv57, h⟩ := bq_b h
        refine lv_iinc (v := v57) (lv' := [(3, .int v57), (2, .int v56), (0, .ref (a 0)), (4, .int v53)]) hx hb dX10_partsOf_138 hl (k := 2) rfl (by rw [hv57]; rfl) (by decide) rfl (fun ls hl => ?_)
        refine lv_goto (tgt := 4) hx hb dX10_partsOf_141 (by decide) ?_
        cases h
        exact ih _ _ _ _ _ _ _ hw hP hS (lv_sub hl [2, 1, 0] rfl) kx
  obtain ⟨e58, he58, h⟩ := Option.bind_eq_some_iff.mp h
  refine hl4 n _ _ _ e58 _ _ _ he58 hP hS (lv_sub hl [2, 1, 0] rfl) (fun H locs ls v59 v60 x61 hz hP hS hl => ?_)
  subst hz
  replace h := un3_e h
  refine lv_iload_n hx hb dX10_partsOf_144 rfl (lv_at hl 0 rfl) ?_
  obtain ⟨e1, e2⟩ := Prod.mk.inj (hret _ h)
  exact hR _ _ _ _ _ (congrArg some e1) rfl (by rw [e2]; exact hP) hS dX10_partsOf_145
def fX10_cut_j97 (n : Nat) (v9 : Int32) (v10 : Int32) (v16 : Int32) (v17 : Int32) (v18 : Int32) (x19 : bq_S) : Option ((Int32 × Int32 × bq_S) ⊕ (Int32 × Int32 × bq_S)) :=
  if v18 = 0 then
  bd (v17 + (1 : Int32)) (fun v21 =>
  some (.inl (v16, v21, x19)))
  else
  if v16 < 0 then
  bd (v17 + (1 : Int32)) (fun v23 =>
  some (.inl (v17, v23, x19)))
  else
  (fX10_size n v17 x19).bind (fun o24 => un2 o24 (fun v26 x25 =>
  (fX10_size n v16 x25).bind (fun o27 => un2 o27 (fun v29 x28 =>
  if v29 ≤ v26 then
  bd (v17 + (1 : Int32)) (fun v31 =>
  some (.inl (v16, v31, x28)))
  else
  bd (v17 + (1 : Int32)) (fun v32 =>
  some (.inl (v17, v32, x28)))))))
def fX10_cut_j88 (n : Nat) (v9 : Int32) (v10 : Int32) (v44 : Int32) (v45 : Int32) (v46 : Int32) (v47 : Int32) (v48 : Int32) (x49 : bq_S) : Option ((Int32 × Int32 × bq_S) ⊕ (Int32 × Int32 × bq_S)) :=
  if v46 ≤ (v47 + v48) then
  fX10_cut_j97 n v9 v10 v44 v45 (0 : Int32) x49
  else
  fX10_cut_j97 n v9 v10 v44 v45 (1 : Int32) x49
def fX10_cut_j64 (n : Nat) (v9 : Int32) (v10 : Int32) (v34 : Int32) (v35 : Int32) (x36 : bq_S) : Option ((Int32 × Int32 × bq_S) ⊕ (Int32 × Int32 × bq_S)) :=
  (fX10_partsOf n (v9 &&& (v35 ^^^ (-1 : Int32))) x36).bind (fun o37 => un2 o37 (fun v39 x38 =>
  (fX10_size n v35 x38).bind (fun o40 => un2 o40 (fun v42 x41 =>
  if v10 = 0 then
  fX10_cut_j88 n v9 v10 v34 v35 v39 v42 (1 : Int32) x41
  else
  fX10_cut_j88 n v9 v10 v34 v35 v39 v42 (0 : Int32) x41))))
def fX10_cut_b40 (n : Nat) (v9 : Int32) (v10 : Int32) (v : Int32 × Int32 × bq_S) : Option ((Int32 × Int32 × bq_S) ⊕ (Int32 × Int32 × bq_S)) :=
  un3 v (fun v11 v12 x13 =>
  if v9 < v12 then
  some (.inr (v11, v12, x13))
  else
  if (v12 &&& (v9 ^^^ (-1 : Int32))) = 0 then
  if v10 = 0 then
  fX10_cut_j64 n v9 v10 v11 v12 x13
  else
  if v12 = 0 then
  fX10_cut_j97 n v9 v10 v11 v12 (0 : Int32) x13
  else
  fX10_cut_j64 n v9 v10 v11 v12 x13
  else
  fX10_cut_j97 n v9 v10 v11 v12 (0 : Int32) x13)
def fX10_cut_j33 (n : Nat) (v6 : Int32) (v7 : Int32) (x8 : bq_S) : Option (Int32 × bq_S) :=
  (wh n (fX10_cut_b40 n v6 v7) ((-4 : Int32), (0 : Int32), x8)).bind (fun e52 => un3 e52 (fun v53 v54 x55 =>
  some (v53, x55)))
def fX10_cut (n : Nat) (p1 : Int32) (x0 : bq_S) : Option (Int32 × bq_S) :=
  (fX10_isSet p1 x0).bind (fun o1 => un2 o1 (fun v3 x2 =>
  if v3 = 0 then
  some ((-1 : Int32), x2)
  else
  if (x2.1 4 (0 : Int32).toNatClampNeg) = (1 : Int32) then
  (fX10_size n p1 x2).bind (fun o56 => un2 o56 (fun v58 x57 =>
  if v58 ≤ (2 : Int32) then
  fX10_cut_j33 n p1 (0 : Int32) x57
  else
  fX10_cut_j33 n p1 (1 : Int32) x57))
  else
  fX10_cut_j33 n p1 (0 : Int32) x2))
theorem dX10_cut_0 : decode cX10_cut 0 = .ok (.aload_n 0, 1) := by decide +kernel
theorem dX10_cut_1 : decode cX10_cut 1 = .ok (.iload_n 1, 1) := by decide +kernel
theorem dX10_cut_2 : decode cX10_cut 2 = .ok (.invokevirtual 142, 3) := by decide +kernel
theorem dX10_cut_5 : decode cX10_cut 5 = .ok (.ifCond .ne 5, 3) := by decide +kernel
theorem dX10_cut_8 : decode cX10_cut 8 = .ok (.iconst (-1), 1) := by decide +kernel
theorem dX10_cut_9 : decode cX10_cut 9 = .ok (.ireturn, 1) := by decide +kernel
theorem dX10_cut_10 : decode cX10_cut 10 = .ok (.aload_n 0, 1) := by decide +kernel
theorem dX10_cut_11 : decode cX10_cut 11 = .ok (.getfield 19, 3) := by decide +kernel
theorem dX10_cut_14 : decode cX10_cut 14 = .ok (.iconst 0, 1) := by decide +kernel
theorem dX10_cut_15 : decode cX10_cut 15 = .ok (.iaload, 1) := by decide +kernel
theorem dX10_cut_16 : decode cX10_cut 16 = .ok (.iconst 1, 1) := by decide +kernel
theorem dX10_cut_17 : decode cX10_cut 17 = .ok (.if_icmp .ne 15, 3) := by decide +kernel
theorem dX10_cut_20 : decode cX10_cut 20 = .ok (.iload_n 1, 1) := by decide +kernel
theorem dX10_cut_21 : decode cX10_cut 21 = .ok (.invokestatic 129, 3) := by decide +kernel
theorem dX10_cut_24 : decode cX10_cut 24 = .ok (.iconst 2, 1) := by decide +kernel
theorem dX10_cut_25 : decode cX10_cut 25 = .ok (.if_icmp .le 7, 3) := by decide +kernel
theorem dX10_cut_28 : decode cX10_cut 28 = .ok (.iconst 1, 1) := by decide +kernel
theorem dX10_cut_29 : decode cX10_cut 29 = .ok (.goto 4, 3) := by decide +kernel
theorem dX10_cut_32 : decode cX10_cut 32 = .ok (.iconst 0, 1) := by decide +kernel
theorem dX10_cut_33 : decode cX10_cut 33 = .ok (.istore_n 2, 1) := by decide +kernel
theorem dX10_cut_34 : decode cX10_cut 34 = .ok (.bipush (-4), 2) := by decide +kernel
theorem dX10_cut_36 : decode cX10_cut 36 = .ok (.istore_n 3, 1) := by decide +kernel
theorem dX10_cut_37 : decode cX10_cut 37 = .ok (.iconst 0, 1) := by decide +kernel
theorem dX10_cut_38 : decode cX10_cut 38 = .ok (.istore 4, 2) := by decide +kernel
theorem dX10_cut_40 : decode cX10_cut 40 = .ok (.iload 4, 2) := by decide +kernel
theorem dX10_cut_42 : decode cX10_cut 42 = .ok (.iload_n 1, 1) := by decide +kernel
theorem dX10_cut_43 : decode cX10_cut 43 = .ok (.if_icmp .gt 90, 3) := by decide +kernel
theorem dX10_cut_46 : decode cX10_cut 46 = .ok (.iload 4, 2) := by decide +kernel
theorem dX10_cut_48 : decode cX10_cut 48 = .ok (.iload_n 1, 1) := by decide +kernel
theorem dX10_cut_49 : decode cX10_cut 49 = .ok (.iconst (-1), 1) := by decide +kernel
theorem dX10_cut_50 : decode cX10_cut 50 = .ok (.ixor, 1) := by decide +kernel
theorem dX10_cut_51 : decode cX10_cut 51 = .ok (.iand, 1) := by decide +kernel
theorem dX10_cut_52 : decode cX10_cut 52 = .ok (.ifCond .ne 44, 3) := by decide +kernel
theorem dX10_cut_55 : decode cX10_cut 55 = .ok (.iload_n 2, 1) := by decide +kernel
theorem dX10_cut_56 : decode cX10_cut 56 = .ok (.ifCond .eq 8, 3) := by decide +kernel
theorem dX10_cut_59 : decode cX10_cut 59 = .ok (.iload 4, 2) := by decide +kernel
theorem dX10_cut_61 : decode cX10_cut 61 = .ok (.ifCond .eq 35, 3) := by decide +kernel
theorem dX10_cut_64 : decode cX10_cut 64 = .ok (.aload_n 0, 1) := by decide +kernel
theorem dX10_cut_65 : decode cX10_cut 65 = .ok (.iload_n 1, 1) := by decide +kernel
theorem dX10_cut_66 : decode cX10_cut 66 = .ok (.iload 4, 2) := by decide +kernel
theorem dX10_cut_68 : decode cX10_cut 68 = .ok (.iconst (-1), 1) := by decide +kernel
theorem dX10_cut_69 : decode cX10_cut 69 = .ok (.ixor, 1) := by decide +kernel
theorem dX10_cut_70 : decode cX10_cut 70 = .ok (.iand, 1) := by decide +kernel
theorem dX10_cut_71 : decode cX10_cut 71 = .ok (.invokevirtual 152, 3) := by decide +kernel
theorem dX10_cut_74 : decode cX10_cut 74 = .ok (.iload 4, 2) := by decide +kernel
theorem dX10_cut_76 : decode cX10_cut 76 = .ok (.invokestatic 129, 3) := by decide +kernel
theorem dX10_cut_79 : decode cX10_cut 79 = .ok (.iload_n 2, 1) := by decide +kernel
theorem dX10_cut_80 : decode cX10_cut 80 = .ok (.ifCond .eq 7, 3) := by decide +kernel
theorem dX10_cut_83 : decode cX10_cut 83 = .ok (.iconst 0, 1) := by decide +kernel
theorem dX10_cut_84 : decode cX10_cut 84 = .ok (.goto 4, 3) := by decide +kernel
theorem dX10_cut_87 : decode cX10_cut 87 = .ok (.iconst 1, 1) := by decide +kernel
theorem dX10_cut_88 : decode cX10_cut 88 = .ok (.iadd, 1) := by decide +kernel
theorem dX10_cut_89 : decode cX10_cut 89 = .ok (.if_icmp .le 7, 3) := by decide +kernel
theorem dX10_cut_92 : decode cX10_cut 92 = .ok (.iconst 1, 1) := by decide +kernel
theorem dX10_cut_93 : decode cX10_cut 93 = .ok (.goto 4, 3) := by decide +kernel
theorem dX10_cut_96 : decode cX10_cut 96 = .ok (.iconst 0, 1) := by decide +kernel
theorem dX10_cut_97 : decode cX10_cut 97 = .ok (.istore 5, 2) := by decide +kernel
theorem dX10_cut_99 : decode cX10_cut 99 = .ok (.iload 5, 2) := by decide +kernel
theorem dX10_cut_101 : decode cX10_cut 101 = .ok (.ifCond .eq 24, 3) := by decide +kernel
theorem dX10_cut_104 : decode cX10_cut 104 = .ok (.iload_n 3, 1) := by decide +kernel
theorem dX10_cut_105 : decode cX10_cut 105 = .ok (.ifCond .lt 15, 3) := by decide +kernel
theorem dX10_cut_108 : decode cX10_cut 108 = .ok (.iload 4, 2) := by decide +kernel
theorem dX10_cut_110 : decode cX10_cut 110 = .ok (.invokestatic 129, 3) := by decide +kernel
theorem dX10_cut_113 : decode cX10_cut 113 = .ok (.iload_n 3, 1) := by decide +kernel
theorem dX10_cut_114 : decode cX10_cut 114 = .ok (.invokestatic 129, 3) := by decide +kernel
theorem dX10_cut_117 : decode cX10_cut 117 = .ok (.if_icmp .ge 8, 3) := by decide +kernel
theorem dX10_cut_120 : decode cX10_cut 120 = .ok (.iload 4, 2) := by decide +kernel
theorem dX10_cut_122 : decode cX10_cut 122 = .ok (.goto 4, 3) := by decide +kernel
theorem dX10_cut_125 : decode cX10_cut 125 = .ok (.iload_n 3, 1) := by decide +kernel
theorem dX10_cut_126 : decode cX10_cut 126 = .ok (.istore_n 3, 1) := by decide +kernel
theorem dX10_cut_127 : decode cX10_cut 127 = .ok (.iinc 4 1, 3) := by decide +kernel
theorem dX10_cut_130 : decode cX10_cut 130 = .ok (.goto (-90), 3) := by decide +kernel
theorem dX10_cut_133 : decode cX10_cut 133 = .ok (.iload_n 3, 1) := by decide +kernel
theorem dX10_cut_134 : decode cX10_cut 134 = .ok (.ireturn, 1) := by decide +kernel
set_option maxHeartbeats 4000000 in
set_option maxRecDepth 100000 in
theorem cX10_cut_k_0 {l : Launch} {D : va_G} {a : Nat → Nat} {k : Nat → ClassId} {n : Nat} {p1 : Int32} {x0 xz : bq_S} {rz : Int32} (h : fX10_cut n p1 x0 = some (rz, xz)) : bq_M l D bq_cl (bq_ty k) (bq_wM a k) yX10_cut cX10_cut 6 (some .int) { frames := 2, cells := 0, slots := 0, locals := 53 } [.ref (a 0), .int p1] x0 (some rz) xz := by
  refine bq_ofW RX10 [(0, .ref (a 0)), (1, .int p1)] (by decide +kernel) rfl (Nat.le_of_ble_eq_true rfl) rfl (bq_adM a k) ?_
  intro p e s m below meth c A Q ls S hK hD hA hR hS hP hl
  have hx := S.1; have hb := S.2.1; have hml := S.2.2.1; have hown := S.2.2.2.1; have hts := S.2.2.2.2
  have hret : ∀ z, some z = some (rz, xz) → (rz, xz) = z := fun z h => (Option.some.inj h).symm
  unfold fX10_cut at h
  have hj33 : ∀ (v6 : Int32) (v7 : Int32) (x8 : bq_S) (H : Heap) (locs : List Loc) (ls : Array Slot), fX10_cut_j33 n v6 v7 x8 = some (rz, xz) → va_P D bq_cl (bq_wM a k x8) H → va_S A s.heap H locs → lv_has ls 6 [(0, .ref (a 0)), (1, .int v6)] → W p l e { frames := 2, cells := 0, slots := 0, locals := 53 } s m [.ref (a 0), .int p1].toArray below meth c H locs 0 0 Q (F0 m 33 ls [.int v7]) := by
    intro v6 v7 x8 H locs ls h hP hS hl
    unfold fX10_cut_j33 at h
    refine lv_istore_n (lv' := [(2, .int v7), (0, .ref (a 0)), (1, .int v6)]) hx hb dX10_cut_33 rfl hl (by decide) rfl (fun ls hl => ?_)
    refine lv_bipush (v := (-4 : Int32)) hx hb dX10_cut_34 (by decide) ?_
    refine lv_istore_n (lv' := [(3, .int (-4 : Int32)), (2, .int v7), (0, .ref (a 0)), (1, .int v6)]) hx hb dX10_cut_36 rfl hl (by decide) rfl (fun ls hl => ?_)
    refine lv_iconst (v := (0 : Int32)) hx hb dX10_cut_37 (by decide) ?_
    refine lv_istore (lv' := [(4, .int (0 : Int32)), (3, .int (-4 : Int32)), (2, .int v7), (0, .ref (a 0)), (1, .int v6)]) hx hb dX10_cut_38 hl (by decide) rfl (fun ls hl => ?_)
    have hl40 : ∀ (v9 : Int32) (v10 : Int32) (kf : Nat) (v11 : Int32) (v12 : Int32) (x13 : bq_S) (eo : Int32 × Int32 × bq_S) (H : Heap) (locs : List Loc) (ls : Array Slot), wh kf (fX10_cut_b40 n v9 v10) (v11, v12, x13) = some eo → va_P D bq_cl (bq_wM a k x13) H → va_S A s.heap H locs → lv_has ls 6 [(0, .ref (a 0)), (1, .int v9), (2, .int v10), (3, .int v11), (4, .int v12)] → (∀ (H : Heap) (locs : List Loc) (ls : Array Slot) (v53 : Int32) (v54 : Int32) (x55 : bq_S), eo = (v53, v54, x55) → va_P D bq_cl (bq_wM a k x55) H → va_S A s.heap H locs → lv_has ls 6 [(3, .int v53)] → W p l e { frames := 2, cells := 0, slots := 0, locals := 53 } s m [.ref (a 0), .int p1].toArray below meth c H locs 0 0 Q (F0 m 133 ls [])) → W p l e { frames := 2, cells := 0, slots := 0, locals := 53 } s m [.ref (a 0), .int p1].toArray below meth c H locs 0 0 Q (F0 m 40 ls []) := by
      intro v9 v10 kf
      induction kf with
      | zero => intro v11 v12 x13 eo H locs ls h; cases h
      | succ kf ih =>
        intro v11 v12 x13 eo H locs ls h hP hS hl kx
        obtain ⟨out, h, hw⟩ := wh_s h
        unfold fX10_cut_b40 at h
        replace h := un3_e h
        have hj97 : ∀ (v16 : Int32) (v17 : Int32) (v18 : Int32) (x19 : bq_S) (H : Heap) (locs : List Loc) (ls : Array Slot), fX10_cut_j97 n v9 v10 v16 v17 v18 x19 = some out → va_P D bq_cl (bq_wM a k x19) H → va_S A s.heap H locs → lv_has ls 6 [(0, .ref (a 0)), (1, .int v9), (2, .int v10), (3, .int v16), (4, .int v17)] → W p l e { frames := 2, cells := 0, slots := 0, locals := 53 } s m [.ref (a 0), .int p1].toArray below meth c H locs 0 0 Q (F0 m 97 ls [.int v18]) := by
          intro v16 v17 v18 x19 H locs ls h hP hS hl
          unfold fX10_cut_j97 at h
          refine lv_istore (lv' := [(5, .int v18), (0, .ref (a 0)), (1, .int v9), (2, .int v10), (3, .int v16), (4, .int v17)]) hx hb dX10_cut_97 hl (by decide) rfl (fun ls hl => ?_)
          refine lv_iload hx hb dX10_cut_99 (lv_at hl 0 rfl) ?_
          refine lv_if_eq (tgt := 125) hx hb dX10_cut_101 (by decide) (fun c20 => ?_) (fun c20 => ?_)
          · replace h := (if_pos c20).symm.trans h
            refine lv_iload_n hx hb dX10_cut_125 rfl (lv_at hl 4 rfl) ?_
            refine lv_istore_n (lv' := [(3, .int v16), (5, .int v18), (0, .ref (a 0)), (1, .int v9), (2, .int v10), (4, .int v17)]) hx hb dX10_cut_126 rfl hl (by decide) rfl (fun ls hl => ?_)
            obtain ⟨v21, hv21, h⟩ := bq_b h
            refine lv_iinc (v := v21) (lv' := [(4, .int v21), (3, .int v16), (5, .int v18), (0, .ref (a 0)), (1, .int v9), (2, .int v10)]) hx hb dX10_cut_127 hl (k := 5) rfl (by rw [hv21]; rfl) (by decide) rfl (fun ls hl => ?_)
            refine lv_goto (tgt := 40) hx hb dX10_cut_130 (by decide) ?_
            cases h
            exact ih _ _ _ _ _ _ _ hw hP hS (lv_sub hl [3, 4, 5, 1, 0] rfl) kx
          · replace h := (if_neg c20).symm.trans h
            refine lv_iload_n hx hb dX10_cut_104 rfl (lv_at hl 4 rfl) ?_
            refine lv_if_lt (tgt := 120) hx hb dX10_cut_105 (by decide) (fun c22 => ?_) (fun c22 => ?_)
            · replace h := (if_pos c22).symm.trans h
              refine lv_iload hx hb dX10_cut_120 (lv_at hl 5 rfl) ?_
              refine lv_goto (tgt := 126) hx hb dX10_cut_122 (by decide) ?_
              refine lv_istore_n (lv' := [(3, .int v17), (5, .int v18), (0, .ref (a 0)), (1, .int v9), (2, .int v10), (4, .int v17)]) hx hb dX10_cut_126 rfl hl (by decide) rfl (fun ls hl => ?_)
              obtain ⟨v23, hv23, h⟩ := bq_b h
              refine lv_iinc (v := v23) (lv' := [(4, .int v23), (3, .int v17), (5, .int v18), (0, .ref (a 0)), (1, .int v9), (2, .int v10)]) hx hb dX10_cut_127 hl (k := 5) rfl (by rw [hv23]; rfl) (by decide) rfl (fun ls hl => ?_)
              refine lv_goto (tgt := 40) hx hb dX10_cut_130 (by decide) ?_
              cases h
              exact ih _ _ _ _ _ _ _ hw hP hS (lv_sub hl [3, 4, 5, 1, 0] rfl) kx
            · replace h := (if_neg c22).symm.trans h
              refine lv_iload hx hb dX10_cut_108 (lv_at hl 5 rfl) ?_
              obtain ⟨o24, ho24, h⟩ := Option.bind_eq_some_iff.mp h
              obtain ⟨v26, x25⟩ := o24
              replace h := un2_e h
              refine bq_callSi (As := [.int _]) S hK hD hA hP hS (cX10_size_k ho24) hd_yX10_size ml_X10_129 st_yX10_size ⟨rfl, rfl⟩ ⟨by decide, by decide⟩ rfl hl.1 rfl (Nat.le_of_ble_eq_true rfl) ⟨Nat.zero_le _, Nat.zero_le _⟩ dX10_cut_110 (fun H locs hP hS => ?_)
              refine lv_iload_n hx hb dX10_cut_113 rfl (lv_at hl 4 rfl) ?_
              obtain ⟨o27, ho27, h⟩ := Option.bind_eq_some_iff.mp h
              obtain ⟨v29, x28⟩ := o27
              replace h := un2_e h
              refine bq_callSi (As := [.int _]) S hK hD hA hP hS (cX10_size_k ho27) hd_yX10_size ml_X10_129 st_yX10_size ⟨rfl, rfl⟩ ⟨by decide, by decide⟩ rfl hl.1 rfl (Nat.le_of_ble_eq_true rfl) ⟨Nat.zero_le _, Nat.zero_le _⟩ dX10_cut_114 (fun H locs hP hS => ?_)
              refine lv_icmp_ge (tgt := 125) hx hb dX10_cut_117 (by decide) (fun c30 => ?_) (fun c30 => ?_)
              · replace h := (if_pos c30).symm.trans h
                refine lv_iload_n hx hb dX10_cut_125 rfl (lv_at hl 4 rfl) ?_
                refine lv_istore_n (lv' := [(3, .int v16), (5, .int v18), (0, .ref (a 0)), (1, .int v9), (2, .int v10), (4, .int v17)]) hx hb dX10_cut_126 rfl hl (by decide) rfl (fun ls hl => ?_)
                obtain ⟨v31, hv31, h⟩ := bq_b h
                refine lv_iinc (v := v31) (lv' := [(4, .int v31), (3, .int v16), (5, .int v18), (0, .ref (a 0)), (1, .int v9), (2, .int v10)]) hx hb dX10_cut_127 hl (k := 5) rfl (by rw [hv31]; rfl) (by decide) rfl (fun ls hl => ?_)
                refine lv_goto (tgt := 40) hx hb dX10_cut_130 (by decide) ?_
                cases h
                exact ih _ _ _ _ _ _ _ hw hP hS (lv_sub hl [3, 4, 5, 1, 0] rfl) kx
              · replace h := (if_neg c30).symm.trans h
                refine lv_iload hx hb dX10_cut_120 (lv_at hl 5 rfl) ?_
                refine lv_goto (tgt := 126) hx hb dX10_cut_122 (by decide) ?_
                refine lv_istore_n (lv' := [(3, .int v17), (5, .int v18), (0, .ref (a 0)), (1, .int v9), (2, .int v10), (4, .int v17)]) hx hb dX10_cut_126 rfl hl (by decide) rfl (fun ls hl => ?_)
                obtain ⟨v32, hv32, h⟩ := bq_b h
                refine lv_iinc (v := v32) (lv' := [(4, .int v32), (3, .int v17), (5, .int v18), (0, .ref (a 0)), (1, .int v9), (2, .int v10)]) hx hb dX10_cut_127 hl (k := 5) rfl (by rw [hv32]; rfl) (by decide) rfl (fun ls hl => ?_)
                refine lv_goto (tgt := 40) hx hb dX10_cut_130 (by decide) ?_
                cases h
                exact ih _ _ _ _ _ _ _ hw hP hS (lv_sub hl [3, 4, 5, 1, 0] rfl) kx
        have hj88 : ∀ (v44 : Int32) (v45 : Int32) (v46 : Int32) (v47 : Int32) (v48 : Int32) (x49 : bq_S) (H : Heap) (locs : List Loc) (ls : Array Slot), fX10_cut_j88 n v9 v10 v44 v45 v46 v47 v48 x49 = some out → va_P D bq_cl (bq_wM a k x49) H → va_S A s.heap H locs → lv_has ls 6 [(0, .ref (a 0)), (1, .int v9), (2, .int v10), (3, .int v44), (4, .int v45)] → W p l e { frames := 2, cells := 0, slots := 0, locals := 53 } s m [.ref (a 0), .int p1].toArray below meth c H locs 0 0 Q (F0 m 88 ls [.int v48, .int v47, .int v46]) := by
          intro v44 v45 v46 v47 v48 x49 H locs ls h hP hS hl
          unfold fX10_cut_j88 at h
          refine lv_iadd hx hb dX10_cut_88 ?_
          refine lv_icmp_le (tgt := 96) hx hb dX10_cut_89 (by decide) (fun c50 => ?_) (fun c50 => ?_)
          · replace h := (if_pos c50).symm.trans h
            refine lv_iconst (v := (0 : Int32)) hx hb dX10_cut_96 (by decide) ?_
            exact hj97 _ _ _ _ _ _ _ h hP hS (lv_sub hl [0, 1, 2, 3, 4] rfl)
          · replace h := (if_neg c50).symm.trans h
            refine lv_iconst (v := (1 : Int32)) hx hb dX10_cut_92 (by decide) ?_
            refine lv_goto (tgt := 97) hx hb dX10_cut_93 (by decide) ?_
            exact hj97 _ _ _ _ _ _ _ h hP hS (lv_sub hl [0, 1, 2, 3, 4] rfl)
        have hj64 : ∀ (v34 : Int32) (v35 : Int32) (x36 : bq_S) (H : Heap) (locs : List Loc) (ls : Array Slot), fX10_cut_j64 n v9 v10 v34 v35 x36 = some out → va_P D bq_cl (bq_wM a k x36) H → va_S A s.heap H locs → lv_has ls 6 [(0, .ref (a 0)), (1, .int v9), (2, .int v10), (3, .int v34), (4, .int v35)] → W p l e { frames := 2, cells := 0, slots := 0, locals := 53 } s m [.ref (a 0), .int p1].toArray below meth c H locs 0 0 Q (F0 m 64 ls []) := by
          intro v34 v35 x36 H locs ls h hP hS hl
          unfold fX10_cut_j64 at h
          refine lv_aload_n hx hb dX10_cut_64 rfl (lv_at hl 0 rfl) ?_
          refine lv_iload_n hx hb dX10_cut_65 rfl (lv_at hl 1 rfl) ?_
          refine lv_iload hx hb dX10_cut_66 (lv_at hl 4 rfl) ?_
          refine lv_iconst (v := (-1 : Int32)) hx hb dX10_cut_68 (by decide) ?_
          refine lv_ixor hx hb dX10_cut_69 ?_
          refine lv_iand hx hb dX10_cut_70 ?_
          obtain ⟨o37, ho37, h⟩ := Option.bind_eq_some_iff.mp h
          obtain ⟨v39, x38⟩ := o37
          replace h := un2_e h
          refine bq_callVi (q0 := 0) (As := [.int _]) S hK hD hA hP hS (cX10_partsOf_k_0 ho37) hd_yX10_partsOf ml_X10_152 in_yX10_partsOf (hts _ sl_X10_X10_yX10_partsOf) ⟨rfl, rfl⟩ ⟨by decide, by decide⟩ rfl rfl rfl hl.1 rfl (Nat.le_of_ble_eq_true rfl) ⟨Nat.zero_le _, Nat.zero_le _⟩ dX10_cut_71 (fun H locs hP hS => ?_)
          refine lv_iload hx hb dX10_cut_74 (lv_at hl 4 rfl) ?_
          obtain ⟨o40, ho40, h⟩ := Option.bind_eq_some_iff.mp h
          obtain ⟨v42, x41⟩ := o40
          replace h := un2_e h
          refine bq_callSi (As := [.int _]) S hK hD hA hP hS (cX10_size_k ho40) hd_yX10_size ml_X10_129 st_yX10_size ⟨rfl, rfl⟩ ⟨by decide, by decide⟩ rfl hl.1 rfl (Nat.le_of_ble_eq_true rfl) ⟨Nat.zero_le _, Nat.zero_le _⟩ dX10_cut_76 (fun H locs hP hS => ?_)
          refine lv_iload_n hx hb dX10_cut_79 rfl (lv_at hl 2 rfl) ?_
          refine lv_if_eq (tgt := 87) hx hb dX10_cut_80 (by decide) (fun c43 => ?_) (fun c43 => ?_)
          · replace h := (if_pos c43).symm.trans h
            refine lv_iconst (v := (1 : Int32)) hx hb dX10_cut_87 (by decide) ?_
            exact hj88 _ _ _ _ _ _ _ _ _ h hP hS (lv_sub hl [0, 1, 2, 3, 4] rfl)
          · replace h := (if_neg c43).symm.trans h
            refine lv_iconst (v := (0 : Int32)) hx hb dX10_cut_83 (by decide) ?_
            refine lv_goto (tgt := 88) hx hb dX10_cut_84 (by decide) ?_
            exact hj88 _ _ _ _ _ _ _ _ _ h hP hS (lv_sub hl [0, 1, 2, 3, 4] rfl)
        refine lv_iload hx hb dX10_cut_40 (lv_at hl 4 rfl) ?_
        refine lv_iload_n hx hb dX10_cut_42 rfl (lv_at hl 1 rfl) ?_
        refine lv_icmp_gt (tgt := 133) hx hb dX10_cut_43 (by decide) (fun c14 => ?_) (fun c14 => ?_)
        · replace h := (if_pos c14).symm.trans h
          cases h
          exact kx _ _ _ _ _ _ (Option.some.inj hw).symm hP hS (lv_sub hl [3] rfl)
        · replace h := (if_neg c14).symm.trans h
          refine lv_iload hx hb dX10_cut_46 (lv_at hl 4 rfl) ?_
          refine lv_iload_n hx hb dX10_cut_48 rfl (lv_at hl 1 rfl) ?_
          refine lv_iconst (v := (-1 : Int32)) hx hb dX10_cut_49 (by decide) ?_
          refine lv_ixor hx hb dX10_cut_50 ?_
          refine lv_iand hx hb dX10_cut_51 ?_
          refine lv_if_ne (tgt := 96) hx hb dX10_cut_52 (by decide) (fun c15 => ?_) (fun c15 => ?_)
          · replace h := (if_neg c15).symm.trans h
            refine lv_iconst (v := (0 : Int32)) hx hb dX10_cut_96 (by decide) ?_
            exact hj97 _ _ _ _ _ _ _ h hP hS (lv_sub hl [0, 1, 2, 3, 4] rfl)
          · replace h := (if_pos c15).symm.trans h
            refine lv_iload_n hx hb dX10_cut_55 rfl (lv_at hl 2 rfl) ?_
            refine lv_if_eq (tgt := 64) hx hb dX10_cut_56 (by decide) (fun c33 => ?_) (fun c33 => ?_)
            · replace h := (if_pos c33).symm.trans h
              exact hj64 _ _ _ _ _ _ h hP hS (lv_sub hl [0, 1, 2, 3, 4] rfl)
            · replace h := (if_neg c33).symm.trans h
              refine lv_iload hx hb dX10_cut_59 (lv_at hl 4 rfl) ?_
              refine lv_if_eq (tgt := 96) hx hb dX10_cut_61 (by decide) (fun c51 => ?_) (fun c51 => ?_)
              · replace h := (if_pos c51).symm.trans h
                refine lv_iconst (v := (0 : Int32)) hx hb dX10_cut_96 (by decide) ?_
                exact hj97 _ _ _ _ _ _ _ h hP hS (lv_sub hl [0, 1, 2, 3, 4] rfl)
              · replace h := (if_neg c51).symm.trans h
                exact hj64 _ _ _ _ _ _ h hP hS (lv_sub hl [0, 1, 2, 3, 4] rfl)
    obtain ⟨e52, he52, h⟩ := Option.bind_eq_some_iff.mp h
    refine hl40 _ _ n _ _ _ e52 _ _ _ he52 hP hS (lv_sub hl [3, 4, 2, 1, 0] rfl) (fun H locs ls v53 v54 x55 hz hP hS hl => ?_)
    subst hz
    replace h := un3_e h
    refine lv_iload_n hx hb dX10_cut_133 rfl (lv_at hl 0 rfl) ?_
    obtain ⟨e1, e2⟩ := Prod.mk.inj (hret _ h)
    exact hR _ _ _ _ _ (congrArg some e1) rfl (by rw [e2]; exact hP) hS dX10_cut_134
  refine lv_aload_n hx hb dX10_cut_0 rfl (lv_at hl 0 rfl) ?_
  refine lv_iload_n hx hb dX10_cut_1 rfl (lv_at hl 1 rfl) ?_
  obtain ⟨o1, ho1, h⟩ := Option.bind_eq_some_iff.mp h
  obtain ⟨v3, x2⟩ := o1
  replace h := un2_e h
  refine bq_callVi (q0 := 0) (As := [.int _]) S hK hD hA hP hS (cX10_isSet_k_0 ho1) hd_yX10_isSet ml_X10_142 in_yX10_isSet (hts _ sl_X10_X10_yX10_isSet) ⟨rfl, rfl⟩ ⟨by decide, by decide⟩ rfl rfl rfl hl.1 rfl (Nat.le_of_ble_eq_true rfl) ⟨Nat.zero_le _, Nat.zero_le _⟩ dX10_cut_2 (fun H locs hP hS => ?_)
  refine lv_if_ne (tgt := 10) hx hb dX10_cut_5 (by decide) (fun c4 => ?_) (fun c4 => ?_)
  · replace h := (if_neg c4).symm.trans h
    refine lv_aload_n hx hb dX10_cut_10 rfl (lv_at hl 0 rfl) ?_
    refine bq_get (q0 := 0) S hK hP fl_X10_19_X10_5 rfl rfl rfl dX10_cut_11 ?_
    refine lv_iconst (v := (0 : Int32)) hx hb dX10_cut_14 (by decide) ?_
    refine va_iald (D := D) hx hb hK hP 4 0 rfl rfl (bq_inl rfl) dX10_cut_15 ?_
    refine lv_iconst (v := (1 : Int32)) hx hb dX10_cut_16 (by decide) ?_
    refine lv_icmp_ne (tgt := 32) hx hb dX10_cut_17 (by decide) (fun c5 => ?_) (fun c5 => ?_)
    · replace h := (if_neg c5).symm.trans h
      refine lv_iconst (v := (0 : Int32)) hx hb dX10_cut_32 (by decide) ?_
      exact hj33 _ _ _ _ _ _ h hP hS (lv_sub hl [0, 1] rfl)
    · replace h := (if_pos c5).symm.trans h
      refine lv_iload_n hx hb dX10_cut_20 rfl (lv_at hl 1 rfl) ?_
      obtain ⟨o56, ho56, h⟩ := Option.bind_eq_some_iff.mp h
      obtain ⟨v58, x57⟩ := o56
      replace h := un2_e h
      refine bq_callSi (As := [.int _]) S hK hD hA hP hS (cX10_size_k ho56) hd_yX10_size ml_X10_129 st_yX10_size ⟨rfl, rfl⟩ ⟨by decide, by decide⟩ rfl hl.1 rfl (Nat.le_of_ble_eq_true rfl) ⟨Nat.zero_le _, Nat.zero_le _⟩ dX10_cut_21 (fun H locs hP hS => ?_)
      refine lv_iconst (v := (2 : Int32)) hx hb dX10_cut_24 (by decide) ?_
      refine lv_icmp_le (tgt := 32) hx hb dX10_cut_25 (by decide) (fun c59 => ?_) (fun c59 => ?_)
      · replace h := (if_pos c59).symm.trans h
        refine lv_iconst (v := (0 : Int32)) hx hb dX10_cut_32 (by decide) ?_
        exact hj33 _ _ _ _ _ _ h hP hS (lv_sub hl [0, 1] rfl)
      · replace h := (if_neg c59).symm.trans h
        refine lv_iconst (v := (1 : Int32)) hx hb dX10_cut_28 (by decide) ?_
        refine lv_goto (tgt := 33) hx hb dX10_cut_29 (by decide) ?_
        exact hj33 _ _ _ _ _ _ h hP hS (lv_sub hl [0, 1] rfl)
  · replace h := (if_pos c4).symm.trans h
    refine lv_iconst (v := (-1 : Int32)) hx hb dX10_cut_8 (by decide) ?_
    obtain ⟨e1, e2⟩ := Prod.mk.inj (hret _ h)
    exact hR _ _ _ _ _ (congrArg some e1) rfl (by rw [e2]; exact hP) hS dX10_cut_9
def fX10_standingSet_b4 (n : Nat) (v : Int32 × Int32 × bq_S) : Option ((Int32 × Int32 × bq_S) ⊕ (Int32 × Int32 × bq_S)) :=
  un3 v (fun v1 v2 x3 =>
  if (x3.1 0 6) ≤ v2 then
  some (.inr (v1, v2, x3))
  else
  if ok_i v2 8 then
  bd (v1 ||| ((1 : Int32) <<< ((x3.1 5 v2.toNatClampNeg) &&& 31))) (fun v6 =>
  bd (v2 + (1 : Int32)) (fun v7 =>
  some (.inl (v6, v7, x3))))
  else none)
def fX10_standingSet (n : Nat) (x0 : bq_S) : Option (Int32 × bq_S) :=
  (wh n (fX10_standingSet_b4 n) ((0 : Int32), (0 : Int32), x0)).bind (fun e8 => un3 e8 (fun v9 v10 x11 =>
  some (v9, x11)))
theorem dX10_standingSet_0 : decode cX10_standingSet 0 = .ok (.iconst 0, 1) := by decide +kernel
theorem dX10_standingSet_1 : decode cX10_standingSet 1 = .ok (.istore_n 1, 1) := by decide +kernel
theorem dX10_standingSet_2 : decode cX10_standingSet 2 = .ok (.iconst 0, 1) := by decide +kernel
theorem dX10_standingSet_3 : decode cX10_standingSet 3 = .ok (.istore_n 2, 1) := by decide +kernel
theorem dX10_standingSet_4 : decode cX10_standingSet 4 = .ok (.iload_n 2, 1) := by decide +kernel
theorem dX10_standingSet_5 : decode cX10_standingSet 5 = .ok (.aload_n 0, 1) := by decide +kernel
theorem dX10_standingSet_6 : decode cX10_standingSet 6 = .ok (.getfield 126, 3) := by decide +kernel
theorem dX10_standingSet_9 : decode cX10_standingSet 9 = .ok (.if_icmp .ge 20, 3) := by decide +kernel
theorem dX10_standingSet_12 : decode cX10_standingSet 12 = .ok (.iload_n 1, 1) := by decide +kernel
theorem dX10_standingSet_13 : decode cX10_standingSet 13 = .ok (.iconst 1, 1) := by decide +kernel
theorem dX10_standingSet_14 : decode cX10_standingSet 14 = .ok (.aload_n 0, 1) := by decide +kernel
theorem dX10_standingSet_15 : decode cX10_standingSet 15 = .ok (.getfield 22, 3) := by decide +kernel
theorem dX10_standingSet_18 : decode cX10_standingSet 18 = .ok (.iload_n 2, 1) := by decide +kernel
theorem dX10_standingSet_19 : decode cX10_standingSet 19 = .ok (.iaload, 1) := by decide +kernel
theorem dX10_standingSet_20 : decode cX10_standingSet 20 = .ok (.ishl, 1) := by decide +kernel
theorem dX10_standingSet_21 : decode cX10_standingSet 21 = .ok (.ior, 1) := by decide +kernel
theorem dX10_standingSet_22 : decode cX10_standingSet 22 = .ok (.istore_n 1, 1) := by decide +kernel
theorem dX10_standingSet_23 : decode cX10_standingSet 23 = .ok (.iinc 2 1, 3) := by decide +kernel
theorem dX10_standingSet_26 : decode cX10_standingSet 26 = .ok (.goto (-22), 3) := by decide +kernel
theorem dX10_standingSet_29 : decode cX10_standingSet 29 = .ok (.iload_n 1, 1) := by decide +kernel
theorem dX10_standingSet_30 : decode cX10_standingSet 30 = .ok (.ireturn, 1) := by decide +kernel
set_option maxHeartbeats 4000000 in
set_option maxRecDepth 100000 in
theorem cX10_standingSet_k_0 {l : Launch} {D : va_G} {a : Nat → Nat} {k : Nat → ClassId} {n : Nat} {x0 xz : bq_S} {rz : Int32} (h : fX10_standingSet n  x0 = some (rz, xz)) : bq_M l D bq_cl (bq_ty k) (bq_wM a k) yX10_standingSet cX10_standingSet 3 (some .int) { frames := 0, cells := 0, slots := 0, locals := 0 } [.ref (a 0)] x0 (some rz) xz := by
  refine bq_ofW RX10 [(0, .ref (a 0))] (by decide +kernel) rfl (Nat.le_of_ble_eq_true rfl) rfl (bq_adM a k) ?_
  intro p e s m below meth c A Q ls S hK hD hA hR hS hP hl
  have hx := S.1; have hb := S.2.1; have hml := S.2.2.1; have hown := S.2.2.2.1; have hts := S.2.2.2.2
  have hret : ∀ z, some z = some (rz, xz) → (rz, xz) = z := fun z h => (Option.some.inj h).symm
  unfold fX10_standingSet at h
  refine lv_iconst (v := (0 : Int32)) hx hb dX10_standingSet_0 (by decide) ?_
  refine lv_istore_n (lv' := [(1, .int (0 : Int32)), (0, .ref (a 0))]) hx hb dX10_standingSet_1 rfl hl (by decide) rfl (fun ls hl => ?_)
  refine lv_iconst (v := (0 : Int32)) hx hb dX10_standingSet_2 (by decide) ?_
  refine lv_istore_n (lv' := [(2, .int (0 : Int32)), (1, .int (0 : Int32)), (0, .ref (a 0))]) hx hb dX10_standingSet_3 rfl hl (by decide) rfl (fun ls hl => ?_)
  have hl4 : ∀ (kf : Nat) (v1 : Int32) (v2 : Int32) (x3 : bq_S) (eo : Int32 × Int32 × bq_S) (H : Heap) (locs : List Loc) (ls : Array Slot), wh kf (fX10_standingSet_b4 n ) (v1, v2, x3) = some eo → va_P D bq_cl (bq_wM a k x3) H → va_S A s.heap H locs → lv_has ls 3 [(0, .ref (a 0)), (1, .int v1), (2, .int v2)] → (∀ (H : Heap) (locs : List Loc) (ls : Array Slot) (v9 : Int32) (v10 : Int32) (x11 : bq_S), eo = (v9, v10, x11) → va_P D bq_cl (bq_wM a k x11) H → va_S A s.heap H locs → lv_has ls 3 [(1, .int v9)] → W p l e { frames := 0, cells := 0, slots := 0, locals := 0 } s m [.ref (a 0)].toArray below meth c H locs 0 0 Q (F0 m 29 ls [])) → W p l e { frames := 0, cells := 0, slots := 0, locals := 0 } s m [.ref (a 0)].toArray below meth c H locs 0 0 Q (F0 m 4 ls []) := by
    intro  kf
    induction kf with
    | zero => intro v1 v2 x3 eo H locs ls h; cases h
    | succ kf ih =>
      intro v1 v2 x3 eo H locs ls h hP hS hl kx
      obtain ⟨out, h, hw⟩ := wh_s h
      unfold fX10_standingSet_b4 at h
      replace h := un3_e h
      refine lv_iload_n hx hb dX10_standingSet_4 rfl (lv_at hl 2 rfl) ?_
      refine lv_aload_n hx hb dX10_standingSet_5 rfl (lv_at hl 0 rfl) ?_
      refine bq_get (q0 := 0) S hK hP fl_X10_126_X10_6 rfl rfl rfl dX10_standingSet_6 ?_
      refine lv_icmp_ge (tgt := 29) hx hb dX10_standingSet_9 (by decide) (fun c4 => ?_) (fun c4 => ?_)
      · replace h := (if_pos c4).symm.trans h
        cases h
        exact kx _ _ _ _ _ _ (Option.some.inj hw).symm hP hS (lv_sub hl [1] rfl)
      · replace h := (if_neg c4).symm.trans h
        refine lv_iload_n hx hb dX10_standingSet_12 rfl (lv_at hl 1 rfl) ?_
        refine lv_iconst (v := (1 : Int32)) hx hb dX10_standingSet_13 (by decide) ?_
        refine lv_aload_n hx hb dX10_standingSet_14 rfl (lv_at hl 0 rfl) ?_
        refine bq_get (q0 := 0) S hK hP fl_X10_22_X10_7 rfl rfl rfl dX10_standingSet_15 ?_
        refine lv_iload_n hx hb dX10_standingSet_18 rfl (lv_at hl 2 rfl) ?_
        obtain ⟨g5, h⟩ := bq_gd h
        refine va_iald (D := D) hx hb hK hP 5 0 rfl rfl g5 dX10_standingSet_19 ?_
        refine lv_ishl hx hb dX10_standingSet_20 ?_
        refine lv_ior hx hb dX10_standingSet_21 ?_
        refine lv_topi (fun v6 hv6 => ?_)
        replace h := bq_bv h hv6
        refine lv_istore_n (lv' := [(1, .int v6), (0, .ref (a 0)), (2, .int v2)]) hx hb dX10_standingSet_22 rfl hl (by decide) rfl (fun ls hl => ?_)
        obtain ⟨v7, hv7, h⟩ := bq_b h
        refine lv_iinc (v := v7) (lv' := [(2, .int v7), (1, .int v6), (0, .ref (a 0))]) hx hb dX10_standingSet_23 hl (k := 2) rfl (by rw [hv7]; rfl) (by decide) rfl (fun ls hl => ?_)
        refine lv_goto (tgt := 4) hx hb dX10_standingSet_26 (by decide) ?_
        cases h
        exact ih _ _ _ _ _ _ _ hw hP hS (lv_sub hl [2, 1, 0] rfl) kx
  obtain ⟨e8, he8, h⟩ := Option.bind_eq_some_iff.mp h
  refine hl4 n _ _ _ e8 _ _ _ he8 hP hS (lv_sub hl [2, 1, 0] rfl) (fun H locs ls v9 v10 x11 hz hP hS hl => ?_)
  subst hz
  replace h := un3_e h
  refine lv_iload_n hx hb dX10_standingSet_29 rfl (lv_at hl 0 rfl) ?_
  obtain ⟨e1, e2⟩ := Prod.mk.inj (hret _ h)
  exact hR _ _ _ _ _ (congrArg some e1) rfl (by rw [e2]; exact hP) hS dX10_standingSet_30
