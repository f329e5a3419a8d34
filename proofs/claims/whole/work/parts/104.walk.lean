def fX4_placeOf_b2 (n : Nat) (r1 : Nat) (v2 : Int32) (v : Int32 × bq_S) : Option ((Int32 × bq_S) ⊕ ((Int32 × bq_S) ⊕ (Int32 × bq_S))) :=
  un2 v (fun v3 x4 =>
  if (x4.1 r1 2) ≤ v3 then
  some (.inr (.inl (v3, x4)))
  else
  if ok_i v3 8 then
  if (x4.1 (r1 + 5) v3.toNatClampNeg) = v2 then
  some (.inr (.inr (v3, x4)))
  else
  bd (v3 + (1 : Int32)) (fun v8 =>
  some (.inl (v8, x4)))
  else none)
def fX4_placeOf (n : Nat) (q0 : Nat) (p1 : Int32) (x0 : bq_S) : Option (Int32 × bq_S) :=
  (wh n (fX4_placeOf_b2 n q0 p1) ((0 : Int32), x0)).bind (fun e9 =>
  Sum.elim (fun z => un2 z (fun v10 x11 =>
  some ((-1 : Int32), x11))) (fun z => some z) e9)
theorem dX4_placeOf_0 : decode cX4_placeOf 0 = .ok (.iconst 0, 1) := by decide +kernel
theorem dX4_placeOf_1 : decode cX4_placeOf 1 = .ok (.istore_n 2, 1) := by decide +kernel
theorem dX4_placeOf_2 : decode cX4_placeOf 2 = .ok (.iload_n 2, 1) := by decide +kernel
theorem dX4_placeOf_3 : decode cX4_placeOf 3 = .ok (.aload_n 0, 1) := by decide +kernel
theorem dX4_placeOf_4 : decode cX4_placeOf 4 = .ok (.getfield 18, 3) := by decide +kernel
theorem dX4_placeOf_7 : decode cX4_placeOf 7 = .ok (.if_icmp .ge 21, 3) := by decide +kernel
theorem dX4_placeOf_10 : decode cX4_placeOf 10 = .ok (.aload_n 0, 1) := by decide +kernel
theorem dX4_placeOf_11 : decode cX4_placeOf 11 = .ok (.getfield 34, 3) := by decide +kernel
theorem dX4_placeOf_14 : decode cX4_placeOf 14 = .ok (.iload_n 2, 1) := by decide +kernel
theorem dX4_placeOf_15 : decode cX4_placeOf 15 = .ok (.iaload, 1) := by decide +kernel
theorem dX4_placeOf_16 : decode cX4_placeOf 16 = .ok (.iload_n 1, 1) := by decide +kernel
theorem dX4_placeOf_17 : decode cX4_placeOf 17 = .ok (.if_icmp .ne 5, 3) := by decide +kernel
theorem dX4_placeOf_20 : decode cX4_placeOf 20 = .ok (.iload_n 2, 1) := by decide +kernel
theorem dX4_placeOf_21 : decode cX4_placeOf 21 = .ok (.ireturn, 1) := by decide +kernel
theorem dX4_placeOf_22 : decode cX4_placeOf 22 = .ok (.iinc 2 1, 3) := by decide +kernel
theorem dX4_placeOf_25 : decode cX4_placeOf 25 = .ok (.goto (-23), 3) := by decide +kernel
theorem dX4_placeOf_28 : decode cX4_placeOf 28 = .ok (.iconst (-1), 1) := by decide +kernel
theorem dX4_placeOf_29 : decode cX4_placeOf 29 = .ok (.ireturn, 1) := by decide +kernel
set_option maxHeartbeats 4000000 in
set_option maxRecDepth 100000 in
theorem cX4_placeOf_k_1 {l : Launch} {D : va_G} {a : Nat → Nat} {k : Nat → ClassId} {n : Nat} {p1 : Int32} {x0 xz : bq_S} {rz : Int32} (h : fX4_placeOf n 1 p1 x0 = some (rz, xz)) : bq_M l D bq_cl (bq_ty k) (bq_wC a k) yX4_placeOf cX4_placeOf 3 (some .int) { frames := 0, cells := 0, slots := 0, locals := 0 } [.ref (a 1), .int p1] x0 (some rz) xz := by
  refine bq_ofW RX4 [(0, .ref (a 1)), (1, .int p1)] (by decide +kernel) rfl (Nat.le_of_ble_eq_true rfl) rfl (bq_adC a k) ?_
  intro p e s m below meth c A Q ls S hK hD hA hR hS hP hl
  have hx := S.1; have hb := S.2.1; have hml := S.2.2.1; have hown := S.2.2.2.1; have hts := S.2.2.2.2
  have hret : ∀ z, some z = some (rz, xz) → (rz, xz) = z := fun z h => (Option.some.inj h).symm
  unfold fX4_placeOf at h
  refine lv_iconst (v := (0 : Int32)) hx hb dX4_placeOf_0 (by decide) ?_
  refine lv_istore_n (lv' := [(2, .int (0 : Int32)), (0, .ref (a 1)), (1, .int p1)]) hx hb dX4_placeOf_1 rfl hl (by decide) rfl (fun ls hl => ?_)
  have hl2 : ∀ (v2 : Int32) (kf : Nat) (v3 : Int32) (x4 : bq_S) (eo : (Int32 × bq_S) ⊕ (Int32 × bq_S)) (H : Heap) (locs : List Loc) (ls : Array Slot), wh kf (fX4_placeOf_b2 n 1 v2) (v3, x4) = some eo → va_P D bq_cl (bq_wC a k x4) H → va_S A s.heap H locs → lv_has ls 3 [(0, .ref (a 1)), (1, .int v2), (2, .int v3)] → (∀ (H : Heap) (locs : List Loc) (ls : Array Slot) (v10 : Int32) (x11 : bq_S), eo = .inl (v10, x11) → va_P D bq_cl (bq_wC a k x11) H → va_S A s.heap H locs → lv_has ls 3 [] → W p l e { frames := 0, cells := 0, slots := 0, locals := 0 } s m [.ref (a 1), .int p1].toArray below meth c H locs 0 0 Q (F0 m 28 ls [])) → (∀ z, eo = .inr z → (rz, xz) = z) → W p l e { frames := 0, cells := 0, slots := 0, locals := 0 } s m [.ref (a 1), .int p1].toArray below meth c H locs 0 0 Q (F0 m 2 ls []) := by
    intro v2 kf
    induction kf with
    | zero => intro v3 x4 eo H locs ls h; cases h
    | succ kf ih =>
      intro v3 x4 eo H locs ls h hP hS hl kx kr
      obtain ⟨out, h, hw⟩ := wh_s h
      have hret : ∀ z, (some (.inr (.inr z)) : Option ((Int32 × bq_S) ⊕ ((Int32 × bq_S) ⊕ (Int32 × bq_S)))) = some out → (rz, xz) = z := fun z h => kr z (by cases h; exact (Option.some.inj hw).symm)
      unfold fX4_placeOf_b2 at h
      replace h := un2_e h
      refine lv_iload_n hx hb dX4_placeOf_2 rfl (lv_at hl 2 rfl) ?_
      refine lv_aload_n hx hb dX4_placeOf_3 rfl (lv_at hl 0 rfl) ?_
      refine bq_get (q0 := 1) S hK hP fl_X4_18_X4_2 rfl rfl rfl dX4_placeOf_4 ?_
      refine lv_icmp_ge (tgt := 28) hx hb dX4_placeOf_7 (by decide) (fun c5 => ?_) (fun c5 => ?_)
      · replace h := (if_pos c5).symm.trans h
        cases h
        exact kx _ _ _ _ _ (Option.some.inj hw).symm hP hS (lv_sub hl [] rfl)
      · replace h := (if_neg c5).symm.trans h
        refine lv_aload_n hx hb dX4_placeOf_10 rfl (lv_at hl 0 rfl) ?_
        refine bq_get (q0 := 1) S hK hP fl_X4_34_X4_7 rfl rfl rfl dX4_placeOf_11 ?_
        refine lv_iload_n hx hb dX4_placeOf_14 rfl (lv_at hl 2 rfl) ?_
        obtain ⟨g6, h⟩ := bq_gd h
        refine va_iald (D := D) hx hb hK hP 6 0 rfl rfl g6 dX4_placeOf_15 ?_
        refine lv_iload_n hx hb dX4_placeOf_16 rfl (lv_at hl 1 rfl) ?_
        refine lv_icmp_ne (tgt := 22) hx hb dX4_placeOf_17 (by decide) (fun c7 => ?_) (fun c7 => ?_)
        · replace h := (if_neg c7).symm.trans h
          obtain ⟨v8, hv8, h⟩ := bq_b h
          refine lv_iinc (v := v8) (lv' := [(2, .int v8), (0, .ref (a 1)), (1, .int v2)]) hx hb dX4_placeOf_22 hl (k := 2) rfl (by rw [hv8]; rfl) (by decide) rfl (fun ls hl => ?_)
          refine lv_goto (tgt := 2) hx hb dX4_placeOf_25 (by decide) ?_
          cases h
          exact ih _ _ _ _ _ _ hw hP hS (lv_sub hl [1, 2, 0] rfl) kx kr
        · replace h := (if_pos c7).symm.trans h
          refine lv_iload_n hx hb dX4_placeOf_20 rfl (lv_at hl 2 rfl) ?_
          obtain ⟨e1, e2⟩ := Prod.mk.inj (hret _ h)
          exact hR _ _ _ _ _ (congrArg some e1) rfl (by rw [e2]; exact hP) hS dX4_placeOf_21
  obtain ⟨e9, he9, h⟩ := Option.bind_eq_some_iff.mp h
  refine hl2 _ n _ _ e9 _ _ _ he9 hP hS (lv_sub hl [1, 2, 0] rfl) (fun H locs ls v10 x11 hz hP hS hl => ?_) (fun z hz => hret z (bq_ir h hz :))
  replace h := bq_il h hz
  replace h := un2_e h
  refine lv_iconst (v := (-1 : Int32)) hx hb dX4_placeOf_28 (by decide) ?_
  obtain ⟨e1, e2⟩ := Prod.mk.inj (hret _ h)
  exact hR _ _ _ _ _ (congrArg some e1) rfl (by rw [e2]; exact hP) hS dX4_placeOf_29
def fX5_chainAt_b26 (n : Nat) (v6 : Int32) (v7 : Int32) (v : Int32 × Int32 × bq_S) : Option ((Int32 × Int32 × bq_S) ⊕ (Int32 × Int32 × bq_S)) :=
  un3 v (fun v8 v9 x10 =>
  if v6 ≤ v9 then
  some (.inr (v8, v9, x10))
  else
  if ok_i v9 8 then
  (fX4_placeOf n 1 (x10.1 30 v9.toNatClampNeg) x10).bind (fun o13 => un2 o13 (fun v15 x14 =>
  if v7 ≤ v15 then
  bd (v9 + (1 : Int32)) (fun v17 =>
  some (.inl (v8, v17, x14)))
  else
  if ok_i v9 8 then
  bd (if v8 < (x14.1 31 v9.toNatClampNeg) then (x14.1 31 v9.toNatClampNeg) else v8) (fun v19 =>
  bd (v9 + (1 : Int32)) (fun v20 =>
  some (.inl (v19, v20, x14))))
  else none))
  else none)
def fX5_chainAt (n : Nat) (p1 : Int32) (x0 : bq_S) : Option (Int32 × bq_S) :=
  if ok_i p1 8 then
  (fX4_placeOf n 1 (x0.1 30 p1.toNatClampNeg) x0).bind (fun o2 => un2 o2 (fun v4 x3 =>
  if v4 = (-1 : Int32) then
  some ((0 : Int32), x3)
  else
  (wh n (fX5_chainAt_b26 n p1 v4) ((0 : Int32), (0 : Int32), x3)).bind (fun e21 => un3 e21 (fun v22 v23 x24 =>
  some ((v22 + (1 : Int32)), x24)))))
  else none
theorem dX5_chainAt_0 : decode cX5_chainAt 0 = .ok (.aload_n 0, 1) := by decide +kernel
theorem dX5_chainAt_1 : decode cX5_chainAt 1 = .ok (.getfield 9, 3) := by decide +kernel
theorem dX5_chainAt_4 : decode cX5_chainAt 4 = .ok (.aload_n 0, 1) := by decide +kernel
theorem dX5_chainAt_5 : decode cX5_chainAt 5 = .ok (.getfield 15, 3) := by decide +kernel
theorem dX5_chainAt_8 : decode cX5_chainAt 8 = .ok (.iload_n 1, 1) := by decide +kernel
theorem dX5_chainAt_9 : decode cX5_chainAt 9 = .ok (.iaload, 1) := by decide +kernel
theorem dX5_chainAt_10 : decode cX5_chainAt 10 = .ok (.invokevirtual 74, 3) := by decide +kernel
theorem dX5_chainAt_13 : decode cX5_chainAt 13 = .ok (.istore_n 2, 1) := by decide +kernel
theorem dX5_chainAt_14 : decode cX5_chainAt 14 = .ok (.iload_n 2, 1) := by decide +kernel
theorem dX5_chainAt_15 : decode cX5_chainAt 15 = .ok (.iconst (-1), 1) := by decide +kernel
theorem dX5_chainAt_16 : decode cX5_chainAt 16 = .ok (.if_icmp .ne 5, 3) := by decide +kernel
theorem dX5_chainAt_19 : decode cX5_chainAt 19 = .ok (.iconst 0, 1) := by decide +kernel
theorem dX5_chainAt_20 : decode cX5_chainAt 20 = .ok (.ireturn, 1) := by decide +kernel
theorem dX5_chainAt_21 : decode cX5_chainAt 21 = .ok (.iconst 0, 1) := by decide +kernel
theorem dX5_chainAt_22 : decode cX5_chainAt 22 = .ok (.istore_n 3, 1) := by decide +kernel
theorem dX5_chainAt_23 : decode cX5_chainAt 23 = .ok (.iconst 0, 1) := by decide +kernel
theorem dX5_chainAt_24 : decode cX5_chainAt 24 = .ok (.istore 4, 2) := by decide +kernel
theorem dX5_chainAt_26 : decode cX5_chainAt 26 = .ok (.iload 4, 2) := by decide +kernel
theorem dX5_chainAt_28 : decode cX5_chainAt 28 = .ok (.iload_n 1, 1) := by decide +kernel
theorem dX5_chainAt_29 : decode cX5_chainAt 29 = .ok (.if_icmp .ge 39, 3) := by decide +kernel
theorem dX5_chainAt_32 : decode cX5_chainAt 32 = .ok (.aload_n 0, 1) := by decide +kernel
theorem dX5_chainAt_33 : decode cX5_chainAt 33 = .ok (.getfield 9, 3) := by decide +kernel
theorem dX5_chainAt_36 : decode cX5_chainAt 36 = .ok (.aload_n 0, 1) := by decide +kernel
theorem dX5_chainAt_37 : decode cX5_chainAt 37 = .ok (.getfield 15, 3) := by decide +kernel
theorem dX5_chainAt_40 : decode cX5_chainAt 40 = .ok (.iload 4, 2) := by decide +kernel
theorem dX5_chainAt_42 : decode cX5_chainAt 42 = .ok (.iaload, 1) := by decide +kernel
theorem dX5_chainAt_43 : decode cX5_chainAt 43 = .ok (.invokevirtual 74, 3) := by decide +kernel
theorem dX5_chainAt_46 : decode cX5_chainAt 46 = .ok (.iload_n 2, 1) := by decide +kernel
theorem dX5_chainAt_47 : decode cX5_chainAt 47 = .ok (.if_icmp .ge 15, 3) := by decide +kernel
theorem dX5_chainAt_50 : decode cX5_chainAt 50 = .ok (.iload_n 3, 1) := by decide +kernel
theorem dX5_chainAt_51 : decode cX5_chainAt 51 = .ok (.aload_n 0, 1) := by decide +kernel
theorem dX5_chainAt_52 : decode cX5_chainAt 52 = .ok (.getfield 19, 3) := by decide +kernel
theorem dX5_chainAt_55 : decode cX5_chainAt 55 = .ok (.iload 4, 2) := by decide +kernel
theorem dX5_chainAt_57 : decode cX5_chainAt 57 = .ok (.iaload, 1) := by decide +kernel
theorem dX5_chainAt_58 : decode cX5_chainAt 58 = .ok (.invokestatic 65, 3) := by decide +kernel
theorem dX5_chainAt_61 : decode cX5_chainAt 61 = .ok (.istore_n 3, 1) := by decide +kernel
theorem dX5_chainAt_62 : decode cX5_chainAt 62 = .ok (.iinc 4 1, 3) := by decide +kernel
theorem dX5_chainAt_65 : decode cX5_chainAt 65 = .ok (.goto (-39), 3) := by decide +kernel
theorem dX5_chainAt_68 : decode cX5_chainAt 68 = .ok (.iload_n 3, 1) := by decide +kernel
theorem dX5_chainAt_69 : decode cX5_chainAt 69 = .ok (.iconst 1, 1) := by decide +kernel
theorem dX5_chainAt_70 : decode cX5_chainAt 70 = .ok (.iadd, 1) := by decide +kernel
theorem dX5_chainAt_71 : decode cX5_chainAt 71 = .ok (.ireturn, 1) := by decide +kernel
set_option maxHeartbeats 4000000 in
set_option maxRecDepth 100000 in
theorem cX5_chainAt_k_29 {l : Launch} {D : va_G} {a : Nat → Nat} {k : Nat → ClassId} {n : Nat} {p1 : Int32} {x0 xz : bq_S} {rz : Int32} (h : fX5_chainAt n p1 x0 = some (rz, xz)) : bq_M l D bq_cl (bq_ty k) (bq_wC a k) yX5_chainAt cX5_chainAt 5 (some .int) { frames := 1, cells := 0, slots := 0, locals := 22 } [.ref (a 29), .int p1] x0 (some rz) xz := by
  refine bq_ofW RX5 [(0, .ref (a 29)), (1, .int p1)] (by decide +kernel) rfl (Nat.le_of_ble_eq_true rfl) rfl (bq_adC a k) ?_
  intro p e s m below meth c A Q ls S hK hD hA hR hS hP hl
  have hx := S.1; have hb := S.2.1; have hml := S.2.2.1; have hown := S.2.2.2.1; have hts := S.2.2.2.2
  have hret : ∀ z, some z = some (rz, xz) → (rz, xz) = z := fun z h => (Option.some.inj h).symm
  unfold fX5_chainAt at h
  refine lv_aload_n hx hb dX5_chainAt_0 rfl (lv_at hl 0 rfl) ?_
  refine bq_get (q0 := 29) S hK hP fl_X5_9_X5_1 rfl rfl rfl dX5_chainAt_1 ?_
  refine lv_aload_n hx hb dX5_chainAt_4 rfl (lv_at hl 0 rfl) ?_
  refine bq_get (q0 := 29) S hK hP fl_X5_15_X5_0 rfl rfl rfl dX5_chainAt_5 ?_
  refine lv_iload_n hx hb dX5_chainAt_8 rfl (lv_at hl 1 rfl) ?_
  obtain ⟨g1, h⟩ := bq_gd h
  refine va_iald (D := D) hx hb hK hP 30 0 rfl rfl g1 dX5_chainAt_9 ?_
  obtain ⟨o2, ho2, h⟩ := Option.bind_eq_some_iff.mp h
  obtain ⟨v4, x3⟩ := o2
  replace h := un2_e h
  refine bq_callVi (q0 := 1) (As := [.int _]) S hK hD hA hP hS (cX4_placeOf_k_1 ho2) hd_yX4_placeOf ml_X5_74 in_yX4_placeOf (hts _ sl_X4_X4_yX4_placeOf) ⟨rfl, rfl⟩ ⟨by decide, by decide⟩ rfl rfl rfl hl.1 rfl (Nat.le_of_ble_eq_true rfl) ⟨Nat.zero_le _, Nat.zero_le _⟩ dX5_chainAt_10 (fun H locs hP hS => ?_)
  refine lv_istore_n (lv' := [(2, .int v4), (0, .ref (a 29)), (1, .int p1)]) hx hb dX5_chainAt_13 rfl hl (by decide) rfl (fun ls hl => ?_)
  refine lv_iload_n hx hb dX5_chainAt_14 rfl (lv_at hl 0 rfl) ?_
  refine lv_iconst (v := (-1 : Int32)) hx hb dX5_chainAt_15 (by decide) ?_
  refine lv_icmp_ne (tgt := 21) hx hb dX5_chainAt_16 (by decide) (fun c5 => ?_) (fun c5 => ?_)
  · replace h := (if_neg c5).symm.trans h
    refine lv_iconst (v := (0 : Int32)) hx hb dX5_chainAt_21 (by decide) ?_
    refine lv_istore_n (lv' := [(3, .int (0 : Int32)), (2, .int v4), (0, .ref (a 29)), (1, .int p1)]) hx hb dX5_chainAt_22 rfl hl (by decide) rfl (fun ls hl => ?_)
    refine lv_iconst (v := (0 : Int32)) hx hb dX5_chainAt_23 (by decide) ?_
    refine lv_istore (lv' := [(4, .int (0 : Int32)), (3, .int (0 : Int32)), (2, .int v4), (0, .ref (a 29)), (1, .int p1)]) hx hb dX5_chainAt_24 hl (by decide) rfl (fun ls hl => ?_)
    have hl26 : ∀ (v6 : Int32) (v7 : Int32) (kf : Nat) (v8 : Int32) (v9 : Int32) (x10 : bq_S) (eo : Int32 × Int32 × bq_S) (H : Heap) (locs : List Loc) (ls : Array Slot), wh kf (fX5_chainAt_b26 n v6 v7) (v8, v9, x10) = some eo → va_P D bq_cl (bq_wC a k x10) H → va_S A s.heap H locs → lv_has ls 5 [(0, .ref (a 29)), (1, .int v6), (2, .int v7), (3, .int v8), (4, .int v9)] → (∀ (H : Heap) (locs : List Loc) (ls : Array Slot) (v22 : Int32) (v23 : Int32) (x24 : bq_S), eo = (v22, v23, x24) → va_P D bq_cl (bq_wC a k x24) H → va_S A s.heap H locs → lv_has ls 5 [(3, .int v22)] → W p l e { frames := 1, cells := 0, slots := 0, locals := 22 } s m [.ref (a 29), .int p1].toArray below meth c H locs 0 0 Q (F0 m 68 ls [])) → W p l e { frames := 1, cells := 0, slots := 0, locals := 22 } s m [.ref (a 29), .int p1].toArray below meth c H locs 0 0 Q (F0 m 26 ls []) := by
      intro v6 v7 kf
      induction kf with
      | zero => intro v8 v9 x10 eo H locs ls h; cases h
      | succ kf ih =>
        intro v8 v9 x10 eo H locs ls h hP hS hl kx
        obtain ⟨out, h, hw⟩ := wh_s h
        unfold fX5_chainAt_b26 at h
        replace h := un3_e h
        refine lv_iload hx hb dX5_chainAt_26 (lv_at hl 4 rfl) ?_
        refine lv_iload_n hx hb dX5_chainAt_28 rfl (lv_at hl 1 rfl) ?_
        refine lv_icmp_ge (tgt := 68) hx hb dX5_chainAt_29 (by decide) (fun c11 => ?_) (fun c11 => ?_)
        · replace h := (if_pos c11).symm.trans h
          cases h
          exact kx _ _ _ _ _ _ (Option.some.inj hw).symm hP hS (lv_sub hl [3] rfl)
        · replace h := (if_neg c11).symm.trans h
          refine lv_aload_n hx hb dX5_chainAt_32 rfl (lv_at hl 0 rfl) ?_
          refine bq_get (q0 := 29) S hK hP fl_X5_9_X5_1 rfl rfl rfl dX5_chainAt_33 ?_
          refine lv_aload_n hx hb dX5_chainAt_36 rfl (lv_at hl 0 rfl) ?_
          refine bq_get (q0 := 29) S hK hP fl_X5_15_X5_0 rfl rfl rfl dX5_chainAt_37 ?_
          refine lv_iload hx hb dX5_chainAt_40 (lv_at hl 4 rfl) ?_
          obtain ⟨g12, h⟩ := bq_gd h
          refine va_iald (D := D) hx hb hK hP 30 0 rfl rfl g12 dX5_chainAt_42 ?_
          obtain ⟨o13, ho13, h⟩ := Option.bind_eq_some_iff.mp h
          obtain ⟨v15, x14⟩ := o13
          replace h := un2_e h
          refine bq_callVi (q0 := 1) (As := [.int _]) S hK hD hA hP hS (cX4_placeOf_k_1 ho13) hd_yX4_placeOf ml_X5_74 in_yX4_placeOf (hts _ sl_X4_X4_yX4_placeOf) ⟨rfl, rfl⟩ ⟨by decide, by decide⟩ rfl rfl rfl hl.1 rfl (Nat.le_of_ble_eq_true rfl) ⟨Nat.zero_le _, Nat.zero_le _⟩ dX5_chainAt_43 (fun H locs hP hS => ?_)
          refine lv_iload_n hx hb dX5_chainAt_46 rfl (lv_at hl 2 rfl) ?_
          refine lv_icmp_ge (tgt := 62) hx hb dX5_chainAt_47 (by decide) (fun c16 => ?_) (fun c16 => ?_)
          · replace h := (if_pos c16).symm.trans h
            obtain ⟨v17, hv17, h⟩ := bq_b h
            refine lv_iinc (v := v17) (lv' := [(4, .int v17), (0, .ref (a 29)), (1, .int v6), (2, .int v7), (3, .int v8)]) hx hb dX5_chainAt_62 hl (k := 4) rfl (by rw [hv17]; rfl) (by decide) rfl (fun ls hl => ?_)
            refine lv_goto (tgt := 26) hx hb dX5_chainAt_65 (by decide) ?_
            cases h
            exact ih _ _ _ _ _ _ _ hw hP hS (lv_sub hl [1, 2, 3, 4, 0] rfl) kx
          · replace h := (if_neg c16).symm.trans h
            refine lv_iload_n hx hb dX5_chainAt_50 rfl (lv_at hl 3 rfl) ?_
            refine lv_aload_n hx hb dX5_chainAt_51 rfl (lv_at hl 0 rfl) ?_
            refine bq_get (q0 := 29) S hK hP fl_X5_19_X5_2 rfl rfl rfl dX5_chainAt_52 ?_
            refine lv_iload hx hb dX5_chainAt_55 (lv_at hl 4 rfl) ?_
            obtain ⟨g18, h⟩ := bq_gd h
            refine va_iald (D := D) hx hb hK hP 31 0 rfl rfl g18 dX5_chainAt_57 ?_
            refine va_mmax hx hb (hml.trans hl.1.symm) hown (hts _ ml_X5_65) (hts _ st_yJ9_max_7cf53) (hts _ ini_Math) (hts _ cd_Math_max) (by decide) (Nat.le_of_ble_eq_true rfl) (Nat.zero_le _) (Nat.zero_le _) dX5_chainAt_58 ?_
            refine lv_topi (fun v19 hv19 => ?_)
            replace h := bq_bv h hv19
            refine lv_istore_n (lv' := [(3, .int v19), (0, .ref (a 29)), (1, .int v6), (2, .int v7), (4, .int v9)]) hx hb dX5_chainAt_61 rfl hl (by decide) rfl (fun ls hl => ?_)
            obtain ⟨v20, hv20, h⟩ := bq_b h
            refine lv_iinc (v := v20) (lv' := [(4, .int v20), (3, .int v19), (0, .ref (a 29)), (1, .int v6), (2, .int v7)]) hx hb dX5_chainAt_62 hl (k := 4) rfl (by rw [hv20]; rfl) (by decide) rfl (fun ls hl => ?_)
            refine lv_goto (tgt := 26) hx hb dX5_chainAt_65 (by decide) ?_
            cases h
            exact ih _ _ _ _ _ _ _ hw hP hS (lv_sub hl [2, 3, 4, 1, 0] rfl) kx
    obtain ⟨e21, he21, h⟩ := Option.bind_eq_some_iff.mp h
    refine hl26 _ _ n _ _ _ e21 _ _ _ he21 hP hS (lv_sub hl [3, 4, 2, 1, 0] rfl) (fun H locs ls v22 v23 x24 hz hP hS hl => ?_)
    subst hz
    replace h := un3_e h
    refine lv_iload_n hx hb dX5_chainAt_68 rfl (lv_at hl 0 rfl) ?_
    refine lv_iconst (v := (1 : Int32)) hx hb dX5_chainAt_69 (by decide) ?_
    refine lv_iadd hx hb dX5_chainAt_70 ?_
    obtain ⟨e1, e2⟩ := Prod.mk.inj (hret _ h)
    exact hR _ _ _ _ _ (congrArg some e1) rfl (by rw [e2]; exact hP) hS dX5_chainAt_71
  · replace h := (if_pos c5).symm.trans h
    refine lv_iconst (v := (0 : Int32)) hx hb dX5_chainAt_19 (by decide) ?_
    obtain ⟨e1, e2⟩ := Prod.mk.inj (hret _ h)
    exact hR _ _ _ _ _ (congrArg some e1) rfl (by rw [e2]; exact hP) hS dX5_chainAt_20
set_option maxHeartbeats 4000000 in
set_option maxRecDepth 100000 in
theorem cX4_firstApart_k_1_30 {l : Launch} {D : va_G} {a : Nat → Nat} {k : Nat → ClassId} {n : Nat} {p2 : Int32} {x0 xz : bq_S} {rz : Int32} (h : fX4_firstApart n 1 30 8 p2 x0 = some (rz, xz)) : bq_M l D bq_cl (bq_ty k) (bq_wC a k) yX4_firstApart cX4_firstApart 4 (some .int) { frames := 1, cells := 0, slots := 0, locals := 22 } [.ref (a 1), .ref (a 30), .int p2] x0 (some rz) xz := by
  refine bq_ofW RX4 [(0, .ref (a 1)), (1, .ref (a 30)), (2, .int p2)] (by decide +kernel) rfl (Nat.le_of_ble_eq_true rfl) rfl (bq_adC a k) ?_
  intro p e s m below meth c A Q ls S hK hD hA hR hS hP hl
  have hx := S.1; have hb := S.2.1; have hml := S.2.2.1; have hown := S.2.2.2.1; have hts := S.2.2.2.2
  have hret : ∀ z, some z = some (rz, xz) → (rz, xz) = z := fun z h => (Option.some.inj h).symm
  unfold fX4_firstApart at h
  refine lv_iconst (v := (0 : Int32)) hx hb dX4_firstApart_0 (by decide) ?_
  refine lv_istore_n (lv' := [(3, .int (0 : Int32)), (0, .ref (a 1)), (1, .ref (a 30)), (2, .int p2)]) hx hb dX4_firstApart_1 rfl hl (by decide) rfl (fun ls hl => ?_)
  have hl2 : ∀ (v4 : Int32) (kf : Nat) (v5 : Int32) (x6 : bq_S) (eo : (Int32 × bq_S) ⊕ (Int32 × bq_S)) (H : Heap) (locs : List Loc) (ls : Array Slot), wh kf (fX4_firstApart_b2 n 1 30 8 v4) (v5, x6) = some eo → va_P D bq_cl (bq_wC a k x6) H → va_S A s.heap H locs → lv_has ls 4 [(0, .ref (a 1)), (1, .ref (a 30)), (2, .int v4), (3, .int v5)] → (∀ (H : Heap) (locs : List Loc) (ls : Array Slot) (v16 : Int32) (x17 : bq_S), eo = .inl (v16, x17) → va_P D bq_cl (bq_wC a k x17) H → va_S A s.heap H locs → lv_has ls 4 [(0, .ref (a 1)), (1, .ref (a 30)), (2, .int v4)] → W p l e { frames := 1, cells := 0, slots := 0, locals := 22 } s m [.ref (a 1), .ref (a 30), .int p2].toArray below meth c H locs 0 0 Q (F0 m 32 ls [])) → (∀ z, eo = .inr z → (rz, xz) = z) → W p l e { frames := 1, cells := 0, slots := 0, locals := 22 } s m [.ref (a 1), .ref (a 30), .int p2].toArray below meth c H locs 0 0 Q (F0 m 2 ls []) := by
    intro v4 kf
    induction kf with
    | zero => intro v5 x6 eo H locs ls h; cases h
    | succ kf ih =>
      intro v5 x6 eo H locs ls h hP hS hl kx kr
      obtain ⟨out, h, hw⟩ := wh_s h
      have hret : ∀ z, (some (.inr (.inr z)) : Option ((Int32 × bq_S) ⊕ ((Int32 × bq_S) ⊕ (Int32 × bq_S)))) = some out → (rz, xz) = z := fun z h => kr z (by cases h; exact (Option.some.inj hw).symm)
      unfold fX4_firstApart_b2 at h
      replace h := un2_e h
      refine lv_iload_n hx hb dX4_firstApart_2 rfl (lv_at hl 3 rfl) ?_
      refine lv_iconst (v := (1 : Int32)) hx hb dX4_firstApart_3 (by decide) ?_
      refine lv_iadd hx hb dX4_firstApart_4 ?_
      refine lv_iload_n hx hb dX4_firstApart_5 rfl (lv_at hl 2 rfl) ?_
      refine lv_icmp_ge (tgt := 32) hx hb dX4_firstApart_6 (by decide) (fun c7 => ?_) (fun c7 => ?_)
      · replace h := (if_pos c7).symm.trans h
        cases h
        exact kx _ _ _ _ _ (Option.some.inj hw).symm hP hS (lv_sub hl [0, 1, 2] rfl)
      · replace h := (if_neg c7).symm.trans h
        refine lv_aload_n hx hb dX4_firstApart_9 rfl (lv_at hl 0 rfl) ?_
        refine lv_aload_n hx hb dX4_firstApart_10 rfl (lv_at hl 1 rfl) ?_
        refine lv_iload_n hx hb dX4_firstApart_11 rfl (lv_at hl 3 rfl) ?_
        obtain ⟨g8, h⟩ := bq_gd h
        refine va_iald (D := D) hx hb hK hP 30 0 rfl rfl g8 dX4_firstApart_12 ?_
        refine lv_aload_n hx hb dX4_firstApart_13 rfl (lv_at hl 1 rfl) ?_
        refine lv_iload_n hx hb dX4_firstApart_14 rfl (lv_at hl 3 rfl) ?_
        refine lv_iconst (v := (1 : Int32)) hx hb dX4_firstApart_15 (by decide) ?_
        refine lv_iadd hx hb dX4_firstApart_16 ?_
        obtain ⟨g9, h⟩ := bq_gd h
        refine va_iald (D := D) hx hb hK hP 30 0 rfl rfl g9 dX4_firstApart_17 ?_
        obtain ⟨o10, ho10, h⟩ := Option.bind_eq_some_iff.mp h
        obtain ⟨v12, x11⟩ := o10
        replace h := un2_e h
        refine bq_callVi (q0 := 1) (As := [.int _, .int _]) S hK hD hA hP hS (cX4_touches_k_1 ho10) hd_yX4_touches ml_X4_84 in_yX4_touches (hts _ sl_X4_X4_yX4_touches) ⟨rfl, rfl⟩ ⟨by decide, by decide⟩ rfl rfl rfl hl.1 rfl (Nat.le_of_ble_eq_true rfl) ⟨Nat.zero_le _, Nat.zero_le _⟩ dX4_firstApart_18 (fun H locs hP hS => ?_)
        refine lv_if_ne (tgt := 26) hx hb dX4_firstApart_21 (by decide) (fun c13 => ?_) (fun c13 => ?_)
        · replace h := (if_neg c13).symm.trans h
          obtain ⟨v14, hv14, h⟩ := bq_b h
          refine lv_iinc (v := v14) (lv' := [(3, .int v14), (0, .ref (a 1)), (1, .ref (a 30)), (2, .int v4)]) hx hb dX4_firstApart_26 hl (k := 3) rfl (by rw [hv14]; rfl) (by decide) rfl (fun ls hl => ?_)
          refine lv_goto (tgt := 2) hx hb dX4_firstApart_29 (by decide) ?_
          cases h
          exact ih _ _ _ _ _ _ hw hP hS (lv_sub hl [1, 2, 3, 0] rfl) kx kr
        · replace h := (if_pos c13).symm.trans h
          refine lv_iload_n hx hb dX4_firstApart_24 rfl (lv_at hl 3 rfl) ?_
          obtain ⟨e1, e2⟩ := Prod.mk.inj (hret _ h)
          exact hR _ _ _ _ _ (congrArg some e1) rfl (by rw [e2]; exact hP) hS dX4_firstApart_25
  obtain ⟨e15, he15, h⟩ := Option.bind_eq_some_iff.mp h
  refine hl2 _ n _ _ e15 _ _ _ he15 hP hS (lv_sub hl [1, 2, 3, 0] rfl) (fun H locs ls v16 x17 hz hP hS hl => ?_) (fun z hz => hret z (bq_ir h hz :))
  replace h := bq_il h hz
  replace h := un2_e h
  refine lv_aload_n hx hb dX4_firstApart_32 rfl (lv_at hl 0 rfl) ?_
  refine lv_iload_n hx hb dX4_firstApart_33 rfl (lv_at hl 2 rfl) ?_
  obtain ⟨o18, ho18, h⟩ := Option.bind_eq_some_iff.mp h
  obtain ⟨v20, x19⟩ := o18
  replace h := un2_e h
  refine bq_callVi (q0 := 1) (As := [.int _]) S hK hD hA hP hS (cX4_closes_k_1 ho18) hd_yX4_closes ml_X4_87 in_yX4_closes (hts _ sl_X4_X4_yX4_closes) ⟨rfl, rfl⟩ ⟨by decide, by decide⟩ rfl rfl rfl hl.1 rfl (Nat.le_of_ble_eq_true rfl) ⟨Nat.zero_le _, Nat.zero_le _⟩ dX4_firstApart_34 (fun H locs hP hS => ?_)
  refine lv_if_eq (tgt := 59) hx hb dX4_firstApart_37 (by decide) (fun c21 => ?_) (fun c21 => ?_)
  · replace h := (if_pos c21).symm.trans h
    refine lv_bipush (v := (-4 : Int32)) hx hb dX4_firstApart_59 (by decide) ?_
    obtain ⟨e1, e2⟩ := Prod.mk.inj (hret _ h)
    exact hR _ _ _ _ _ (congrArg some e1) rfl (by rw [e2]; exact hP) hS dX4_firstApart_61
  · replace h := (if_neg c21).symm.trans h
    refine lv_aload_n hx hb dX4_firstApart_40 rfl (lv_at hl 0 rfl) ?_
    refine lv_aload_n hx hb dX4_firstApart_41 rfl (lv_at hl 1 rfl) ?_
    refine lv_iload_n hx hb dX4_firstApart_42 rfl (lv_at hl 2 rfl) ?_
    refine lv_iconst (v := (1 : Int32)) hx hb dX4_firstApart_43 (by decide) ?_
    refine lv_isub hx hb dX4_firstApart_44 ?_
    obtain ⟨g22, h⟩ := bq_gd h
    refine va_iald (D := D) hx hb hK hP 30 0 rfl rfl g22 dX4_firstApart_45 ?_
    refine lv_aload_n hx hb dX4_firstApart_46 rfl (lv_at hl 1 rfl) ?_
    refine lv_iconst (v := (0 : Int32)) hx hb dX4_firstApart_47 (by decide) ?_
    obtain ⟨g23, h⟩ := bq_gd h
    refine va_iald (D := D) hx hb hK hP 30 0 rfl rfl g23 dX4_firstApart_48 ?_
    obtain ⟨o24, ho24, h⟩ := Option.bind_eq_some_iff.mp h
    obtain ⟨v26, x25⟩ := o24
    replace h := un2_e h
    refine bq_callVi (q0 := 1) (As := [.int _, .int _]) S hK hD hA hP hS (cX4_touches_k_1 ho24) hd_yX4_touches ml_X4_84 in_yX4_touches (hts _ sl_X4_X4_yX4_touches) ⟨rfl, rfl⟩ ⟨by decide, by decide⟩ rfl rfl rfl hl.1 rfl (Nat.le_of_ble_eq_true rfl) ⟨Nat.zero_le _, Nat.zero_le _⟩ dX4_firstApart_49 (fun H locs hP hS => ?_)
    refine lv_if_ne (tgt := 59) hx hb dX4_firstApart_52 (by decide) (fun c27 => ?_) (fun c27 => ?_)
    · replace h := (if_neg c27).symm.trans h
      refine lv_bipush (v := (-4 : Int32)) hx hb dX4_firstApart_59 (by decide) ?_
      obtain ⟨e1, e2⟩ := Prod.mk.inj (hret _ h)
      exact hR _ _ _ _ _ (congrArg some e1) rfl (by rw [e2]; exact hP) hS dX4_firstApart_61
    · replace h := (if_pos c27).symm.trans h
      refine lv_iload_n hx hb dX4_firstApart_55 rfl (lv_at hl 2 rfl) ?_
      refine lv_iconst (v := (1 : Int32)) hx hb dX4_firstApart_56 (by decide) ?_
      refine lv_isub hx hb dX4_firstApart_57 ?_
      obtain ⟨e1, e2⟩ := Prod.mk.inj (hret _ h)
      exact hR _ _ _ _ _ (congrArg some e1) rfl (by rw [e2]; exact hP) hS dX4_firstApart_58
def fX4_isLawful (n : Nat) (q0 : Nat) (q1 : Nat) (la1 : Nat) (p2 : Int32) (x0 : bq_S) : Option (Int32 × bq_S) :=
  (fX4_firstApart n q0 q1 la1 p2 x0).bind (fun o1 => un2 o1 (fun v3 x2 =>
  if v3 = (-4 : Int32) then
  some ((1 : Int32), x2)
  else
  some ((0 : Int32), x2)))
theorem dX4_isLawful_0 : decode cX4_isLawful 0 = .ok (.aload_n 0, 1) := by decide +kernel
theorem dX4_isLawful_1 : decode cX4_isLawful 1 = .ok (.aload_n 1, 1) := by decide +kernel
theorem dX4_isLawful_2 : decode cX4_isLawful 2 = .ok (.iload_n 2, 1) := by decide +kernel
theorem dX4_isLawful_3 : decode cX4_isLawful 3 = .ok (.invokevirtual 91, 3) := by decide +kernel
theorem dX4_isLawful_6 : decode cX4_isLawful 6 = .ok (.bipush (-4), 2) := by decide +kernel
theorem dX4_isLawful_8 : decode cX4_isLawful 8 = .ok (.if_icmp .ne 7, 3) := by decide +kernel
theorem dX4_isLawful_11 : decode cX4_isLawful 11 = .ok (.iconst 1, 1) := by decide +kernel
theorem dX4_isLawful_12 : decode cX4_isLawful 12 = .ok (.goto 4, 3) := by decide +kernel
theorem dX4_isLawful_15 : decode cX4_isLawful 15 = .ok (.iconst 0, 1) := by decide +kernel
theorem dX4_isLawful_16 : decode cX4_isLawful 16 = .ok (.ireturn, 1) := by decide +kernel
set_option maxHeartbeats 4000000 in
set_option maxRecDepth 100000 in
theorem cX4_isLawful_k_1_30 {l : Launch} {D : va_G} {a : Nat → Nat} {k : Nat → ClassId} {n : Nat} {p2 : Int32} {x0 xz : bq_S} {rz : Int32} (h : fX4_isLawful n 1 30 8 p2 x0 = some (rz, xz)) : bq_M l D bq_cl (bq_ty k) (bq_wC a k) yX4_isLawful cX4_isLawful 3 (some .boolean) { frames := 2, cells := 0, slots := 0, locals := 45 } [.ref (a 1), .ref (a 30), .int p2] x0 (some rz) xz := by
  refine bq_ofW RX4 [(0, .ref (a 1)), (1, .ref (a 30)), (2, .int p2)] (by decide +kernel) rfl (Nat.le_of_ble_eq_true rfl) rfl (bq_adC a k) ?_
  intro p e s m below meth c A Q ls S hK hD hA hR hS hP hl
  have hx := S.1; have hb := S.2.1; have hml := S.2.2.1; have hown := S.2.2.2.1; have hts := S.2.2.2.2
  have hret : ∀ z, some z = some (rz, xz) → (rz, xz) = z := fun z h => (Option.some.inj h).symm
  unfold fX4_isLawful at h
  refine lv_aload_n hx hb dX4_isLawful_0 rfl (lv_at hl 0 rfl) ?_
  refine lv_aload_n hx hb dX4_isLawful_1 rfl (lv_at hl 1 rfl) ?_
  refine lv_iload_n hx hb dX4_isLawful_2 rfl (lv_at hl 2 rfl) ?_
  obtain ⟨o1, ho1, h⟩ := Option.bind_eq_some_iff.mp h
  obtain ⟨v3, x2⟩ := o1
  replace h := un2_e h
  refine bq_callVi (q0 := 1) (As := [.ref (a 30), .int _]) S hK hD hA hP hS (cX4_firstApart_k_1_30 ho1) hd_yX4_firstApart ml_X4_91 in_yX4_firstApart (hts _ sl_X4_X4_yX4_firstApart) ⟨rfl, rfl⟩ ⟨by decide, by decide⟩ rfl rfl rfl hl.1 rfl (Nat.le_of_ble_eq_true rfl) ⟨Nat.zero_le _, Nat.zero_le _⟩ dX4_isLawful_3 (fun H locs hP hS => ?_)
  refine lv_bipush (v := (-4 : Int32)) hx hb dX4_isLawful_6 (by decide) ?_
  refine lv_icmp_ne (tgt := 15) hx hb dX4_isLawful_8 (by decide) (fun c4 => ?_) (fun c4 => ?_)
  · replace h := (if_neg c4).symm.trans h
    refine lv_iconst (v := (0 : Int32)) hx hb dX4_isLawful_15 (by decide) ?_
    obtain ⟨e1, e2⟩ := Prod.mk.inj (hret _ h)
    exact hR _ _ _ _ _ (congrArg some e1) rfl (by rw [e2]; exact hP) hS dX4_isLawful_16
  · replace h := (if_pos c4).symm.trans h
    refine lv_iconst (v := (1 : Int32)) hx hb dX4_isLawful_11 (by decide) ?_
    refine lv_goto (tgt := 16) hx hb dX4_isLawful_12 (by decide) ?_
    obtain ⟨e1, e2⟩ := Prod.mk.inj (hret _ h)
    exact hR _ _ _ _ _ (congrArg some e1) rfl (by rw [e2]; exact hP) hS dX4_isLawful_16
def fX5_search_j77 (n : Nat) (rec : Int32 → Int32 → Int32 → bq_S → Option (Int32 × bq_S)) (v2 : Int32) (v3 : Int32) (v4 : Int32) (v14 : Int32) (x15 : bq_S) : Option ((Int32 × bq_S) ⊕ ((Int32 × bq_S) ⊕ (Int32 × bq_S))) :=
  if ok_i v2 8 then
  bd (bq_sI x15 30 v2.toNatClampNeg v14) (fun x16 =>
  (fX5_chainAt n v2 x16).bind (fun o18 => un2 o18 (fun v20 x19 =>
  if ok_i v2 8 then
  bd (bq_sI x19 31 v2.toNatClampNeg v20) (fun x21 =>
  if ok_i v2 8 then
  bd (if v4 < (x21.1 31 v2.toNatClampNeg) then (x21.1 31 v2.toNatClampNeg) else v4) (fun v24 =>
  (fX9_bit v14 x21).bind (fun o25 => un2 o25 (fun v27 x26 =>
  (fJ6_bitCount ((v3 ||| v27) &&& (x26.1 29 4)) x26).bind (fun o28 => un2 o28 (fun v30 x29 =>
  if (x29.1 29 6) < (v30 - v24) then
  bd (v14 + (1 : Int32)) (fun v32 =>
  some (.inl (v32, x29)))
  else
  (fX9_bit v14 x29).bind (fun o33 => un2 o33 (fun v35 x34 =>
  (rec (v2 + (1 : Int32)) (v3 ||| v35) v24 x34).bind (fun o36 => un2 o36 (fun v38 x37 =>
  if v38 = 0 then
  bd (v14 + (1 : Int32)) (fun v40 =>
  some (.inl (v40, x37)))
  else
  some (.inr (.inr ((1 : Int32), x37))))))))))))
  else none)
  else none)))
  else none
def fX5_search_b27 (n : Nat) (rec : Int32 → Int32 → Int32 → bq_S → Option (Int32 × bq_S)) (v2 : Int32) (v3 : Int32) (v4 : Int32) (v : Int32 × bq_S) : Option ((Int32 × bq_S) ⊕ ((Int32 × bq_S) ⊕ (Int32 × bq_S))) :=
  un2 v (fun v5 x6 =>
  if (8 : Int32) ≤ v5 then
  some (.inr (.inl (v5, x6)))
  else
  (fX9_has ((x6.1 29 3) &&& (v3 ^^^ (-1 : Int32))) v5 x6).bind (fun o8 => un2 o8 (fun v10 x9 =>
  if v10 = 0 then
  bd (v5 + (1 : Int32)) (fun v12 =>
  some (.inl (v12, x9)))
  else
  if v2 ≤ 0 then
  fX5_search_j77 n rec v2 v3 v4 v5 x9
  else
  if ok_i (v2 - (1 : Int32)) 8 then
  (fX4_touches 1 (x9.1 30 (v2 - (1 : Int32)).toNatClampNeg) v5 x9).bind (fun o42 => un2 o42 (fun v44 x43 =>
  if v44 = 0 then
  bd (v5 + (1 : Int32)) (fun v46 =>
  some (.inl (v46, x43)))
  else
  fX5_search_j77 n rec v2 v3 v4 v5 x43))
  else none)))
def fX5_search_r (n : Nat) (rec : Int32 → Int32 → Int32 → bq_S → Option (Int32 × bq_S)) (p1 : Int32) (p2 : Int32) (p3 : Int32) (x0 : bq_S) : Option (Int32 × bq_S) :=
  if p1 < (x0.1 29 5) then
  (wh n (fX5_search_b27 n rec p1 p2 p3) ((0 : Int32), x0)).bind (fun e47 =>
  Sum.elim (fun z => un2 z (fun v48 x49 =>
  some ((0 : Int32), x49))) (fun z => some z) e47)
  else
  (fX4_isLawful n 1 30 8 (x0.1 29 5) x0).bind (fun o50 => un2 o50 (fun v52 x51 =>
  if v52 = 0 ∨ v52 = 1 then
  some (v52, x51)
  else none))
theorem dX5_search_0 : decode cX5_search 0 = .ok (.iload_n 1, 1) := by decide +kernel
theorem dX5_search_1 : decode cX5_search 1 = .ok (.aload_n 0, 1) := by decide +kernel
theorem dX5_search_2 : decode cX5_search 2 = .ok (.getfield 29, 3) := by decide +kernel
theorem dX5_search_5 : decode cX5_search 5 = .ok (.if_icmp .lt 19, 3) := by decide +kernel
theorem dX5_search_8 : decode cX5_search 8 = .ok (.aload_n 0, 1) := by decide +kernel
theorem dX5_search_9 : decode cX5_search 9 = .ok (.getfield 9, 3) := by decide +kernel
theorem dX5_search_12 : decode cX5_search 12 = .ok (.aload_n 0, 1) := by decide +kernel
theorem dX5_search_13 : decode cX5_search 13 = .ok (.getfield 15, 3) := by decide +kernel
theorem dX5_search_16 : decode cX5_search 16 = .ok (.aload_n 0, 1) := by decide +kernel
theorem dX5_search_17 : decode cX5_search 17 = .ok (.getfield 29, 3) := by decide +kernel
theorem dX5_search_20 : decode cX5_search 20 = .ok (.invokevirtual 51, 3) := by decide +kernel
theorem dX5_search_23 : decode cX5_search 23 = .ok (.ireturn, 1) := by decide +kernel
theorem dX5_search_24 : decode cX5_search 24 = .ok (.iconst 0, 1) := by decide +kernel
theorem dX5_search_25 : decode cX5_search 25 = .ok (.istore 4, 2) := by decide +kernel
theorem dX5_search_27 : decode cX5_search 27 = .ok (.iload 4, 2) := by decide +kernel
theorem dX5_search_29 : decode cX5_search 29 = .ok (.bipush 8, 2) := by decide +kernel
theorem dX5_search_31 : decode cX5_search 31 = .ok (.if_icmp .ge 133, 3) := by decide +kernel
theorem dX5_search_34 : decode cX5_search 34 = .ok (.aload_n 0, 1) := by decide +kernel
theorem dX5_search_35 : decode cX5_search 35 = .ok (.getfield 22, 3) := by decide +kernel
theorem dX5_search_38 : decode cX5_search 38 = .ok (.iload_n 2, 1) := by decide +kernel
theorem dX5_search_39 : decode cX5_search 39 = .ok (.iconst (-1), 1) := by decide +kernel
theorem dX5_search_40 : decode cX5_search 40 = .ok (.ixor, 1) := by decide +kernel
theorem dX5_search_41 : decode cX5_search 41 = .ok (.iand, 1) := by decide +kernel
theorem dX5_search_42 : decode cX5_search 42 = .ok (.iload 4, 2) := by decide +kernel
theorem dX5_search_44 : decode cX5_search 44 = .ok (.invokestatic 55, 3) := by decide +kernel
theorem dX5_search_47 : decode cX5_search 47 = .ok (.ifCond .eq 111, 3) := by decide +kernel
theorem dX5_search_50 : decode cX5_search 50 = .ok (.iload_n 1, 1) := by decide +kernel
theorem dX5_search_51 : decode cX5_search 51 = .ok (.ifCond .le 26, 3) := by decide +kernel
theorem dX5_search_54 : decode cX5_search 54 = .ok (.aload_n 0, 1) := by decide +kernel
theorem dX5_search_55 : decode cX5_search 55 = .ok (.getfield 9, 3) := by decide +kernel
theorem dX5_search_58 : decode cX5_search 58 = .ok (.aload_n 0, 1) := by decide +kernel
theorem dX5_search_59 : decode cX5_search 59 = .ok (.getfield 15, 3) := by decide +kernel
theorem dX5_search_62 : decode cX5_search 62 = .ok (.iload_n 1, 1) := by decide +kernel
theorem dX5_search_63 : decode cX5_search 63 = .ok (.iconst 1, 1) := by decide +kernel
theorem dX5_search_64 : decode cX5_search 64 = .ok (.isub, 1) := by decide +kernel
theorem dX5_search_65 : decode cX5_search 65 = .ok (.iaload, 1) := by decide +kernel
theorem dX5_search_66 : decode cX5_search 66 = .ok (.iload 4, 2) := by decide +kernel
theorem dX5_search_68 : decode cX5_search 68 = .ok (.invokevirtual 59, 3) := by decide +kernel
theorem dX5_search_71 : decode cX5_search 71 = .ok (.ifCond .ne 6, 3) := by decide +kernel
theorem dX5_search_74 : decode cX5_search 74 = .ok (.goto 84, 3) := by decide +kernel
theorem dX5_search_77 : decode cX5_search 77 = .ok (.aload_n 0, 1) := by decide +kernel
theorem dX5_search_78 : decode cX5_search 78 = .ok (.getfield 15, 3) := by decide +kernel
theorem dX5_search_81 : decode cX5_search 81 = .ok (.iload_n 1, 1) := by decide +kernel
theorem dX5_search_82 : decode cX5_search 82 = .ok (.iload 4, 2) := by decide +kernel
theorem dX5_search_84 : decode cX5_search 84 = .ok (.iastore, 1) := by decide +kernel
theorem dX5_search_85 : decode cX5_search 85 = .ok (.aload_n 0, 1) := by decide +kernel
theorem dX5_search_86 : decode cX5_search 86 = .ok (.getfield 19, 3) := by decide +kernel
theorem dX5_search_89 : decode cX5_search 89 = .ok (.iload_n 1, 1) := by decide +kernel
theorem dX5_search_90 : decode cX5_search 90 = .ok (.aload_n 0, 1) := by decide +kernel
theorem dX5_search_91 : decode cX5_search 91 = .ok (.iload_n 1, 1) := by decide +kernel
theorem dX5_search_92 : decode cX5_search 92 = .ok (.invokevirtual 62, 3) := by decide +kernel
theorem dX5_search_95 : decode cX5_search 95 = .ok (.iastore, 1) := by decide +kernel
theorem dX5_search_96 : decode cX5_search 96 = .ok (.iload_n 3, 1) := by decide +kernel
theorem dX5_search_97 : decode cX5_search 97 = .ok (.aload_n 0, 1) := by decide +kernel
theorem dX5_search_98 : decode cX5_search 98 = .ok (.getfield 19, 3) := by decide +kernel
theorem dX5_search_101 : decode cX5_search 101 = .ok (.iload_n 1, 1) := by decide +kernel
theorem dX5_search_102 : decode cX5_search 102 = .ok (.iaload, 1) := by decide +kernel
theorem dX5_search_103 : decode cX5_search 103 = .ok (.invokestatic 65, 3) := by decide +kernel
theorem dX5_search_106 : decode cX5_search 106 = .ok (.istore 5, 2) := by decide +kernel
theorem dX5_search_108 : decode cX5_search 108 = .ok (.iload_n 2, 1) := by decide +kernel
theorem dX5_search_109 : decode cX5_search 109 = .ok (.iload 4, 2) := by decide +kernel
theorem dX5_search_111 : decode cX5_search 111 = .ok (.invokestatic 71, 3) := by decide +kernel
theorem dX5_search_114 : decode cX5_search 114 = .ok (.ior, 1) := by decide +kernel
theorem dX5_search_115 : decode cX5_search 115 = .ok (.aload_n 0, 1) := by decide +kernel
theorem dX5_search_116 : decode cX5_search 116 = .ok (.getfield 26, 3) := by decide +kernel
theorem dX5_search_119 : decode cX5_search 119 = .ok (.iand, 1) := by decide +kernel
theorem dX5_search_120 : decode cX5_search 120 = .ok (.invokestatic 41, 3) := by decide +kernel
theorem dX5_search_123 : decode cX5_search 123 = .ok (.istore 6, 2) := by decide +kernel
theorem dX5_search_125 : decode cX5_search 125 = .ok (.iload 6, 2) := by decide +kernel
theorem dX5_search_127 : decode cX5_search 127 = .ok (.iload 5, 2) := by decide +kernel
theorem dX5_search_129 : decode cX5_search 129 = .ok (.isub, 1) := by decide +kernel
theorem dX5_search_130 : decode cX5_search 130 = .ok (.aload_n 0, 1) := by decide +kernel
theorem dX5_search_131 : decode cX5_search 131 = .ok (.getfield 32, 3) := by decide +kernel
theorem dX5_search_134 : decode cX5_search 134 = .ok (.if_icmp .gt 24, 3) := by decide +kernel
theorem dX5_search_137 : decode cX5_search 137 = .ok (.aload_n 0, 1) := by decide +kernel
theorem dX5_search_138 : decode cX5_search 138 = .ok (.iload_n 1, 1) := by decide +kernel
theorem dX5_search_139 : decode cX5_search 139 = .ok (.iconst 1, 1) := by decide +kernel
theorem dX5_search_140 : decode cX5_search 140 = .ok (.iadd, 1) := by decide +kernel
theorem dX5_search_141 : decode cX5_search 141 = .ok (.iload_n 2, 1) := by decide +kernel
theorem dX5_search_142 : decode cX5_search 142 = .ok (.iload 4, 2) := by decide +kernel
theorem dX5_search_144 : decode cX5_search 144 = .ok (.invokestatic 71, 3) := by decide +kernel
theorem dX5_search_147 : decode cX5_search 147 = .ok (.ior, 1) := by decide +kernel
theorem dX5_search_148 : decode cX5_search 148 = .ok (.iload 5, 2) := by decide +kernel
theorem dX5_search_150 : decode cX5_search 150 = .ok (.invokevirtual 47, 3) := by decide +kernel
theorem dX5_search_153 : decode cX5_search 153 = .ok (.ifCond .eq 5, 3) := by decide +kernel
theorem dX5_search_156 : decode cX5_search 156 = .ok (.iconst 1, 1) := by decide +kernel
theorem dX5_search_157 : decode cX5_search 157 = .ok (.ireturn, 1) := by decide +kernel
theorem dX5_search_158 : decode cX5_search 158 = .ok (.iinc 4 1, 3) := by decide +kernel
theorem dX5_search_161 : decode cX5_search 161 = .ok (.goto (-134), 3) := by decide +kernel
theorem dX5_search_164 : decode cX5_search 164 = .ok (.iconst 0, 1) := by decide +kernel
theorem dX5_search_165 : decode cX5_search 165 = .ok (.ireturn, 1) := by decide +kernel
set_option maxHeartbeats 4000000 in
set_option maxRecDepth 100000 in
theorem cX5_search_k_29_r {l : Launch} {D : va_G} {a : Nat → Nat} {k : Nat → ClassId} {n : Nat} {p1 : Int32} {p2 : Int32} {p3 : Int32} {x0 xz : bq_S} {rz : Int32} {d : Nat} {rec : Int32 → Int32 → Int32 → bq_S → Option (Int32 × bq_S)} (hrec : ∀ (p1 p2 p3 : Int32) (x0 xz : bq_S) (rz : Int32), rec p1 p2 p3 x0 = some (rz, xz) → bq_M l D bq_cl (bq_ty k) (bq_wC a k) yX5_search cX5_search 7 (some .boolean) { frames := 5 + d, cells := 0, slots := 0, locals := 100 + 40 * d } [.ref (a 29), .int p1, .int p2, .int p3] x0 (some rz) xz) (h : fX5_search_r n rec p1 p2 p3 x0 = some (rz, xz)) : bq_M l D bq_cl (bq_ty k) (bq_wC a k) yX5_search cX5_search 7 (some .boolean) { frames := 5 + (d + 1), cells := 0, slots := 0, locals := 100 + 40 * (d + 1) } [.ref (a 29), .int p1, .int p2, .int p3] x0 (some rz) xz := by
  refine bq_ofW RX5 [(0, .ref (a 29)), (1, .int p1), (2, .int p2), (3, .int p3)] (by decide +kernel) rfl (Nat.le_of_ble_eq_true rfl) rfl (bq_adC a k) ?_
  intro p e s m below meth c A Q ls S hK hD hA hR hS hP hl
  have hx := S.1; have hb := S.2.1; have hml := S.2.2.1; have hown := S.2.2.2.1; have hts := S.2.2.2.2
  have hret : ∀ z, some z = some (rz, xz) → (rz, xz) = z := fun z h => (Option.some.inj h).symm
  unfold fX5_search_r at h
  refine lv_iload_n hx hb dX5_search_0 rfl (lv_at hl 1 rfl) ?_
  refine lv_aload_n hx hb dX5_search_1 rfl (lv_at hl 0 rfl) ?_
  refine bq_get (q0 := 29) S hK hP fl_X5_29_X5_5 rfl rfl rfl dX5_search_2 ?_
  refine lv_icmp_lt (tgt := 24) hx hb dX5_search_5 (by decide) (fun c1 => ?_) (fun c1 => ?_)
  · replace h := (if_pos c1).symm.trans h
    refine lv_iconst (v := (0 : Int32)) hx hb dX5_search_24 (by decide) ?_
    refine lv_istore (lv' := [(4, .int (0 : Int32)), (0, .ref (a 29)), (1, .int p1), (2, .int p2), (3, .int p3)]) hx hb dX5_search_25 hl (by decide) rfl (fun ls hl => ?_)
    have hl27 : ∀ (v2 : Int32) (v3 : Int32) (v4 : Int32) (kf : Nat) (v5 : Int32) (x6 : bq_S) (eo : (Int32 × bq_S) ⊕ (Int32 × bq_S)) (H : Heap) (locs : List Loc) (ls : Array Slot), wh kf (fX5_search_b27 n rec v2 v3 v4) (v5, x6) = some eo → va_P D bq_cl (bq_wC a k x6) H → va_S A s.heap H locs → lv_has ls 7 [(0, .ref (a 29)), (1, .int v2), (2, .int v3), (3, .int v4), (4, .int v5)] → (∀ (H : Heap) (locs : List Loc) (ls : Array Slot) (v48 : Int32) (x49 : bq_S), eo = .inl (v48, x49) → va_P D bq_cl (bq_wC a k x49) H → va_S A s.heap H locs → lv_has ls 7 [] → W p l e { frames := 5 + (d + 1), cells := 0, slots := 0, locals := 100 + 40 * (d + 1) } s m [.ref (a 29), .int p1, .int p2, .int p3].toArray below meth c H locs 0 0 Q (F0 m 164 ls [])) → (∀ z, eo = .inr z → (rz, xz) = z) → W p l e { frames := 5 + (d + 1), cells := 0, slots := 0, locals := 100 + 40 * (d + 1) } s m [.ref (a 29), .int p1, .int p2, .int p3].toArray below meth c H locs 0 0 Q (F0 m 27 ls []) := by
      intro v2 v3 v4 kf
      induction kf with
      | zero => intro v5 x6 eo H locs ls h; cases h
      | succ kf ih =>
        intro v5 x6 eo H locs ls h hP hS hl kx kr
        obtain ⟨out, h, hw⟩ := wh_s h
        have hret : ∀ z, (some (.inr (.inr z)) : Option ((Int32 × bq_S) ⊕ ((Int32 × bq_S) ⊕ (Int32 × bq_S)))) = some out → (rz, xz) = z := fun z h => kr z (by cases h; exact (Option.some.inj hw).symm)
        unfold fX5_search_b27 at h
        replace h := un2_e h
        have hj77 : ∀ (v14 : Int32) (x15 : bq_S) (H : Heap) (locs : List Loc) (ls : Array Slot), fX5_search_j77 n rec v2 v3 v4 v14 x15 = some out → va_P D bq_cl (bq_wC a k x15) H → va_S A s.heap H locs → lv_has ls 7 [(0, .ref (a 29)), (1, .int v2), (2, .int v3), (3, .int v4), (4, .int v14)] → W p l e { frames := 5 + (d + 1), cells := 0, slots := 0, locals := 100 + 40 * (d + 1) } s m [.ref (a 29), .int p1, .int p2, .int p3].toArray below meth c H locs 0 0 Q (F0 m 77 ls []) := by
          intro v14 x15 H locs ls h hP hS hl
          unfold fX5_search_j77 at h
          refine lv_aload_n hx hb dX5_search_77 rfl (lv_at hl 0 rfl) ?_
          refine bq_get (q0 := 29) S hK hP fl_X5_15_X5_0 rfl rfl rfl dX5_search_78 ?_
          refine lv_iload_n hx hb dX5_search_81 rfl (lv_at hl 1 rfl) ?_
          refine lv_iload hx hb dX5_search_82 (lv_at hl 4 rfl) ?_
          obtain ⟨g17, h⟩ := bq_gd h
          obtain ⟨x16, hx16, h⟩ := bq_b h
          refine bq_iast (x1 := x16) (q0 := 30) (t0 := 0) S hK hD hP hS rfl rfl g17 (by rw [hx16]; rfl) dX5_search_84 (fun H locs hP hS => ?_)
          refine lv_aload_n hx hb dX5_search_85 rfl (lv_at hl 0 rfl) ?_
          refine bq_get (q0 := 29) S hK hP fl_X5_19_X5_2 rfl rfl rfl dX5_search_86 ?_
          refine lv_iload_n hx hb dX5_search_89 rfl (lv_at hl 1 rfl) ?_
          refine lv_aload_n hx hb dX5_search_90 rfl (lv_at hl 0 rfl) ?_
          refine lv_iload_n hx hb dX5_search_91 rfl (lv_at hl 1 rfl) ?_
          obtain ⟨o18, ho18, h⟩ := Option.bind_eq_some_iff.mp h
          obtain ⟨v20, x19⟩ := o18
          replace h := un2_e h
          refine bq_callVi (q0 := 29) (As := [.int _]) S hK hD hA hP hS (cX5_chainAt_k_29 ho18) hd_yX5_chainAt ml_X5_62 in_yX5_chainAt (hts _ sl_X5_X5_yX5_chainAt) ⟨rfl, rfl⟩ ⟨by show 1 + 1 ≤ 5 + (d + 1); omega, by show 8 + (5 + 11) + 22 ≤ 100 + 40 * (d + 1); omega⟩ rfl rfl rfl hl.1 rfl (Nat.le_of_ble_eq_true rfl) ⟨Nat.zero_le _, Nat.zero_le _⟩ dX5_search_92 (fun H locs hP hS => ?_)
          obtain ⟨g22, h⟩ := bq_gd h
          obtain ⟨x21, hx21, h⟩ := bq_b h
          refine bq_iast (x1 := x21) (q0 := 31) (t0 := 0) S hK hD hP hS rfl rfl g22 (by rw [hx21]; rfl) dX5_search_95 (fun H locs hP hS => ?_)
          refine lv_iload_n hx hb dX5_search_96 rfl (lv_at hl 3 rfl) ?_
          refine lv_aload_n hx hb dX5_search_97 rfl (lv_at hl 0 rfl) ?_
          refine bq_get (q0 := 29) S hK hP fl_X5_19_X5_2 rfl rfl rfl dX5_search_98 ?_
          refine lv_iload_n hx hb dX5_search_101 rfl (lv_at hl 1 rfl) ?_
          obtain ⟨g23, h⟩ := bq_gd h
          refine va_iald (D := D) hx hb hK hP 31 0 rfl rfl g23 dX5_search_102 ?_
          refine va_mmax hx hb (hml.trans hl.1.symm) hown (hts _ ml_X5_65) (hts _ st_yJ9_max_7cf53) (hts _ ini_Math) (hts _ cd_Math_max) (by show 1 ≤ 5 + (d + 1); omega) (by show 0 + 13 ≤ 100 + 40 * (d + 1); omega) (Nat.zero_le _) (Nat.zero_le _) dX5_search_103 ?_
          refine lv_topi (fun v24 hv24 => ?_)
          replace h := bq_bv h hv24
          refine lv_istore (lv' := [(5, .int v24), (0, .ref (a 29)), (1, .int v2), (2, .int v3), (3, .int v4), (4, .int v14)]) hx hb dX5_search_106 hl (by decide) rfl (fun ls hl => ?_)
          refine lv_iload_n hx hb dX5_search_108 rfl (lv_at hl 3 rfl) ?_
          refine lv_iload hx hb dX5_search_109 (lv_at hl 5 rfl) ?_
          obtain ⟨o25, ho25, h⟩ := Option.bind_eq_some_iff.mp h
          obtain ⟨v27, x26⟩ := o25
          replace h := un2_e h
          refine bq_callSNi (As := [.int _]) S hK hD hA hP hS (cX9_bit_k ho25) hd_yX9_bit mn_X5_71 st_yX9_bit ⟨rfl, rfl⟩ ⟨by show 0 + 1 ≤ 5 + (d + 1); omega, by show 8 + (1 + 11) + 0 ≤ 100 + 40 * (d + 1); omega⟩ rfl hl.1 rfl (Nat.le_of_ble_eq_true rfl) ⟨Nat.zero_le _, Nat.zero_le _⟩ dX5_search_111 (fun H locs hP hS => ?_)
          refine lv_ior hx hb dX5_search_114 ?_
          refine lv_aload_n hx hb dX5_search_115 rfl (lv_at hl 1 rfl) ?_
          refine bq_get (q0 := 29) S hK hP fl_X5_26_X5_4 rfl rfl rfl dX5_search_116 ?_
          refine lv_iand hx hb dX5_search_119 ?_
          obtain ⟨o28, ho28, h⟩ := Option.bind_eq_some_iff.mp h
          obtain ⟨v30, x29⟩ := o28
          replace h := un2_e h
          refine bq_callSi (As := [.int _]) S hK hD hA hP hS (cJ6_bitCount_k ho28) hd_yJ6_bitCount_0f7a4 ml_X5_41 st_yJ6_bitCount_0f7a4 ⟨rfl, rfl⟩ ⟨by show 0 + 1 ≤ 5 + (d + 1); omega, by show 8 + (1 + 11) + 0 ≤ 100 + 40 * (d + 1); omega⟩ rfl hl.1 rfl (Nat.le_of_ble_eq_true rfl) ⟨Nat.zero_le _, Nat.zero_le _⟩ dX5_search_120 (fun H locs hP hS => ?_)
          refine lv_istore (lv' := [(6, .int v30), (5, .int v24), (0, .ref (a 29)), (1, .int v2), (2, .int v3), (3, .int v4), (4, .int v14)]) hx hb dX5_search_123 hl (by decide) rfl (fun ls hl => ?_)
          refine lv_iload hx hb dX5_search_125 (lv_at hl 0 rfl) ?_
          refine lv_iload hx hb dX5_search_127 (lv_at hl 1 rfl) ?_
          refine lv_isub hx hb dX5_search_129 ?_
          refine lv_aload_n hx hb dX5_search_130 rfl (lv_at hl 2 rfl) ?_
          refine bq_get (q0 := 29) S hK hP fl_X5_32_X5_6 rfl rfl rfl dX5_search_131 ?_
          refine lv_icmp_gt (tgt := 158) hx hb dX5_search_134 (by decide) (fun c31 => ?_) (fun c31 => ?_)
          · replace h := (if_pos c31).symm.trans h
            obtain ⟨v32, hv32, h⟩ := bq_b h
            refine lv_iinc (v := v32) (lv' := [(4, .int v32), (6, .int v30), (5, .int v24), (0, .ref (a 29)), (1, .int v2), (2, .int v3), (3, .int v4)]) hx hb dX5_search_158 hl (k := 6) rfl (by rw [hv32]; rfl) (by decide) rfl (fun ls hl => ?_)
            refine lv_goto (tgt := 27) hx hb dX5_search_161 (by decide) ?_
            cases h
            exact ih _ _ _ _ _ _ hw hP hS (lv_sub hl [3, 4, 5, 6, 0] rfl) kx kr
          · replace h := (if_neg c31).symm.trans h
            refine lv_aload_n hx hb dX5_search_137 rfl (lv_at hl 2 rfl) ?_
            refine lv_iload_n hx hb dX5_search_138 rfl (lv_at hl 3 rfl) ?_
            refine lv_iconst (v := (1 : Int32)) hx hb dX5_search_139 (by decide) ?_
            refine lv_iadd hx hb dX5_search_140 ?_
            refine lv_iload_n hx hb dX5_search_141 rfl (lv_at hl 4 rfl) ?_
            refine lv_iload hx hb dX5_search_142 (lv_at hl 6 rfl) ?_
            obtain ⟨o33, ho33, h⟩ := Option.bind_eq_some_iff.mp h
            obtain ⟨v35, x34⟩ := o33
            replace h := un2_e h
            refine bq_callSNi (As := [.int _]) S hK hD hA hP hS (cX9_bit_k ho33) hd_yX9_bit mn_X5_71 st_yX9_bit ⟨rfl, rfl⟩ ⟨by show 0 + 1 ≤ 5 + (d + 1); omega, by show 8 + (1 + 11) + 0 ≤ 100 + 40 * (d + 1); omega⟩ rfl hl.1 rfl (Nat.le_of_ble_eq_true rfl) ⟨Nat.zero_le _, Nat.zero_le _⟩ dX5_search_144 (fun H locs hP hS => ?_)
            refine lv_ior hx hb dX5_search_147 ?_
            refine lv_iload hx hb dX5_search_148 (lv_at hl 1 rfl) ?_
            obtain ⟨o36, ho36, h⟩ := Option.bind_eq_some_iff.mp h
            obtain ⟨v38, x37⟩ := o36
            replace h := un2_e h
            refine bq_callVi (q0 := 29) (As := [.int _, .int _, .int _]) S hK hD hA hP hS (hrec _ _ _ _ _ _ ho36) hd_yX5_search ml_X5_47 in_yX5_search (hts _ sl_X5_X5_yX5_search) ⟨rfl, rfl⟩ ⟨by show (5 + d) + 1 ≤ 5 + (d + 1); omega, by show 8 + (7 + 11) + (100 + 40 * d) ≤ 100 + 40 * (d + 1); omega⟩ rfl rfl rfl hl.1 rfl (Nat.le_of_ble_eq_true rfl) ⟨Nat.zero_le _, Nat.zero_le _⟩ dX5_search_150 (fun H locs hP hS => ?_)
            refine lv_if_eq (tgt := 158) hx hb dX5_search_153 (by decide) (fun c39 => ?_) (fun c39 => ?_)
            · replace h := (if_pos c39).symm.trans h
              obtain ⟨v40, hv40, h⟩ := bq_b h
              refine lv_iinc (v := v40) (lv' := [(4, .int v40), (6, .int v30), (5, .int v24), (0, .ref (a 29)), (1, .int v2), (2, .int v3), (3, .int v4)]) hx hb dX5_search_158 hl (k := 6) rfl (by rw [hv40]; rfl) (by decide) rfl (fun ls hl => ?_)
              refine lv_goto (tgt := 27) hx hb dX5_search_161 (by decide) ?_
              cases h
              exact ih _ _ _ _ _ _ hw hP hS (lv_sub hl [3, 4, 5, 6, 0] rfl) kx kr
            · replace h := (if_neg c39).symm.trans h
              refine lv_iconst (v := (1 : Int32)) hx hb dX5_search_156 (by decide) ?_
              obtain ⟨e1, e2⟩ := Prod.mk.inj (hret _ h)
              exact hR _ _ _ _ _ (congrArg some e1) rfl (by rw [e2]; exact hP) hS dX5_search_157
        refine lv_iload hx hb dX5_search_27 (lv_at hl 4 rfl) ?_
        refine lv_bipush (v := (8 : Int32)) hx hb dX5_search_29 (by decide) ?_
        refine lv_icmp_ge (tgt := 164) hx hb dX5_search_31 (by decide) (fun c7 => ?_) (fun c7 => ?_)
        · replace h := (if_pos c7).symm.trans h
          cases h
          exact kx _ _ _ _ _ (Option.some.inj hw).symm hP hS (lv_sub hl [] rfl)
        · replace h := (if_neg c7).symm.trans h
          refine lv_aload_n hx hb dX5_search_34 rfl (lv_at hl 0 rfl) ?_
          refine bq_get (q0 := 29) S hK hP fl_X5_22_X5_3 rfl rfl rfl dX5_search_35 ?_
          refine lv_iload_n hx hb dX5_search_38 rfl (lv_at hl 2 rfl) ?_
          refine lv_iconst (v := (-1 : Int32)) hx hb dX5_search_39 (by decide) ?_
          refine lv_ixor hx hb dX5_search_40 ?_
          refine lv_iand hx hb dX5_search_41 ?_
          refine lv_iload hx hb dX5_search_42 (lv_at hl 4 rfl) ?_
          obtain ⟨o8, ho8, h⟩ := Option.bind_eq_some_iff.mp h
          obtain ⟨v10, x9⟩ := o8
          replace h := un2_e h
          refine bq_callSNi (As := [.int _, .int _]) S hK hD hA hP hS (cX9_has_k ho8) hd_yX9_has mn_X5_55 st_yX9_has ⟨rfl, rfl⟩ ⟨by show 0 + 1 ≤ 5 + (d + 1); omega, by show 8 + (2 + 11) + 0 ≤ 100 + 40 * (d + 1); omega⟩ rfl hl.1 rfl (Nat.le_of_ble_eq_true rfl) ⟨Nat.zero_le _, Nat.zero_le _⟩ dX5_search_44 (fun H locs hP hS => ?_)
          refine lv_if_eq (tgt := 158) hx hb dX5_search_47 (by decide) (fun c11 => ?_) (fun c11 => ?_)
          · replace h := (if_pos c11).symm.trans h
            obtain ⟨v12, hv12, h⟩ := bq_b h
            refine lv_iinc (v := v12) (lv' := [(4, .int v12), (0, .ref (a 29)), (1, .int v2), (2, .int v3), (3, .int v4)]) hx hb dX5_search_158 hl (k := 4) rfl (by rw [hv12]; rfl) (by decide) rfl (fun ls hl => ?_)
            refine lv_goto (tgt := 27) hx hb dX5_search_161 (by decide) ?_
            cases h
            exact ih _ _ _ _ _ _ hw hP hS (lv_sub hl [1, 2, 3, 4, 0] rfl) kx kr
          · replace h := (if_neg c11).symm.trans h
            refine lv_iload_n hx hb dX5_search_50 rfl (lv_at hl 1 rfl) ?_
            refine lv_if_le (tgt := 77) hx hb dX5_search_51 (by decide) (fun c13 => ?_) (fun c13 => ?_)
            · replace h := (if_pos c13).symm.trans h
              exact hj77 _ _ _ _ _ h hP hS (lv_sub hl [0, 1, 2, 3, 4] rfl)
            · replace h := (if_neg c13).symm.trans h
              refine lv_aload_n hx hb dX5_search_54 rfl (lv_at hl 0 rfl) ?_
              refine bq_get (q0 := 29) S hK hP fl_X5_9_X5_1 rfl rfl rfl dX5_search_55 ?_
              refine lv_aload_n hx hb dX5_search_58 rfl (lv_at hl 0 rfl) ?_
              refine bq_get (q0 := 29) S hK hP fl_X5_15_X5_0 rfl rfl rfl dX5_search_59 ?_
              refine lv_iload_n hx hb dX5_search_62 rfl (lv_at hl 1 rfl) ?_
              refine lv_iconst (v := (1 : Int32)) hx hb dX5_search_63 (by decide) ?_
              refine lv_isub hx hb dX5_search_64 ?_
              obtain ⟨g41, h⟩ := bq_gd h
              refine va_iald (D := D) hx hb hK hP 30 0 rfl rfl g41 dX5_search_65 ?_
              refine lv_iload hx hb dX5_search_66 (lv_at hl 4 rfl) ?_
              obtain ⟨o42, ho42, h⟩ := Option.bind_eq_some_iff.mp h
              obtain ⟨v44, x43⟩ := o42
              replace h := un2_e h
              refine bq_callVi (q0 := 1) (As := [.int _, .int _]) S hK hD hA hP hS (cX4_touches_k_1 ho42) hd_yX4_touches ml_X5_59 in_yX4_touches (hts _ sl_X4_X4_yX4_touches) ⟨rfl, rfl⟩ ⟨by show 0 + 1 ≤ 5 + (d + 1); omega, by show 8 + (3 + 11) + 0 ≤ 100 + 40 * (d + 1); omega⟩ rfl rfl rfl hl.1 rfl (Nat.le_of_ble_eq_true rfl) ⟨Nat.zero_le _, Nat.zero_le _⟩ dX5_search_68 (fun H locs hP hS => ?_)
              refine lv_if_ne (tgt := 77) hx hb dX5_search_71 (by decide) (fun c45 => ?_) (fun c45 => ?_)
              · replace h := (if_neg c45).symm.trans h
                exact hj77 _ _ _ _ _ h hP hS (lv_sub hl [0, 1, 2, 3, 4] rfl)
              · replace h := (if_pos c45).symm.trans h
                refine lv_goto (tgt := 158) hx hb dX5_search_74 (by decide) ?_
                obtain ⟨v46, hv46, h⟩ := bq_b h
                refine lv_iinc (v := v46) (lv' := [(4, .int v46), (0, .ref (a 29)), (1, .int v2), (2, .int v3), (3, .int v4)]) hx hb dX5_search_158 hl (k := 4) rfl (by rw [hv46]; rfl) (by decide) rfl (fun ls hl => ?_)
                refine lv_goto (tgt := 27) hx hb dX5_search_161 (by decide) ?_
                cases h
                exact ih _ _ _ _ _ _ hw hP hS (lv_sub hl [1, 2, 3, 4, 0] rfl) kx kr
    obtain ⟨e47, he47, h⟩ := Option.bind_eq_some_iff.mp h
    refine hl27 _ _ _ n _ _ e47 _ _ _ he47 hP hS (lv_sub hl [1, 2, 3, 4, 0] rfl) (fun H locs ls v48 x49 hz hP hS hl => ?_) (fun z hz => hret z (bq_ir h hz :))
    replace h := bq_il h hz
    replace h := un2_e h
    refine lv_iconst (v := (0 : Int32)) hx hb dX5_search_164 (by decide) ?_
    obtain ⟨e1, e2⟩ := Prod.mk.inj (hret _ h)
    exact hR _ _ _ _ _ (congrArg some e1) rfl (by rw [e2]; exact hP) hS dX5_search_165
  · replace h := (if_neg c1).symm.trans h
    refine lv_aload_n hx hb dX5_search_8 rfl (lv_at hl 0 rfl) ?_
    refine bq_get (q0 := 29) S hK hP fl_X5_9_X5_1 rfl rfl rfl dX5_search_9 ?_
    refine lv_aload_n hx hb dX5_search_12 rfl (lv_at hl 0 rfl) ?_
    refine bq_get (q0 := 29) S hK hP fl_X5_15_X5_0 rfl rfl rfl dX5_search_13 ?_
    refine lv_aload_n hx hb dX5_search_16 rfl (lv_at hl 0 rfl) ?_
    refine bq_get (q0 := 29) S hK hP fl_X5_29_X5_5 rfl rfl rfl dX5_search_17 ?_
    obtain ⟨o50, ho50, h⟩ := Option.bind_eq_some_iff.mp h
    obtain ⟨v52, x51⟩ := o50
    replace h := un2_e h
    refine bq_callVi (q0 := 1) (As := [.ref (a 30), .int _]) S hK hD hA hP hS (cX4_isLawful_k_1_30 ho50) hd_yX4_isLawful ml_X5_51 in_yX4_isLawful (hts _ sl_X4_X4_yX4_isLawful) ⟨rfl, rfl⟩ ⟨by show 2 + 1 ≤ 5 + (d + 1); omega, by show 8 + (3 + 11) + 45 ≤ 100 + 40 * (d + 1); omega⟩ rfl rfl rfl hl.1 rfl (Nat.le_of_ble_eq_true rfl) ⟨Nat.zero_le _, Nat.zero_le _⟩ dX5_search_20 (fun H locs hP hS => ?_)
    obtain ⟨g53, h⟩ := bq_gp h
    obtain ⟨e1, e2⟩ := Prod.mk.inj (hret _ h)
    exact hR _ _ _ _ _ (congrArg some e1) (bq_z g53) (by rw [e2]; exact hP) hS dX5_search_23
def fX5_search (n : Nat) : Nat → Int32 → Int32 → Int32 → bq_S → Option (Int32 × bq_S)
  | 0 => fun _ _ _ _ => none
  | d + 1 => fX5_search_r n (fX5_search n d)
theorem cX5_search_k_29_d {l : Launch} {D : va_G} {a : Nat → Nat} {k : Nat → ClassId} {n : Nat} : ∀ (d : Nat) (p1 p2 p3 : Int32) (x0 xz : bq_S) (rz : Int32), fX5_search n d p1 p2 p3 x0 = some (rz, xz) → bq_M l D bq_cl (bq_ty k) (bq_wC a k) yX5_search cX5_search 7 (some .boolean) { frames := 5 + d, cells := 0, slots := 0, locals := 100 + 40 * d } [.ref (a 29), .int p1, .int p2, .int p3] x0 (some rz) xz := by
  intro d
  induction d with
  | zero => intro p1 p2 p3 x0 xz rz h; cases h
  | succ d ih => intro p1 p2 p3 x0 xz rz h; exact cX5_search_k_29_r ih h
theorem cX5_search_k_29 {l : Launch} {D : va_G} {a : Nat → Nat} {k : Nat → ClassId} {n : Nat} {p1 p2 p3 : Int32} {x0 xz : bq_S} {rz : Int32} (h : fX5_search n 9 p1 p2 p3 x0 = some (rz, xz)) : bq_M l D bq_cl (bq_ty k) (bq_wC a k) yX5_search cX5_search 7 (some .boolean) { frames := 14, cells := 0, slots := 0, locals := 460 } [.ref (a 29), .int p1, .int p2, .int p3] x0 (some rz) xz :=
  cX5_search_k_29_d 9 _ _ _ _ _ _ h
def fX5_fewest_b28 (n : Nat) (v : Int32 × bq_S) : Option ((Int32 × bq_S) ⊕ ((Int32 × bq_S) ⊕ (Int32 × bq_S))) :=
  un2 v (fun v10 x11 =>
  if (8 : Int32) ≤ v10 then
  some (.inr (.inl (v10, x11)))
  else
  bd (bq_sI x11 29 6 v10) (fun x13 =>
  (fX5_search n 9 (0 : Int32) (0 : Int32) (0 : Int32) x13).bind (fun o14 => un2 o14 (fun v16 x15 =>
  if v16 = 0 then
  bd (v10 + (1 : Int32)) (fun v18 =>
  some (.inl (v18, x15)))
  else
  some (.inr (.inr (v10, x15)))))))
def fX5_fewest (n : Nat) (p1 : Int32) (x0 : bq_S) : Option (Int32 × bq_S) :=
  bd (bq_sI x0 29 3 p1) (fun x1 =>
  (fX4_hallSet n 1 x1).bind (fun o2 => un2 o2 (fun v4 x3 =>
  bd (bq_sI x3 29 4 (v4 &&& p1)) (fun x5 =>
  (fJ6_bitCount p1 x5).bind (fun o6 => un2 o6 (fun v8 x7 =>
  bd (bq_sI x7 29 5 v8) (fun x9 =>
  (wh n (fX5_fewest_b28 n) ((0 : Int32), x9)).bind (fun e19 =>
  Sum.elim (fun z => un2 z (fun v20 x21 =>
  some ((-4 : Int32), x21))) (fun z => some z) e19))))))))
theorem dX5_fewest_0 : decode cX5_fewest 0 = .ok (.aload_n 0, 1) := by decide +kernel
theorem dX5_fewest_1 : decode cX5_fewest 1 = .ok (.iload_n 1, 1) := by decide +kernel
theorem dX5_fewest_2 : decode cX5_fewest 2 = .ok (.putfield 22, 3) := by decide +kernel
theorem dX5_fewest_5 : decode cX5_fewest 5 = .ok (.aload_n 0, 1) := by decide +kernel
theorem dX5_fewest_6 : decode cX5_fewest 6 = .ok (.aload_n 0, 1) := by decide +kernel
theorem dX5_fewest_7 : decode cX5_fewest 7 = .ok (.getfield 9, 3) := by decide +kernel
theorem dX5_fewest_10 : decode cX5_fewest 10 = .ok (.invokevirtual 35, 3) := by decide +kernel
theorem dX5_fewest_13 : decode cX5_fewest 13 = .ok (.iload_n 1, 1) := by decide +kernel
theorem dX5_fewest_14 : decode cX5_fewest 14 = .ok (.iand, 1) := by decide +kernel
theorem dX5_fewest_15 : decode cX5_fewest 15 = .ok (.putfield 26, 3) := by decide +kernel
theorem dX5_fewest_18 : decode cX5_fewest 18 = .ok (.aload_n 0, 1) := by decide +kernel
theorem dX5_fewest_19 : decode cX5_fewest 19 = .ok (.iload_n 1, 1) := by decide +kernel
theorem dX5_fewest_20 : decode cX5_fewest 20 = .ok (.invokestatic 41, 3) := by decide +kernel
theorem dX5_fewest_23 : decode cX5_fewest 23 = .ok (.putfield 29, 3) := by decide +kernel
theorem dX5_fewest_26 : decode cX5_fewest 26 = .ok (.iconst 0, 1) := by decide +kernel
theorem dX5_fewest_27 : decode cX5_fewest 27 = .ok (.istore_n 2, 1) := by decide +kernel
theorem dX5_fewest_28 : decode cX5_fewest 28 = .ok (.iload_n 2, 1) := by decide +kernel
theorem dX5_fewest_29 : decode cX5_fewest 29 = .ok (.bipush 8, 2) := by decide +kernel
theorem dX5_fewest_31 : decode cX5_fewest 31 = .ok (.if_icmp .ge 26, 3) := by decide +kernel
theorem dX5_fewest_34 : decode cX5_fewest 34 = .ok (.aload_n 0, 1) := by decide +kernel
theorem dX5_fewest_35 : decode cX5_fewest 35 = .ok (.iload_n 2, 1) := by decide +kernel
theorem dX5_fewest_36 : decode cX5_fewest 36 = .ok (.putfield 32, 3) := by decide +kernel
theorem dX5_fewest_39 : decode cX5_fewest 39 = .ok (.aload_n 0, 1) := by decide +kernel
theorem dX5_fewest_40 : decode cX5_fewest 40 = .ok (.iconst 0, 1) := by decide +kernel
theorem dX5_fewest_41 : decode cX5_fewest 41 = .ok (.iconst 0, 1) := by decide +kernel
theorem dX5_fewest_42 : decode cX5_fewest 42 = .ok (.iconst 0, 1) := by decide +kernel
theorem dX5_fewest_43 : decode cX5_fewest 43 = .ok (.invokevirtual 47, 3) := by decide +kernel
theorem dX5_fewest_46 : decode cX5_fewest 46 = .ok (.ifCond .eq 5, 3) := by decide +kernel
theorem dX5_fewest_49 : decode cX5_fewest 49 = .ok (.iload_n 2, 1) := by decide +kernel
theorem dX5_fewest_50 : decode cX5_fewest 50 = .ok (.ireturn, 1) := by decide +kernel
theorem dX5_fewest_51 : decode cX5_fewest 51 = .ok (.iinc 2 1, 3) := by decide +kernel
theorem dX5_fewest_54 : decode cX5_fewest 54 = .ok (.goto (-26), 3) := by decide +kernel
theorem dX5_fewest_57 : decode cX5_fewest 57 = .ok (.bipush (-4), 2) := by decide +kernel
theorem dX5_fewest_59 : decode cX5_fewest 59 = .ok (.ireturn, 1) := by decide +kernel
set_option maxHeartbeats 4000000 in
set_option maxRecDepth 100000 in
theorem cX5_fewest_k_29 {l : Launch} {D : va_G} {a : Nat → Nat} {k : Nat → ClassId} {n : Nat} {p1 : Int32} {x0 xz : bq_S} {rz : Int32} (h : fX5_fewest n p1 x0 = some (rz, xz)) : bq_M l D bq_cl (bq_ty k) (bq_wC a k) yX5_fewest cX5_fewest 3 (some .int) { frames := 15, cells := 0, slots := 0, locals := 486 } [.ref (a 29), .int p1] x0 (some rz) xz := by
  refine bq_ofW RX5 [(0, .ref (a 29)), (1, .int p1)] (by decide +kernel) rfl (Nat.le_of_ble_eq_true rfl) rfl (bq_adC a k) ?_
  intro p e s m below meth c A Q ls S hK hD hA hR hS hP hl
  have hx := S.1; have hb := S.2.1; have hml := S.2.2.1; have hown := S.2.2.2.1; have hts := S.2.2.2.2
  have hret : ∀ z, some z = some (rz, xz) → (rz, xz) = z := fun z h => (Option.some.inj h).symm
  unfold fX5_fewest at h
  refine lv_aload_n hx hb dX5_fewest_0 rfl (lv_at hl 0 rfl) ?_
  refine lv_iload_n hx hb dX5_fewest_1 rfl (lv_at hl 1 rfl) ?_
  obtain ⟨x1, hx1, h⟩ := bq_b h
  refine bq_put (x1 := x1) (q0 := 29) (ty := .int) S hK hD hP hS fl_X5_22_X5_3 bt_X5 rfl (by decide +kernel) rfl rfl (Nat.le_of_ble_eq_true rfl) rfl rfl (by rw [hx1]; rfl) dX5_fewest_2 (fun H locs hP hS => ?_)
  refine lv_aload_n hx hb dX5_fewest_5 rfl (lv_at hl 0 rfl) ?_
  refine lv_aload_n hx hb dX5_fewest_6 rfl (lv_at hl 0 rfl) ?_
  refine bq_get (q0 := 29) S hK hP fl_X5_9_X5_1 rfl rfl rfl dX5_fewest_7 ?_
  obtain ⟨o2, ho2, h⟩ := Option.bind_eq_some_iff.mp h
  obtain ⟨v4, x3⟩ := o2
  replace h := un2_e h
  refine bq_callVi (q0 := 1) (As := []) S hK hD hA hP hS (cX4_hallSet_k_1 ho2) hd_yX4_hallSet ml_X5_35 in_yX4_hallSet (hts _ sl_X4_X4_yX4_hallSet) ⟨rfl, rfl⟩ ⟨by decide, by decide⟩ rfl rfl rfl hl.1 rfl (Nat.le_of_ble_eq_true rfl) ⟨Nat.zero_le _, Nat.zero_le _⟩ dX5_fewest_10 (fun H locs hP hS => ?_)
  refine lv_iload_n hx hb dX5_fewest_13 rfl (lv_at hl 1 rfl) ?_
  refine lv_iand hx hb dX5_fewest_14 ?_
  obtain ⟨x5, hx5, h⟩ := bq_b h
  refine bq_put (x1 := x5) (q0 := 29) (ty := .int) S hK hD hP hS fl_X5_26_X5_4 bt_X5 rfl (by decide +kernel) rfl rfl (Nat.le_of_ble_eq_true rfl) rfl rfl (by rw [hx5]; rfl) dX5_fewest_15 (fun H locs hP hS => ?_)
  refine lv_aload_n hx hb dX5_fewest_18 rfl (lv_at hl 0 rfl) ?_
  refine lv_iload_n hx hb dX5_fewest_19 rfl (lv_at hl 1 rfl) ?_
  obtain ⟨o6, ho6, h⟩ := Option.bind_eq_some_iff.mp h
  obtain ⟨v8, x7⟩ := o6
  replace h := un2_e h
  refine bq_callSi (As := [.int _]) S hK hD hA hP hS (cJ6_bitCount_k ho6) hd_yJ6_bitCount_0f7a4 ml_X5_41 st_yJ6_bitCount_0f7a4 ⟨rfl, rfl⟩ ⟨by decide, by decide⟩ rfl hl.1 rfl (Nat.le_of_ble_eq_true rfl) ⟨Nat.zero_le _, Nat.zero_le _⟩ dX5_fewest_20 (fun H locs hP hS => ?_)
  obtain ⟨x9, hx9, h⟩ := bq_b h
  refine bq_put (x1 := x9) (q0 := 29) (ty := .int) S hK hD hP hS fl_X5_29_X5_5 bt_X5 rfl (by decide +kernel) rfl rfl (Nat.le_of_ble_eq_true rfl) rfl rfl (by rw [hx9]; rfl) dX5_fewest_23 (fun H locs hP hS => ?_)
  refine lv_iconst (v := (0 : Int32)) hx hb dX5_fewest_26 (by decide) ?_
  refine lv_istore_n (lv' := [(2, .int (0 : Int32)), (0, .ref (a 29)), (1, .int p1)]) hx hb dX5_fewest_27 rfl hl (by decide) rfl (fun ls hl => ?_)
  have hl28 : ∀ (kf : Nat) (v10 : Int32) (x11 : bq_S) (eo : (Int32 × bq_S) ⊕ (Int32 × bq_S)) (H : Heap) (locs : List Loc) (ls : Array Slot), wh kf (fX5_fewest_b28 n ) (v10, x11) = some eo → va_P D bq_cl (bq_wC a k x11) H → va_S A s.heap H locs → lv_has ls 3 [(0, .ref (a 29)), (2, .int v10)] → (∀ (H : Heap) (locs : List Loc) (ls : Array Slot) (v20 : Int32) (x21 : bq_S), eo = .inl (v20, x21) → va_P D bq_cl (bq_wC a k x21) H → va_S A s.heap H locs → lv_has ls 3 [] → W p l e { frames := 15, cells := 0, slots := 0, locals := 486 } s m [.ref (a 29), .int p1].toArray below meth c H locs 0 0 Q (F0 m 57 ls [])) → (∀ z, eo = .inr z → (rz, xz) = z) → W p l e { frames := 15, cells := 0, slots := 0, locals := 486 } s m [.ref (a 29), .int p1].toArray below meth c H locs 0 0 Q (F0 m 28 ls []) := by
    intro  kf
    induction kf with
    | zero => intro v10 x11 eo H locs ls h; cases h
    | succ kf ih =>
      intro v10 x11 eo H locs ls h hP hS hl kx kr
      obtain ⟨out, h, hw⟩ := wh_s h
      have hret : ∀ z, (some (.inr (.inr z)) : Option ((Int32 × bq_S) ⊕ ((Int32 × bq_S) ⊕ (Int32 × bq_S)))) = some out → (rz, xz) = z := fun z h => kr z (by cases h; exact (Option.some.inj hw).symm)
      unfold fX5_fewest_b28 at h
      replace h := un2_e h
      refine lv_iload_n hx hb dX5_fewest_28 rfl (lv_at hl 1 rfl) ?_
      refine lv_bipush (v := (8 : Int32)) hx hb dX5_fewest_29 (by decide) ?_
      refine lv_icmp_ge (tgt := 57) hx hb dX5_fewest_31 (by decide) (fun c12 => ?_) (fun c12 => ?_)
      · replace h := (if_pos c12).symm.trans h
        cases h
        exact kx _ _ _ _ _ (Option.some.inj hw).symm hP hS (lv_sub hl [] rfl)
      · replace h := (if_neg c12).symm.trans h
        refine lv_aload_n hx hb dX5_fewest_34 rfl (lv_at hl 0 rfl) ?_
        refine lv_iload_n hx hb dX5_fewest_35 rfl (lv_at hl 1 rfl) ?_
        obtain ⟨x13, hx13, h⟩ := bq_b h
        refine bq_put (x1 := x13) (q0 := 29) (ty := .int) S hK hD hP hS fl_X5_32_X5_6 bt_X5 rfl (by decide +kernel) rfl rfl (Nat.le_of_ble_eq_true rfl) rfl rfl (by rw [hx13]; rfl) dX5_fewest_36 (fun H locs hP hS => ?_)
        refine lv_aload_n hx hb dX5_fewest_39 rfl (lv_at hl 0 rfl) ?_
        refine lv_iconst (v := (0 : Int32)) hx hb dX5_fewest_40 (by decide) ?_
        refine lv_iconst (v := (0 : Int32)) hx hb dX5_fewest_41 (by decide) ?_
        refine lv_iconst (v := (0 : Int32)) hx hb dX5_fewest_42 (by decide) ?_
        obtain ⟨o14, ho14, h⟩ := Option.bind_eq_some_iff.mp h
        obtain ⟨v16, x15⟩ := o14
        replace h := un2_e h
        refine bq_callVi (q0 := 29) (As := [.int _, .int _, .int _]) S hK hD hA hP hS (cX5_search_k_29 ho14) hd_yX5_search ml_X5_47 in_yX5_search (hts _ sl_X5_X5_yX5_search) ⟨rfl, rfl⟩ ⟨by decide, by decide⟩ rfl rfl rfl hl.1 rfl (Nat.le_of_ble_eq_true rfl) ⟨Nat.zero_le _, Nat.zero_le _⟩ dX5_fewest_43 (fun H locs hP hS => ?_)
        refine lv_if_eq (tgt := 51) hx hb dX5_fewest_46 (by decide) (fun c17 => ?_) (fun c17 => ?_)
        · replace h := (if_pos c17).symm.trans h
          obtain ⟨v18, hv18, h⟩ := bq_b h
          refine lv_iinc (v := v18) (lv' := [(2, .int v18), (0, .ref (a 29))]) hx hb dX5_fewest_51 hl (k := 1) rfl (by rw [hv18]; rfl) (by decide) rfl (fun ls hl => ?_)
          refine lv_goto (tgt := 28) hx hb dX5_fewest_54 (by decide) ?_
          cases h
          exact ih _ _ _ _ _ _ hw hP hS (lv_sub hl [1, 0] rfl) kx kr
        · replace h := (if_neg c17).symm.trans h
          refine lv_iload_n hx hb dX5_fewest_49 rfl (lv_at hl 1 rfl) ?_
          obtain ⟨e1, e2⟩ := Prod.mk.inj (hret _ h)
          exact hR _ _ _ _ _ (congrArg some e1) rfl (by rw [e2]; exact hP) hS dX5_fewest_50
  obtain ⟨e19, he19, h⟩ := Option.bind_eq_some_iff.mp h
  refine hl28 n _ _ e19 _ _ _ he19 hP hS (lv_sub hl [1, 0] rfl) (fun H locs ls v20 x21 hz hP hS hl => ?_) (fun z hz => hret z (bq_ir h hz :))
  replace h := bq_il h hz
  replace h := un2_e h
  refine lv_bipush (v := (-4 : Int32)) hx hb dX5_fewest_57 (by decide) ?_
  obtain ⟨e1, e2⟩ := Prod.mk.inj (hret _ h)
  exact hR _ _ _ _ _ (congrArg some e1) rfl (by rw [e2]; exact hP) hS dX5_fewest_59
set_option maxHeartbeats 4000000 in
set_option maxRecDepth 100000 in
theorem cX4_takeHall_k_1_30 {l : Launch} {D : va_G} {a : Nat → Nat} {k : Nat → ClassId} {p2 : Int32} {x0 xz : bq_S} (h : fX4_takeHall  1 30 8 p2 x0 = some xz) : bq_M l D bq_cl (bq_ty k) (bq_wC a k) yX4_takeHall cX4_takeHall 3 none { frames := 1, cells := 0, slots := 0, locals := 60 } [.ref (a 1), .ref (a 30), .int p2] x0 none xz := by
  refine bq_ofWv RX4 [(0, .ref (a 1)), (1, .ref (a 30)), (2, .int p2)] (by decide +kernel) rfl (Nat.le_of_ble_eq_true rfl) rfl (bq_adC a k) ?_
  intro p e s m below meth c A Q ls S hK hD hA hR hS hP hl
  have hx := S.1; have hb := S.2.1; have hml := S.2.2.1; have hown := S.2.2.2.1; have hts := S.2.2.2.2
  have hret : ∀ z, some z = some xz → xz = z := fun z h => (Option.some.inj h).symm
  unfold fX4_takeHall at h
  refine lv_aload_n hx hb dX4_takeHall_0 rfl (lv_at hl 1 rfl) ?_
  refine lv_iconst (v := (0 : Int32)) hx hb dX4_takeHall_1 (by decide) ?_
  refine lv_aload_n hx hb dX4_takeHall_2 rfl (lv_at hl 0 rfl) ?_
  refine bq_get (q0 := 1) S hK hP fl_X4_34_X4_7 rfl rfl rfl dX4_takeHall_3 ?_
  refine lv_iconst (v := (0 : Int32)) hx hb dX4_takeHall_6 (by decide) ?_
  refine lv_iload_n hx hb dX4_takeHall_7 rfl (lv_at hl 2 rfl) ?_
  obtain ⟨⟨g11, g12, g13, g14, g15⟩, h⟩ := bq_gp h
  obtain ⟨x2, hx2, h⟩ := bq_b h
  refine va_copyi (D := D) hx hb (hml.trans hl.1.symm) hown (hts _ ml_X4_44) (hts _ acn) (hts _ acs) (hts _ aci) hK hP (hD _) hS 30 6 0 0 rfl rfl rfl rfl rfl g11 g12 g13 g14 g15 (fun _ _ => rfl) (by decide) (by decide +kernel) dX4_takeHall_8 (fun H locs hP _ hS => ?_)
  replace hP : va_P D bq_cl (bq_wC a k x2) H := by rw [hx2]; exact hP
  refine lv_aload_n hx hb dX4_takeHall_11 rfl (lv_at hl 0 rfl) ?_
  refine lv_iload_n hx hb dX4_takeHall_12 rfl (lv_at hl 2 rfl) ?_
  obtain ⟨x3, hx3, h⟩ := bq_b h
  refine bq_put (x1 := x3) (q0 := 1) (ty := .int) S hK hD hP hS fl_X4_18_X4_2 bt_X4 rfl (by decide +kernel) rfl rfl (Nat.le_of_ble_eq_true rfl) rfl rfl (by rw [hx3]; rfl) dX4_takeHall_13 (fun H locs hP hS => ?_)
  have e2 := hret _ h
  exact hR _ _ _ _ rfl (by rw [e2]; exact hP) hS dX4_takeHall_16
def fX9_changeHall_j31 (n : Nat) (v10 : Int32) (v11 : Int32) (x12 : bq_S) : Option (Int32 × bq_S) :=
  if v11 = (-4 : Int32) then
  some (v11, x12)
  else
  (fJ6_bitCount v10 x12).bind (fun o14 => un2 o14 (fun v16 x15 =>
  (fX4_takeHall 1 30 8 v16 x15).bind (fun x18 =>
  some (v11, x18))))
def fX9_changeHall (n : Nat) (p1 : Int32) (x0 : bq_S) : Option (Int32 × bq_S) :=
  (fX0_askRowsOf p1 x0).bind (fun x2 =>
  (fX0_total n  x2).bind (fun o3 => un2 o3 (fun v5 x4 =>
  if v5 = 0 then
  fX9_changeHall_j31 n p1 (-4 : Int32) x4
  else
  (fX5_fewest n p1 x4).bind (fun o7 => un2 o7 (fun v9 x8 =>
  fX9_changeHall_j31 n p1 v9 x8)))))
theorem dX9_changeHall_0 : decode cX9_changeHall 0 = .ok (.aload_n 0, 1) := by decide +kernel
theorem dX9_changeHall_1 : decode cX9_changeHall 1 = .ok (.getfield 34, 3) := by decide +kernel
theorem dX9_changeHall_4 : decode cX9_changeHall 4 = .ok (.iload_n 1, 1) := by decide +kernel
theorem dX9_changeHall_5 : decode cX9_changeHall 5 = .ok (.invokevirtual 189, 3) := by decide +kernel
theorem dX9_changeHall_8 : decode cX9_changeHall 8 = .ok (.aload_n 0, 1) := by decide +kernel
theorem dX9_changeHall_9 : decode cX9_changeHall 9 = .ok (.getfield 34, 3) := by decide +kernel
theorem dX9_changeHall_12 : decode cX9_changeHall 12 = .ok (.invokevirtual 193, 3) := by decide +kernel
theorem dX9_changeHall_15 : decode cX9_changeHall 15 = .ok (.ifCond .ne 8, 3) := by decide +kernel
theorem dX9_changeHall_18 : decode cX9_changeHall 18 = .ok (.bipush (-4), 2) := by decide +kernel
theorem dX9_changeHall_20 : decode cX9_changeHall 20 = .ok (.goto 11, 3) := by decide +kernel
theorem dX9_changeHall_23 : decode cX9_changeHall 23 = .ok (.aload_n 0, 1) := by decide +kernel
theorem dX9_changeHall_24 : decode cX9_changeHall 24 = .ok (.getfield 57, 3) := by decide +kernel
theorem dX9_changeHall_27 : decode cX9_changeHall 27 = .ok (.iload_n 1, 1) := by decide +kernel
theorem dX9_changeHall_28 : decode cX9_changeHall 28 = .ok (.invokevirtual 279, 3) := by decide +kernel
theorem dX9_changeHall_31 : decode cX9_changeHall 31 = .ok (.istore_n 2, 1) := by decide +kernel
theorem dX9_changeHall_32 : decode cX9_changeHall 32 = .ok (.iload_n 2, 1) := by decide +kernel
theorem dX9_changeHall_33 : decode cX9_changeHall 33 = .ok (.bipush (-4), 2) := by decide +kernel
theorem dX9_changeHall_35 : decode cX9_changeHall 35 = .ok (.if_icmp .eq 21, 3) := by decide +kernel
theorem dX9_changeHall_38 : decode cX9_changeHall 38 = .ok (.aload_n 0, 1) := by decide +kernel
theorem dX9_changeHall_39 : decode cX9_changeHall 39 = .ok (.getfield 10, 3) := by decide +kernel
theorem dX9_changeHall_42 : decode cX9_changeHall 42 = .ok (.aload_n 0, 1) := by decide +kernel
theorem dX9_changeHall_43 : decode cX9_changeHall 43 = .ok (.getfield 57, 3) := by decide +kernel
theorem dX9_changeHall_46 : decode cX9_changeHall 46 = .ok (.getfield 281, 3) := by decide +kernel
theorem dX9_changeHall_49 : decode cX9_changeHall 49 = .ok (.iload_n 1, 1) := by decide +kernel
theorem dX9_changeHall_50 : decode cX9_changeHall 50 = .ok (.invokestatic 196, 3) := by decide +kernel
theorem dX9_changeHall_53 : decode cX9_changeHall 53 = .ok (.invokevirtual 149, 3) := by decide +kernel
theorem dX9_changeHall_56 : decode cX9_changeHall 56 = .ok (.iload_n 2, 1) := by decide +kernel
theorem dX9_changeHall_57 : decode cX9_changeHall 57 = .ok (.ireturn, 1) := by decide +kernel
set_option maxHeartbeats 4000000 in
set_option maxRecDepth 100000 in
theorem cX9_changeHall_k_0 {l : Launch} {D : va_G} {a : Nat → Nat} {k : Nat → ClassId} {n : Nat} {p1 : Int32} {x0 xz : bq_S} {rz : Int32} (h : fX9_changeHall n p1 x0 = some (rz, xz)) : bq_M l D bq_cl (bq_ty k) (bq_wC a k) yX9_changeHall cX9_changeHall 3 (some .int) { frames := 16, cells := 0, slots := 0, locals := 508 } [.ref (a 0), .int p1] x0 (some rz) xz := by
  refine bq_ofW RX9 [(0, .ref (a 0)), (1, .int p1)] (by decide +kernel) rfl (Nat.le_of_ble_eq_true rfl) rfl (bq_adC a k) ?_
  intro p e s m below meth c A Q ls S hK hD hA hR hS hP hl
  have hx := S.1; have hb := S.2.1; have hml := S.2.2.1; have hown := S.2.2.2.1; have hts := S.2.2.2.2
  have hret : ∀ z, some z = some (rz, xz) → (rz, xz) = z := fun z h => (Option.some.inj h).symm
  unfold fX9_changeHall at h
  have hj31 : ∀ (v10 : Int32) (v11 : Int32) (x12 : bq_S) (H : Heap) (locs : List Loc) (ls : Array Slot), fX9_changeHall_j31 n v10 v11 x12 = some (rz, xz) → va_P D bq_cl (bq_wC a k x12) H → va_S A s.heap H locs → lv_has ls 3 [(0, .ref (a 0)), (1, .int v10)] → W p l e { frames := 16, cells := 0, slots := 0, locals := 508 } s m [.ref (a 0), .int p1].toArray below meth c H locs 0 0 Q (F0 m 31 ls [.int v11]) := by
    intro v10 v11 x12 H locs ls h hP hS hl
    unfold fX9_changeHall_j31 at h
    refine lv_istore_n (lv' := [(2, .int v11), (0, .ref (a 0)), (1, .int v10)]) hx hb dX9_changeHall_31 rfl hl (by decide) rfl (fun ls hl => ?_)
    refine lv_iload_n hx hb dX9_changeHall_32 rfl (lv_at hl 0 rfl) ?_
    refine lv_bipush (v := (-4 : Int32)) hx hb dX9_changeHall_33 (by decide) ?_
    refine lv_icmp_eq (tgt := 56) hx hb dX9_changeHall_35 (by decide) (fun c13 => ?_) (fun c13 => ?_)
    · replace h := (if_pos c13).symm.trans h
      refine lv_iload_n hx hb dX9_changeHall_56 rfl (lv_at hl 0 rfl) ?_
      obtain ⟨e1, e2⟩ := Prod.mk.inj (hret _ h)
      exact hR _ _ _ _ _ (congrArg some e1) rfl (by rw [e2]; exact hP) hS dX9_changeHall_57
    · replace h := (if_neg c13).symm.trans h
      refine lv_aload_n hx hb dX9_changeHall_38 rfl (lv_at hl 1 rfl) ?_
      refine bq_get (q0 := 0) S hK hP fl_X9_10_X9_0 rfl rfl rfl dX9_changeHall_39 ?_
      refine lv_aload_n hx hb dX9_changeHall_42 rfl (lv_at hl 1 rfl) ?_
      refine bq_get (q0 := 0) S hK hP fl_X9_57_X9_7 rfl rfl rfl dX9_changeHall_43 ?_
      refine bq_get (q0 := 29) S hK hP fl_X9_281_X5_0 rfl rfl rfl dX9_changeHall_46 ?_
      refine lv_iload_n hx hb dX9_changeHall_49 rfl (lv_at hl 2 rfl) ?_
      obtain ⟨o14, ho14, h⟩ := Option.bind_eq_some_iff.mp h
      obtain ⟨v16, x15⟩ := o14
      replace h := un2_e h
      refine bq_callSi (As := [.int _]) S hK hD hA hP hS (cJ6_bitCount_k ho14) hd_yJ6_bitCount_0f7a4 ml_X9_196 st_yJ6_bitCount_0f7a4 ⟨rfl, rfl⟩ ⟨by decide, by decide⟩ rfl hl.1 rfl (Nat.le_of_ble_eq_true rfl) ⟨Nat.zero_le _, Nat.zero_le _⟩ dX9_changeHall_50 (fun H locs hP hS => ?_)
      obtain ⟨x18, ho17, h⟩ := Option.bind_eq_some_iff.mp h
      refine bq_callVv (q0 := 1) (As := [.ref (a 30), .int _]) S hK hD hA hP hS (cX4_takeHall_k_1_30 ho17) hd_yX4_takeHall ml_X9_149 in_yX4_takeHall (hts _ sl_X4_X4_yX4_takeHall) ⟨rfl, rfl⟩ ⟨by decide, by decide⟩ rfl rfl rfl hl.1 rfl (Nat.le_of_ble_eq_true rfl) ⟨Nat.zero_le _, Nat.zero_le _⟩ dX9_changeHall_53 (fun H locs hP hS => ?_)
      refine lv_iload_n hx hb dX9_changeHall_56 rfl (lv_at hl 0 rfl) ?_
      obtain ⟨e1, e2⟩ := Prod.mk.inj (hret _ h)
      exact hR _ _ _ _ _ (congrArg some e1) rfl (by rw [e2]; exact hP) hS dX9_changeHall_57
  refine lv_aload_n hx hb dX9_changeHall_0 rfl (lv_at hl 0 rfl) ?_
  refine bq_get (q0 := 0) S hK hP fl_X9_34_X9_4 rfl rfl rfl dX9_changeHall_1 ?_
  refine lv_iload_n hx hb dX9_changeHall_4 rfl (lv_at hl 1 rfl) ?_
  obtain ⟨x2, ho1, h⟩ := Option.bind_eq_some_iff.mp h
  refine bq_callVv (q0 := 26) (As := [.int _]) S hK hD hA hP hS (cX0_askRowsOf_k_26 ho1) hd_yX0_askRowsOf ml_X9_189 in_yX0_askRowsOf (hts _ sl_X0_X0_yX0_askRowsOf) ⟨rfl, rfl⟩ ⟨by decide, by decide⟩ rfl rfl rfl hl.1 rfl (Nat.le_of_ble_eq_true rfl) ⟨Nat.zero_le _, Nat.zero_le _⟩ dX9_changeHall_5 (fun H locs hP hS => ?_)
  refine lv_aload_n hx hb dX9_changeHall_8 rfl (lv_at hl 0 rfl) ?_
  refine bq_get (q0 := 0) S hK hP fl_X9_34_X9_4 rfl rfl rfl dX9_changeHall_9 ?_
  obtain ⟨o3, ho3, h⟩ := Option.bind_eq_some_iff.mp h
  obtain ⟨v5, x4⟩ := o3
  replace h := un2_e h
  refine bq_callVi (q0 := 26) (As := []) S hK hD hA hP hS (cX0_total_k_26 ho3) hd_yX0_total ml_X9_193 in_yX0_total (hts _ sl_X0_X0_yX0_total) ⟨rfl, rfl⟩ ⟨by decide, by decide⟩ rfl rfl rfl hl.1 rfl (Nat.le_of_ble_eq_true rfl) ⟨Nat.zero_le _, Nat.zero_le _⟩ dX9_changeHall_12 (fun H locs hP hS => ?_)
  refine lv_if_ne (tgt := 23) hx hb dX9_changeHall_15 (by decide) (fun c6 => ?_) (fun c6 => ?_)
  · replace h := (if_neg c6).symm.trans h
    refine lv_aload_n hx hb dX9_changeHall_23 rfl (lv_at hl 0 rfl) ?_
    refine bq_get (q0 := 0) S hK hP fl_X9_57_X9_7 rfl rfl rfl dX9_changeHall_24 ?_
    refine lv_iload_n hx hb dX9_changeHall_27 rfl (lv_at hl 1 rfl) ?_
    obtain ⟨o7, ho7, h⟩ := Option.bind_eq_some_iff.mp h
    obtain ⟨v9, x8⟩ := o7
    replace h := un2_e h
    refine bq_callVi (q0 := 29) (As := [.int _]) S hK hD hA hP hS (cX5_fewest_k_29 ho7) hd_yX5_fewest ml_X9_279 in_yX5_fewest (hts _ sl_X5_X5_yX5_fewest) ⟨rfl, rfl⟩ ⟨by decide, by decide⟩ rfl rfl rfl hl.1 rfl (Nat.le_of_ble_eq_true rfl) ⟨Nat.zero_le _, Nat.zero_le _⟩ dX9_changeHall_28 (fun H locs hP hS => ?_)
    exact hj31 _ _ _ _ _ _ h hP hS (lv_sub hl [0, 1] rfl)
  · replace h := (if_pos c6).symm.trans h
    refine lv_bipush (v := (-4 : Int32)) hx hb dX9_changeHall_18 (by decide) ?_
    refine lv_goto (tgt := 31) hx hb dX9_changeHall_20 (by decide) ?_
    exact hj31 _ _ _ _ _ _ h hP hS (lv_sub hl [0, 1] rfl)
def fX9_put (n : Nat) (p1 : Int32) (x0 : bq_S) : Option (Int32 × bq_S) :=
  (fX4_isBook 1 p1.toInt64 x0).bind (fun o1 => un2 o1 (fun v3 x2 =>
  if v3 = 0 then
  some ((-1 : Int32), x2)
  else
  (fX4_hallSet n 1 x2).bind (fun o5 => un2 o5 (fun v7 x6 =>
  (fX9_has v7 p1 x6).bind (fun o8 => un2 o8 (fun v10 x9 =>
  if v10 = 0 then
  (fX9_bit p1 x9).bind (fun o12 => un2 o12 (fun v14 x13 =>
  (fX9_changeHall n (v7 ||| v14) x13).bind (fun o15 => un2 o15 (fun v17 x16 =>
  some (v17, x16)))))
  else
  some ((-2 : Int32), x9)))))))
theorem dX9_put_0 : decode cX9_put 0 = .ok (.aload_n 0, 1) := by decide +kernel
theorem dX9_put_1 : decode cX9_put 1 = .ok (.getfield 10, 3) := by decide +kernel
theorem dX9_put_4 : decode cX9_put 4 = .ok (.iload_n 1, 1) := by decide +kernel
theorem dX9_put_5 : decode cX9_put 5 = .ok (.i2l, 1) := by decide +kernel
theorem dX9_put_6 : decode cX9_put 6 = .ok (.invokevirtual 106, 3) := by decide +kernel
theorem dX9_put_9 : decode cX9_put 9 = .ok (.ifCond .ne 5, 3) := by decide +kernel
theorem dX9_put_12 : decode cX9_put 12 = .ok (.iconst (-1), 1) := by decide +kernel
theorem dX9_put_13 : decode cX9_put 13 = .ok (.ireturn, 1) := by decide +kernel
theorem dX9_put_14 : decode cX9_put 14 = .ok (.aload_n 0, 1) := by decide +kernel
theorem dX9_put_15 : decode cX9_put 15 = .ok (.getfield 10, 3) := by decide +kernel
theorem dX9_put_18 : decode cX9_put 18 = .ok (.invokevirtual 175, 3) := by decide +kernel
theorem dX9_put_21 : decode cX9_put 21 = .ok (.istore_n 2, 1) := by decide +kernel
theorem dX9_put_22 : decode cX9_put 22 = .ok (.iload_n 2, 1) := by decide +kernel
theorem dX9_put_23 : decode cX9_put 23 = .ok (.iload_n 1, 1) := by decide +kernel
theorem dX9_put_24 : decode cX9_put 24 = .ok (.invokestatic 208, 3) := by decide +kernel
theorem dX9_put_27 : decode cX9_put 27 = .ok (.ifCond .eq 6, 3) := by decide +kernel
theorem dX9_put_30 : decode cX9_put 30 = .ok (.bipush (-2), 2) := by decide +kernel
theorem dX9_put_32 : decode cX9_put 32 = .ok (.ireturn, 1) := by decide +kernel
theorem dX9_put_33 : decode cX9_put 33 = .ok (.aload_n 0, 1) := by decide +kernel
theorem dX9_put_34 : decode cX9_put 34 = .ok (.iload_n 2, 1) := by decide +kernel
theorem dX9_put_35 : decode cX9_put 35 = .ok (.iload_n 1, 1) := by decide +kernel
theorem dX9_put_36 : decode cX9_put 36 = .ok (.invokestatic 211, 3) := by decide +kernel
theorem dX9_put_39 : decode cX9_put 39 = .ok (.ior, 1) := by decide +kernel
theorem dX9_put_40 : decode cX9_put 40 = .ok (.invokevirtual 214, 3) := by decide +kernel
theorem dX9_put_43 : decode cX9_put 43 = .ok (.ireturn, 1) := by decide +kernel
set_option maxHeartbeats 4000000 in
set_option maxRecDepth 100000 in
theorem cX9_put_k_0 {l : Launch} {D : va_G} {a : Nat → Nat} {k : Nat → ClassId} {n : Nat} {p1 : Int32} {x0 xz : bq_S} {rz : Int32} (h : fX9_put n p1 x0 = some (rz, xz)) : bq_M l D bq_cl (bq_ty k) (bq_wC a k) yX9_put cX9_put 3 (some .int) { frames := 17, cells := 0, slots := 0, locals := 530 } [.ref (a 0), .int p1] x0 (some rz) xz := by
  refine bq_ofW RX9 [(0, .ref (a 0)), (1, .int p1)] (by decide +kernel) rfl (Nat.le_of_ble_eq_true rfl) rfl (bq_adC a k) ?_
  intro p e s m below meth c A Q ls S hK hD hA hR hS hP hl
  have hx := S.1; have hb := S.2.1; have hml := S.2.2.1; have hown := S.2.2.2.1; have hts := S.2.2.2.2
  have hret : ∀ z, some z = some (rz, xz) → (rz, xz) = z := fun z h => (Option.some.inj h).symm
  unfold fX9_put at h
  refine lv_aload_n hx hb dX9_put_0 rfl (lv_at hl 0 rfl) ?_
  refine bq_get (q0 := 0) S hK hP fl_X9_10_X9_0 rfl rfl rfl dX9_put_1 ?_
  refine lv_iload_n hx hb dX9_put_4 rfl (lv_at hl 1 rfl) ?_
  refine lv_i2l hx hb dX9_put_5 rfl ?_
  obtain ⟨o1, ho1, h⟩ := Option.bind_eq_some_iff.mp h
  obtain ⟨v3, x2⟩ := o1
  replace h := un2_e h
  refine bq_callVi (q0 := 1) (As := [.long _]) S hK hD hA hP hS (cX4_isBook_k_1 ho1) hd_yX4_isBook ml_X9_106 in_yX4_isBook (hts _ sl_X4_X4_yX4_isBook) ⟨rfl, rfl⟩ ⟨by decide, by decide⟩ rfl rfl rfl hl.1 rfl (Nat.le_of_ble_eq_true rfl) ⟨Nat.zero_le _, Nat.zero_le _⟩ dX9_put_6 (fun H locs hP hS => ?_)
  refine lv_if_ne (tgt := 14) hx hb dX9_put_9 (by decide) (fun c4 => ?_) (fun c4 => ?_)
  · replace h := (if_neg c4).symm.trans h
    refine lv_aload_n hx hb dX9_put_14 rfl (lv_at hl 0 rfl) ?_
    refine bq_get (q0 := 0) S hK hP fl_X9_10_X9_0 rfl rfl rfl dX9_put_15 ?_
    obtain ⟨o5, ho5, h⟩ := Option.bind_eq_some_iff.mp h
    obtain ⟨v7, x6⟩ := o5
    replace h := un2_e h
    refine bq_callVi (q0 := 1) (As := []) S hK hD hA hP hS (cX4_hallSet_k_1 ho5) hd_yX4_hallSet ml_X9_175 in_yX4_hallSet (hts _ sl_X4_X4_yX4_hallSet) ⟨rfl, rfl⟩ ⟨by decide, by decide⟩ rfl rfl rfl hl.1 rfl (Nat.le_of_ble_eq_true rfl) ⟨Nat.zero_le _, Nat.zero_le _⟩ dX9_put_18 (fun H locs hP hS => ?_)
    refine lv_istore_n (lv' := [(2, .int v7), (0, .ref (a 0)), (1, .int p1)]) hx hb dX9_put_21 rfl hl (by decide) rfl (fun ls hl => ?_)
    refine lv_iload_n hx hb dX9_put_22 rfl (lv_at hl 0 rfl) ?_
    refine lv_iload_n hx hb dX9_put_23 rfl (lv_at hl 2 rfl) ?_
    obtain ⟨o8, ho8, h⟩ := Option.bind_eq_some_iff.mp h
    obtain ⟨v10, x9⟩ := o8
    replace h := un2_e h
    refine bq_callSi (As := [.int _, .int _]) S hK hD hA hP hS (cX9_has_k ho8) hd_yX9_has ml_X9_208 st_yX9_has ⟨rfl, rfl⟩ ⟨by decide, by decide⟩ rfl hl.1 rfl (Nat.le_of_ble_eq_true rfl) ⟨Nat.zero_le _, Nat.zero_le _⟩ dX9_put_24 (fun H locs hP hS => ?_)
    refine lv_if_eq (tgt := 33) hx hb dX9_put_27 (by decide) (fun c11 => ?_) (fun c11 => ?_)
    · replace h := (if_pos c11).symm.trans h
      refine lv_aload_n hx hb dX9_put_33 rfl (lv_at hl 1 rfl) ?_
      refine lv_iload_n hx hb dX9_put_34 rfl (lv_at hl 0 rfl) ?_
      refine lv_iload_n hx hb dX9_put_35 rfl (lv_at hl 2 rfl) ?_
      obtain ⟨o12, ho12, h⟩ := Option.bind_eq_some_iff.mp h
      obtain ⟨v14, x13⟩ := o12
      replace h := un2_e h
      refine bq_callSi (As := [.int _]) S hK hD hA hP hS (cX9_bit_k ho12) hd_yX9_bit ml_X9_211 st_yX9_bit ⟨rfl, rfl⟩ ⟨by decide, by decide⟩ rfl hl.1 rfl (Nat.le_of_ble_eq_true rfl) ⟨Nat.zero_le _, Nat.zero_le _⟩ dX9_put_36 (fun H locs hP hS => ?_)
      refine lv_ior hx hb dX9_put_39 ?_
      obtain ⟨o15, ho15, h⟩ := Option.bind_eq_some_iff.mp h
      obtain ⟨v17, x16⟩ := o15
      replace h := un2_e h
      refine bq_callVi (q0 := 0) (As := [.int _]) S hK hD hA hP hS (cX9_changeHall_k_0 ho15) hd_yX9_changeHall ml_X9_214 in_yX9_changeHall (hts _ sl_X9_X9_yX9_changeHall) ⟨rfl, rfl⟩ ⟨by decide, by decide⟩ rfl rfl rfl hl.1 rfl (Nat.le_of_ble_eq_true rfl) ⟨Nat.zero_le _, Nat.zero_le _⟩ dX9_put_40 (fun H locs hP hS => ?_)
      obtain ⟨e1, e2⟩ := Prod.mk.inj (hret _ h)
      exact hR _ _ _ _ _ (congrArg some e1) rfl (by rw [e2]; exact hP) hS dX9_put_43
    · replace h := (if_neg c11).symm.trans h
      refine lv_bipush (v := (-2 : Int32)) hx hb dX9_put_30 (by decide) ?_
      obtain ⟨e1, e2⟩ := Prod.mk.inj (hret _ h)
      exact hR _ _ _ _ _ (congrArg some e1) rfl (by rw [e2]; exact hP) hS dX9_put_32
  · replace h := (if_pos c4).symm.trans h
    refine lv_iconst (v := (-1 : Int32)) hx hb dX9_put_12 (by decide) ?_
    obtain ⟨e1, e2⟩ := Prod.mk.inj (hret _ h)
    exact hR _ _ _ _ _ (congrArg some e1) rfl (by rw [e2]; exact hP) hS dX9_put_13
def fX9_lend (n : Nat) (p1 : Int32) (x0 : bq_S) : Option (Int32 × bq_S) :=
  (fX4_isBook 1 p1.toInt64 x0).bind (fun o1 => un2 o1 (fun v3 x2 =>
  if v3 = 0 then
  some ((-1 : Int32), x2)
  else
  (fX4_hallSet n 1 x2).bind (fun o5 => un2 o5 (fun v7 x6 =>
  (fX9_has v7 p1 x6).bind (fun o8 => un2 o8 (fun v10 x9 =>
  if v10 = 0 then
  some ((-2 : Int32), x9)
  else
  (fX9_bit p1 x9).bind (fun o12 => un2 o12 (fun v14 x13 =>
  (fX9_changeHall n (v7 &&& (v14 ^^^ (-1 : Int32))) x13).bind (fun o15 => un2 o15 (fun v17 x16 =>
  some (v17, x16)))))))))))
theorem dX9_lend_0 : decode cX9_lend 0 = .ok (.aload_n 0, 1) := by decide +kernel
theorem dX9_lend_1 : decode cX9_lend 1 = .ok (.getfield 10, 3) := by decide +kernel
theorem dX9_lend_4 : decode cX9_lend 4 = .ok (.iload_n 1, 1) := by decide +kernel
theorem dX9_lend_5 : decode cX9_lend 5 = .ok (.i2l, 1) := by decide +kernel
theorem dX9_lend_6 : decode cX9_lend 6 = .ok (.invokevirtual 106, 3) := by decide +kernel
theorem dX9_lend_9 : decode cX9_lend 9 = .ok (.ifCond .ne 5, 3) := by decide +kernel
theorem dX9_lend_12 : decode cX9_lend 12 = .ok (.iconst (-1), 1) := by decide +kernel
theorem dX9_lend_13 : decode cX9_lend 13 = .ok (.ireturn, 1) := by decide +kernel
theorem dX9_lend_14 : decode cX9_lend 14 = .ok (.aload_n 0, 1) := by decide +kernel
theorem dX9_lend_15 : decode cX9_lend 15 = .ok (.getfield 10, 3) := by decide +kernel
theorem dX9_lend_18 : decode cX9_lend 18 = .ok (.invokevirtual 175, 3) := by decide +kernel
theorem dX9_lend_21 : decode cX9_lend 21 = .ok (.istore_n 2, 1) := by decide +kernel
theorem dX9_lend_22 : decode cX9_lend 22 = .ok (.iload_n 2, 1) := by decide +kernel
theorem dX9_lend_23 : decode cX9_lend 23 = .ok (.iload_n 1, 1) := by decide +kernel
theorem dX9_lend_24 : decode cX9_lend 24 = .ok (.invokestatic 208, 3) := by decide +kernel
theorem dX9_lend_27 : decode cX9_lend 27 = .ok (.ifCond .ne 6, 3) := by decide +kernel
theorem dX9_lend_30 : decode cX9_lend 30 = .ok (.bipush (-2), 2) := by decide +kernel
theorem dX9_lend_32 : decode cX9_lend 32 = .ok (.ireturn, 1) := by decide +kernel
theorem dX9_lend_33 : decode cX9_lend 33 = .ok (.aload_n 0, 1) := by decide +kernel
theorem dX9_lend_34 : decode cX9_lend 34 = .ok (.iload_n 2, 1) := by decide +kernel
theorem dX9_lend_35 : decode cX9_lend 35 = .ok (.iload_n 1, 1) := by decide +kernel
theorem dX9_lend_36 : decode cX9_lend 36 = .ok (.invokestatic 211, 3) := by decide +kernel
theorem dX9_lend_39 : decode cX9_lend 39 = .ok (.iconst (-1), 1) := by decide +kernel
theorem dX9_lend_40 : decode cX9_lend 40 = .ok (.ixor, 1) := by decide +kernel
theorem dX9_lend_41 : decode cX9_lend 41 = .ok (.iand, 1) := by decide +kernel
theorem dX9_lend_42 : decode cX9_lend 42 = .ok (.invokevirtual 214, 3) := by decide +kernel
theorem dX9_lend_45 : decode cX9_lend 45 = .ok (.ireturn, 1) := by decide +kernel
set_option maxHeartbeats 4000000 in
set_option maxRecDepth 100000 in
theorem cX9_lend_k_0 {l : Launch} {D : va_G} {a : Nat → Nat} {k : Nat → ClassId} {n : Nat} {p1 : Int32} {x0 xz : bq_S} {rz : Int32} (h : fX9_lend n p1 x0 = some (rz, xz)) : bq_M l D bq_cl (bq_ty k) (bq_wC a k) yX9_lend cX9_lend 3 (some .int) { frames := 17, cells := 0, slots := 0, locals := 530 } [.ref (a 0), .int p1] x0 (some rz) xz := by
  refine bq_ofW RX9 [(0, .ref (a 0)), (1, .int p1)] (by decide +kernel) rfl (Nat.le_of_ble_eq_true rfl) rfl (bq_adC a k) ?_
  intro p e s m below meth c A Q ls S hK hD hA hR hS hP hl
  have hx := S.1; have hb := S.2.1; have hml := S.2.2.1; have hown := S.2.2.2.1; have hts := S.2.2.2.2
  have hret : ∀ z, some z = some (rz, xz) → (rz, xz) = z := fun z h => (Option.some.inj h).symm
  unfold fX9_lend at h
  refine lv_aload_n hx hb dX9_lend_0 rfl (lv_at hl 0 rfl) ?_
  refine bq_get (q0 := 0) S hK hP fl_X9_10_X9_0 rfl rfl rfl dX9_lend_1 ?_
  refine lv_iload_n hx hb dX9_lend_4 rfl (lv_at hl 1 rfl) ?_
  refine lv_i2l hx hb dX9_lend_5 rfl ?_
  obtain ⟨o1, ho1, h⟩ := Option.bind_eq_some_iff.mp h
  obtain ⟨v3, x2⟩ := o1
  replace h := un2_e h
  refine bq_callVi (q0 := 1) (As := [.long _]) S hK hD hA hP hS (cX4_isBook_k_1 ho1) hd_yX4_isBook ml_X9_106 in_yX4_isBook (hts _ sl_X4_X4_yX4_isBook) ⟨rfl, rfl⟩ ⟨by decide, by decide⟩ rfl rfl rfl hl.1 rfl (Nat.le_of_ble_eq_true rfl) ⟨Nat.zero_le _, Nat.zero_le _⟩ dX9_lend_6 (fun H locs hP hS => ?_)
  refine lv_if_ne (tgt := 14) hx hb dX9_lend_9 (by decide) (fun c4 => ?_) (fun c4 => ?_)
  · replace h := (if_neg c4).symm.trans h
    refine lv_aload_n hx hb dX9_lend_14 rfl (lv_at hl 0 rfl) ?_
    refine bq_get (q0 := 0) S hK hP fl_X9_10_X9_0 rfl rfl rfl dX9_lend_15 ?_
    obtain ⟨o5, ho5, h⟩ := Option.bind_eq_some_iff.mp h
    obtain ⟨v7, x6⟩ := o5
    replace h := un2_e h
    refine bq_callVi (q0 := 1) (As := []) S hK hD hA hP hS (cX4_hallSet_k_1 ho5) hd_yX4_hallSet ml_X9_175 in_yX4_hallSet (hts _ sl_X4_X4_yX4_hallSet) ⟨rfl, rfl⟩ ⟨by decide, by decide⟩ rfl rfl rfl hl.1 rfl (Nat.le_of_ble_eq_true rfl) ⟨Nat.zero_le _, Nat.zero_le _⟩ dX9_lend_18 (fun H locs hP hS => ?_)
    refine lv_istore_n (lv' := [(2, .int v7), (0, .ref (a 0)), (1, .int p1)]) hx hb dX9_lend_21 rfl hl (by decide) rfl (fun ls hl => ?_)
    refine lv_iload_n hx hb dX9_lend_22 rfl (lv_at hl 0 rfl) ?_
    refine lv_iload_n hx hb dX9_lend_23 rfl (lv_at hl 2 rfl) ?_
    obtain ⟨o8, ho8, h⟩ := Option.bind_eq_some_iff.mp h
    obtain ⟨v10, x9⟩ := o8
    replace h := un2_e h
    refine bq_callSi (As := [.int _, .int _]) S hK hD hA hP hS (cX9_has_k ho8) hd_yX9_has ml_X9_208 st_yX9_has ⟨rfl, rfl⟩ ⟨by decide, by decide⟩ rfl hl.1 rfl (Nat.le_of_ble_eq_true rfl) ⟨Nat.zero_le _, Nat.zero_le _⟩ dX9_lend_24 (fun H locs hP hS => ?_)
    refine lv_if_ne (tgt := 33) hx hb dX9_lend_27 (by decide) (fun c11 => ?_) (fun c11 => ?_)
    · replace h := (if_neg c11).symm.trans h
      refine lv_aload_n hx hb dX9_lend_33 rfl (lv_at hl 1 rfl) ?_
      refine lv_iload_n hx hb dX9_lend_34 rfl (lv_at hl 0 rfl) ?_
      refine lv_iload_n hx hb dX9_lend_35 rfl (lv_at hl 2 rfl) ?_
      obtain ⟨o12, ho12, h⟩ := Option.bind_eq_some_iff.mp h
      obtain ⟨v14, x13⟩ := o12
      replace h := un2_e h
      refine bq_callSi (As := [.int _]) S hK hD hA hP hS (cX9_bit_k ho12) hd_yX9_bit ml_X9_211 st_yX9_bit ⟨rfl, rfl⟩ ⟨by decide, by decide⟩ rfl hl.1 rfl (Nat.le_of_ble_eq_true rfl) ⟨Nat.zero_le _, Nat.zero_le _⟩ dX9_lend_36 (fun H locs hP hS => ?_)
      refine lv_iconst (v := (-1 : Int32)) hx hb dX9_lend_39 (by decide) ?_
      refine lv_ixor hx hb dX9_lend_40 ?_
      refine lv_iand hx hb dX9_lend_41 ?_
      obtain ⟨o15, ho15, h⟩ := Option.bind_eq_some_iff.mp h
      obtain ⟨v17, x16⟩ := o15
      replace h := un2_e h
      refine bq_callVi (q0 := 0) (As := [.int _]) S hK hD hA hP hS (cX9_changeHall_k_0 ho15) hd_yX9_changeHall ml_X9_214 in_yX9_changeHall (hts _ sl_X9_X9_yX9_changeHall) ⟨rfl, rfl⟩ ⟨by decide, by decide⟩ rfl rfl rfl hl.1 rfl (Nat.le_of_ble_eq_true rfl) ⟨Nat.zero_le _, Nat.zero_le _⟩ dX9_lend_42 (fun H locs hP hS => ?_)
      obtain ⟨e1, e2⟩ := Prod.mk.inj (hret _ h)
      exact hR _ _ _ _ _ (congrArg some e1) rfl (by rw [e2]; exact hP) hS dX9_lend_45
    · replace h := (if_pos c11).symm.trans h
      refine lv_bipush (v := (-2 : Int32)) hx hb dX9_lend_30 (by decide) ?_
      obtain ⟨e1, e2⟩ := Prod.mk.inj (hret _ h)
      exact hR _ _ _ _ _ (congrArg some e1) rfl (by rw [e2]; exact hP) hS dX9_lend_32
  · replace h := (if_pos c4).symm.trans h
    refine lv_iconst (v := (-1 : Int32)) hx hb dX9_lend_12 (by decide) ?_
    obtain ⟨e1, e2⟩ := Prod.mk.inj (hret _ h)
    exact hR _ _ _ _ _ (congrArg some e1) rfl (by rw [e2]; exact hP) hS dX9_lend_13
def fX8X2_ask (p1 : Int32) (p2 : Int32) (p3 : Int32) (x0 : bq_S) : Option (bq_S) :=
  bd (bq_sI x0 27 2 p1) (fun x1 =>
  bd (bq_sI x1 27 3 p2) (fun x2 =>
  if p3 = 0 ∨ p3 = 1 then
  bd (bq_sI x2 27 5 p3) (fun x3 =>
  some x3)
  else none))
set_option maxHeartbeats 4000000 in
set_option maxRecDepth 100000 in
theorem cX8X2_ask_k_27 {l : Launch} {D : va_G} {a : Nat → Nat} {k : Nat → ClassId} {p1 : Int32} {p2 : Int32} {p3 : Int32} {x0 xz : bq_S} (h : fX8X2_ask  p1 p2 p3 x0 = some xz) : bq_M l D bq_cl (bq_ty k) (bq_wC a k) yX8_ask cX8_ask 4 none { frames := 0, cells := 0, slots := 0, locals := 0 } [.ref (a 27), .int p1, .int p2, .int p3] x0 none xz := by
  refine bq_ofWv RX8 [(0, .ref (a 27)), (1, .int p1), (2, .int p2), (3, .int p3)] (by decide +kernel) rfl (Nat.le_of_ble_eq_true rfl) rfl (bq_adC a k) ?_
  intro p e s m below meth c A Q ls S hK hD hA hR hS hP hl
  have hx := S.1; have hb := S.2.1; have hml := S.2.2.1; have hown := S.2.2.2.1; have hts := S.2.2.2.2
  have hret : ∀ z, some z = some xz → xz = z := fun z h => (Option.some.inj h).symm
  unfold fX8X2_ask at h
  refine lv_aload_n hx hb dX8_ask_0 rfl (lv_at hl 0 rfl) ?_
  refine lv_iload_n hx hb dX8_ask_1 rfl (lv_at hl 1 rfl) ?_
  obtain ⟨x1, hx1, h⟩ := bq_b h
  refine bq_put (x1 := x1) (q0 := 27) (ty := .int) S hK hD hP hS fl_X8_19_X2_2 bt_X2 rfl (by decide +kernel) rfl rfl (Nat.le_of_ble_eq_true rfl) rfl rfl (by rw [hx1]; rfl) dX8_ask_2 (fun H locs hP hS => ?_)
  refine lv_aload_n hx hb dX8_ask_5 rfl (lv_at hl 0 rfl) ?_
  refine lv_iload_n hx hb dX8_ask_6 rfl (lv_at hl 2 rfl) ?_
  obtain ⟨x2, hx2, h⟩ := bq_b h
  refine bq_put (x1 := x2) (q0 := 27) (ty := .int) S hK hD hP hS fl_X8_23_X2_3 bt_X2 rfl (by decide +kernel) rfl rfl (Nat.le_of_ble_eq_true rfl) rfl rfl (by rw [hx2]; rfl) dX8_ask_7 (fun H locs hP hS => ?_)
  refine lv_aload_n hx hb dX8_ask_10 rfl (lv_at hl 0 rfl) ?_
  refine lv_iload_n hx hb dX8_ask_11 rfl (lv_at hl 3 rfl) ?_
  obtain ⟨g4, h⟩ := bq_gp h
  obtain ⟨x3, hx3, h⟩ := bq_b h
  refine bq_put (x1 := x3) (q0 := 27) (ty := .boolean) S hK hD hP hS fl_X8_29_X2_5 bt_X2 rfl (by decide +kernel) rfl rfl (Nat.le_of_ble_eq_true rfl) (bq_z g4) (bq_zf g4) (by rw [hx3]; rfl) dX8_ask_12 (fun H locs hP hS => ?_)
  have e2 := hret _ h
  exact hR _ _ _ _ rfl (by rw [e2]; exact hP) hS dX8_ask_15
def fX2_ofNone (x0 : bq_S) : Option (Int32 × bq_S) :=
  some ((99 : Int32), x0)
theorem dX2_ofNone_0 : decode cX2_ofNone 0 = .ok (.bipush 99, 2) := by decide +kernel
theorem dX2_ofNone_2 : decode cX2_ofNone 2 = .ok (.ireturn, 1) := by decide +kernel
set_option maxHeartbeats 4000000 in
set_option maxRecDepth 100000 in
theorem cX2_ofNone_k_27 {l : Launch} {D : va_G} {a : Nat → Nat} {k : Nat → ClassId} {x0 xz : bq_S} {rz : Int32} (h : fX2_ofNone   x0 = some (rz, xz)) : bq_M l D bq_cl (bq_ty k) (bq_wC a k) yX2_ofNone cX2_ofNone 1 (some .int) { frames := 0, cells := 0, slots := 0, locals := 0 } [.ref (a 27)] x0 (some rz) xz := by
  refine bq_ofW RX2 [(0, .ref (a 27))] (by decide +kernel) rfl (Nat.le_of_ble_eq_true rfl) rfl (bq_adC a k) ?_
  intro p e s m below meth c A Q ls S hK hD hA hR hS hP hl
  have hx := S.1; have hb := S.2.1; have hml := S.2.2.1; have hown := S.2.2.2.1; have hts := S.2.2.2.2
  have hret : ∀ z, some z = some (rz, xz) → (rz, xz) = z := fun z h => (Option.some.inj h).symm
  unfold fX2_ofNone at h
  refine lv_bipush (v := (99 : Int32)) hx hb dX2_ofNone_0 (by decide) ?_
  obtain ⟨e1, e2⟩ := Prod.mk.inj (hret _ h)
  exact hR _ _ _ _ _ (congrArg some e1) rfl (by rw [e2]; exact hP) hS dX2_ofNone_2
def fX2_ofPair (p1 : Int32) (p2 : Int32) (p3 : Int32) (x0 : bq_S) : Option (Int32 × bq_S) :=
  if p3 = (99 : Int32) then
  some ((99 : Int32), x0)
  else
  if ok_i p1 8 then
  (fX9_has (x0.1 4 p1.toNatClampNeg) p2 x0).bind (fun o3 => un2 o3 (fun v5 x4 =>
  if v5 = 0 then
  (fX4_touches 1 p1 p2 x4).bind (fun o7 => un2 o7 (fun v9 x8 =>
  if v9 = 0 then
  some ((p3 + (1 : Int32)), x8)
  else
  some (p3, x8)))
  else
  some ((99 : Int32), x4)))
  else none
theorem dX2_ofPair_0 : decode cX2_ofPair 0 = .ok (.iload_n 3, 1) := by decide +kernel
theorem dX2_ofPair_1 : decode cX2_ofPair 1 = .ok (.bipush 99, 2) := by decide +kernel
theorem dX2_ofPair_3 : decode cX2_ofPair 3 = .ok (.if_icmp .eq 19, 3) := by decide +kernel
theorem dX2_ofPair_6 : decode cX2_ofPair 6 = .ok (.aload_n 0, 1) := by decide +kernel
theorem dX2_ofPair_7 : decode cX2_ofPair 7 = .ok (.getfield 15, 3) := by decide +kernel
theorem dX2_ofPair_10 : decode cX2_ofPair 10 = .ok (.getfield 75, 3) := by decide +kernel
theorem dX2_ofPair_13 : decode cX2_ofPair 13 = .ok (.iload_n 1, 1) := by decide +kernel
theorem dX2_ofPair_14 : decode cX2_ofPair 14 = .ok (.iaload, 1) := by decide +kernel
theorem dX2_ofPair_15 : decode cX2_ofPair 15 = .ok (.iload_n 2, 1) := by decide +kernel
theorem dX2_ofPair_16 : decode cX2_ofPair 16 = .ok (.invokestatic 35, 3) := by decide +kernel
theorem dX2_ofPair_19 : decode cX2_ofPair 19 = .ok (.ifCond .eq 6, 3) := by decide +kernel
theorem dX2_ofPair_22 : decode cX2_ofPair 22 = .ok (.bipush 99, 2) := by decide +kernel
theorem dX2_ofPair_24 : decode cX2_ofPair 24 = .ok (.ireturn, 1) := by decide +kernel
theorem dX2_ofPair_25 : decode cX2_ofPair 25 = .ok (.aload_n 0, 1) := by decide +kernel
theorem dX2_ofPair_26 : decode cX2_ofPair 26 = .ok (.getfield 15, 3) := by decide +kernel
theorem dX2_ofPair_29 : decode cX2_ofPair 29 = .ok (.iload_n 1, 1) := by decide +kernel
theorem dX2_ofPair_30 : decode cX2_ofPair 30 = .ok (.iload_n 2, 1) := by decide +kernel
theorem dX2_ofPair_31 : decode cX2_ofPair 31 = .ok (.invokevirtual 79, 3) := by decide +kernel
theorem dX2_ofPair_34 : decode cX2_ofPair 34 = .ok (.ifCond .eq 7, 3) := by decide +kernel
theorem dX2_ofPair_37 : decode cX2_ofPair 37 = .ok (.iload_n 3, 1) := by decide +kernel
theorem dX2_ofPair_38 : decode cX2_ofPair 38 = .ok (.goto 6, 3) := by decide +kernel
theorem dX2_ofPair_41 : decode cX2_ofPair 41 = .ok (.iload_n 3, 1) := by decide +kernel
theorem dX2_ofPair_42 : decode cX2_ofPair 42 = .ok (.iconst 1, 1) := by decide +kernel
theorem dX2_ofPair_43 : decode cX2_ofPair 43 = .ok (.iadd, 1) := by decide +kernel
theorem dX2_ofPair_44 : decode cX2_ofPair 44 = .ok (.ireturn, 1) := by decide +kernel
set_option maxHeartbeats 4000000 in
set_option maxRecDepth 100000 in
theorem cX2_ofPair_k_27 {l : Launch} {D : va_G} {a : Nat → Nat} {k : Nat → ClassId} {p1 : Int32} {p2 : Int32} {p3 : Int32} {x0 xz : bq_S} {rz : Int32} (h : fX2_ofPair  p1 p2 p3 x0 = some (rz, xz)) : bq_M l D bq_cl (bq_ty k) (bq_wC a k) yX2_ofPair cX2_ofPair 4 (some .int) { frames := 1, cells := 0, slots := 0, locals := 22 } [.ref (a 27), .int p1, .int p2, .int p3] x0 (some rz) xz := by
  refine bq_ofW RX2 [(0, .ref (a 27)), (1, .int p1), (2, .int p2), (3, .int p3)] (by decide +kernel) rfl (Nat.le_of_ble_eq_true rfl) rfl (bq_adC a k) ?_
  intro p e s m below meth c A Q ls S hK hD hA hR hS hP hl
  have hx := S.1; have hb := S.2.1; have hml := S.2.2.1; have hown := S.2.2.2.1; have hts := S.2.2.2.2
  have hret : ∀ z, some z = some (rz, xz) → (rz, xz) = z := fun z h => (Option.some.inj h).symm
  unfold fX2_ofPair at h
  refine lv_iload_n hx hb dX2_ofPair_0 rfl (lv_at hl 3 rfl) ?_
  refine lv_bipush (v := (99 : Int32)) hx hb dX2_ofPair_1 (by decide) ?_
  refine lv_icmp_eq (tgt := 22) hx hb dX2_ofPair_3 (by decide) (fun c1 => ?_) (fun c1 => ?_)
  · replace h := (if_pos c1).symm.trans h
    refine lv_bipush (v := (99 : Int32)) hx hb dX2_ofPair_22 (by decide) ?_
    obtain ⟨e1, e2⟩ := Prod.mk.inj (hret _ h)
    exact hR _ _ _ _ _ (congrArg some e1) rfl (by rw [e2]; exact hP) hS dX2_ofPair_24
  · replace h := (if_neg c1).symm.trans h
    refine lv_aload_n hx hb dX2_ofPair_6 rfl (lv_at hl 0 rfl) ?_
    refine bq_get (q0 := 27) S hK hP fl_X2_15_X2_0 rfl rfl rfl dX2_ofPair_7 ?_
    refine bq_get (q0 := 1) S hK hP fl_X2_75_X4_5 rfl rfl rfl dX2_ofPair_10 ?_
    refine lv_iload_n hx hb dX2_ofPair_13 rfl (lv_at hl 1 rfl) ?_
    obtain ⟨g2, h⟩ := bq_gd h
    refine va_iald (D := D) hx hb hK hP 4 0 rfl rfl g2 dX2_ofPair_14 ?_
    refine lv_iload_n hx hb dX2_ofPair_15 rfl (lv_at hl 2 rfl) ?_
    obtain ⟨o3, ho3, h⟩ := Option.bind_eq_some_iff.mp h
    obtain ⟨v5, x4⟩ := o3
    replace h := un2_e h
    refine bq_callSNi (As := [.int _, .int _]) S hK hD hA hP hS (cX9_has_k ho3) hd_yX9_has mn_X2_35 st_yX9_has ⟨rfl, rfl⟩ ⟨by decide, by decide⟩ rfl hl.1 rfl (Nat.le_of_ble_eq_true rfl) ⟨Nat.zero_le _, Nat.zero_le _⟩ dX2_ofPair_16 (fun H locs hP hS => ?_)
    refine lv_if_eq (tgt := 25) hx hb dX2_ofPair_19 (by decide) (fun c6 => ?_) (fun c6 => ?_)
    · replace h := (if_pos c6).symm.trans h
      refine lv_aload_n hx hb dX2_ofPair_25 rfl (lv_at hl 0 rfl) ?_
      refine bq_get (q0 := 27) S hK hP fl_X2_15_X2_0 rfl rfl rfl dX2_ofPair_26 ?_
      refine lv_iload_n hx hb dX2_ofPair_29 rfl (lv_at hl 1 rfl) ?_
      refine lv_iload_n hx hb dX2_ofPair_30 rfl (lv_at hl 2 rfl) ?_
      obtain ⟨o7, ho7, h⟩ := Option.bind_eq_some_iff.mp h
      obtain ⟨v9, x8⟩ := o7
      replace h := un2_e h
      refine bq_callVi (q0 := 1) (As := [.int _, .int _]) S hK hD hA hP hS (cX4_touches_k_1 ho7) hd_yX4_touches ml_X2_79 in_yX4_touches (hts _ sl_X4_X4_yX4_touches) ⟨rfl, rfl⟩ ⟨by decide, by decide⟩ rfl rfl rfl hl.1 rfl (Nat.le_of_ble_eq_true rfl) ⟨Nat.zero_le _, Nat.zero_le _⟩ dX2_ofPair_31 (fun H locs hP hS => ?_)
      refine lv_if_eq (tgt := 41) hx hb dX2_ofPair_34 (by decide) (fun c10 => ?_) (fun c10 => ?_)
      · replace h := (if_pos c10).symm.trans h
        refine lv_iload_n hx hb dX2_ofPair_41 rfl (lv_at hl 3 rfl) ?_
        refine lv_iconst (v := (1 : Int32)) hx hb dX2_ofPair_42 (by decide) ?_
        refine lv_iadd hx hb dX2_ofPair_43 ?_
        obtain ⟨e1, e2⟩ := Prod.mk.inj (hret _ h)
        exact hR _ _ _ _ _ (congrArg some e1) rfl (by rw [e2]; exact hP) hS dX2_ofPair_44
      · replace h := (if_neg c10).symm.trans h
        refine lv_iload_n hx hb dX2_ofPair_37 rfl (lv_at hl 3 rfl) ?_
        refine lv_goto (tgt := 44) hx hb dX2_ofPair_38 (by decide) ?_
        obtain ⟨e1, e2⟩ := Prod.mk.inj (hret _ h)
        exact hR _ _ _ _ _ (congrArg some e1) rfl (by rw [e2]; exact hP) hS dX2_ofPair_44
    · replace h := (if_neg c6).symm.trans h
      refine lv_bipush (v := (99 : Int32)) hx hb dX2_ofPair_22 (by decide) ?_
      obtain ⟨e1, e2⟩ := Prod.mk.inj (hret _ h)
      exact hR _ _ _ _ _ (congrArg some e1) rfl (by rw [e2]; exact hP) hS dX2_ofPair_24
def fX2_ofStep (p1 : Int32) (p2 : Int32) (p3 : Int32) (p4 : Int32) (x0 : bq_S) : Option (Int32 × bq_S) :=
  (fX2_ofPair p2 p3 p4 x0).bind (fun o1 => un2 o1 (fun v3 x2 =>
  some (v3, x2)))
theorem dX2_ofStep_0 : decode cX2_ofStep 0 = .ok (.aload_n 0, 1) := by decide +kernel
theorem dX2_ofStep_1 : decode cX2_ofStep 1 = .ok (.iload_n 2, 1) := by decide +kernel
theorem dX2_ofStep_2 : decode cX2_ofStep 2 = .ok (.iload_n 3, 1) := by decide +kernel
theorem dX2_ofStep_3 : decode cX2_ofStep 3 = .ok (.iload 4, 2) := by decide +kernel
theorem dX2_ofStep_5 : decode cX2_ofStep 5 = .ok (.invokevirtual 67, 3) := by decide +kernel
theorem dX2_ofStep_8 : decode cX2_ofStep 8 = .ok (.ireturn, 1) := by decide +kernel
set_option maxHeartbeats 4000000 in
set_option maxRecDepth 100000 in
theorem cX2_ofStep_k_27 {l : Launch} {D : va_G} {a : Nat → Nat} {k : Nat → ClassId} {p1 : Int32} {p2 : Int32} {p3 : Int32} {p4 : Int32} {x0 xz : bq_S} {rz : Int32} (h : fX2_ofStep  p1 p2 p3 p4 x0 = some (rz, xz)) : bq_M l D bq_cl (bq_ty k) (bq_wC a k) yX2_ofStep cX2_ofStep 5 (some .int) { frames := 2, cells := 0, slots := 0, locals := 45 } [.ref (a 27), .int p1, .int p2, .int p3, .int p4] x0 (some rz) xz := by
  refine bq_ofW RX2 [(0, .ref (a 27)), (1, .int p1), (2, .int p2), (3, .int p3), (4, .int p4)] (by decide +kernel) rfl (Nat.le_of_ble_eq_true rfl) rfl (bq_adC a k) ?_
  intro p e s m below meth c A Q ls S hK hD hA hR hS hP hl
  have hx := S.1; have hb := S.2.1; have hml := S.2.2.1; have hown := S.2.2.2.1; have hts := S.2.2.2.2
  have hret : ∀ z, some z = some (rz, xz) → (rz, xz) = z := fun z h => (Option.some.inj h).symm
  unfold fX2_ofStep at h
  refine lv_aload_n hx hb dX2_ofStep_0 rfl (lv_at hl 0 rfl) ?_
  refine lv_iload_n hx hb dX2_ofStep_1 rfl (lv_at hl 2 rfl) ?_
  refine lv_iload_n hx hb dX2_ofStep_2 rfl (lv_at hl 3 rfl) ?_
  refine lv_iload hx hb dX2_ofStep_3 (lv_at hl 4 rfl) ?_
  obtain ⟨o1, ho1, h⟩ := Option.bind_eq_some_iff.mp h
  obtain ⟨v3, x2⟩ := o1
  replace h := un2_e h
  refine bq_callVi (q0 := 27) (As := [.int _, .int _, .int _]) S hK hD hA hP hS (cX2_ofPair_k_27 ho1) hd_yX2_ofPair ml_X2_67 in_yX2_ofPair (hts _ sl_X2_X2_yX2_ofPair) ⟨rfl, rfl⟩ ⟨by decide, by decide⟩ rfl rfl rfl hl.1 rfl (Nat.le_of_ble_eq_true rfl) ⟨Nat.zero_le _, Nat.zero_le _⟩ dX2_ofStep_5 (fun H locs hP hS => ?_)
  obtain ⟨e1, e2⟩ := Prod.mk.inj (hret _ h)
  exact hR _ _ _ _ _ (congrArg some e1) rfl (by rw [e2]; exact hP) hS dX2_ofStep_8
def fX2_ofBoth (p1 : Int32) (p2 : Int32) (x0 : bq_S) : Option (Int32 × bq_S) :=
  some ((if p2 < p1 then p2 else p1), x0)
theorem dX2_ofBoth_0 : decode cX2_ofBoth 0 = .ok (.iload_n 1, 1) := by decide +kernel
theorem dX2_ofBoth_1 : decode cX2_ofBoth 1 = .ok (.iload_n 2, 1) := by decide +kernel
theorem dX2_ofBoth_2 : decode cX2_ofBoth 2 = .ok (.invokestatic 70, 3) := by decide +kernel
theorem dX2_ofBoth_5 : decode cX2_ofBoth 5 = .ok (.ireturn, 1) := by decide +kernel
set_option maxHeartbeats 4000000 in
set_option maxRecDepth 100000 in
theorem cX2_ofBoth_k_27 {l : Launch} {D : va_G} {a : Nat → Nat} {k : Nat → ClassId} {p1 : Int32} {p2 : Int32} {x0 xz : bq_S} {rz : Int32} (h : fX2_ofBoth  p1 p2 x0 = some (rz, xz)) : bq_M l D bq_cl (bq_ty k) (bq_wC a k) yX2_ofBoth cX2_ofBoth 3 (some .int) { frames := 1, cells := 0, slots := 0, locals := 21 } [.ref (a 27), .int p1, .int p2] x0 (some rz) xz := by
  refine bq_ofW RX2 [(0, .ref (a 27)), (1, .int p1), (2, .int p2)] (by decide +kernel) rfl (Nat.le_of_ble_eq_true rfl) rfl (bq_adC a k) ?_
  intro p e s m below meth c A Q ls S hK hD hA hR hS hP hl
  have hx := S.1; have hb := S.2.1; have hml := S.2.2.1; have hown := S.2.2.2.1; have hts := S.2.2.2.2
  have hret : ∀ z, some z = some (rz, xz) → (rz, xz) = z := fun z h => (Option.some.inj h).symm
  unfold fX2_ofBoth at h
  refine lv_iload_n hx hb dX2_ofBoth_0 rfl (lv_at hl 1 rfl) ?_
  refine lv_iload_n hx hb dX2_ofBoth_1 rfl (lv_at hl 2 rfl) ?_
  refine va_mmin hx hb (hml.trans hl.1.symm) hown (hts _ ml_X2_70) (hts _ st_yJ9_min_7cf53) (hts _ ini_Math) (hts _ cd_Math_min) (by decide) (Nat.le_of_ble_eq_true rfl) (Nat.zero_le _) (Nat.zero_le _) dX2_ofBoth_2 ?_
  obtain ⟨e1, e2⟩ := Prod.mk.inj (hret _ h)
  exact hR _ _ _ _ _ (congrArg some e1) rfl (by rw [e2]; exact hP) hS dX2_ofBoth_5
def fX8X2_ofLonger_b8 (n : Nat) (v4 : Int32) (v5 : Int32) (v : Int32 × Int32 × bq_S) : Option ((Int32 × Int32 × bq_S) ⊕ (Int32 × Int32 × bq_S)) :=
  un3 v (fun v6 v7 x8 =>
  if (8 : Int32) ≤ v7 then
  some (.inr (v6, v7, x8))
  else
  (fX9_has ((x8.1 27 2) &&& (v4 ^^^ (-1 : Int32))) v7 x8).bind (fun o10 => un2 o10 (fun v12 x11 =>
  if v12 = 0 then
  bd (v7 + (1 : Int32)) (fun v14 =>
  some (.inl (v6, v14, x11)))
  else
  (fX9_bit v7 x11).bind (fun o15 => un2 o15 (fun v17 x16 =>
  (fX8_index (v4 ||| v17) v7 x16).bind (fun o18 => un2 o18 (fun v20 x19 =>
  if ok_i v20 2048 then
  (fX2_ofStep v4 v5 v7 (x19.1 25 v20.toNatClampNeg) x19).bind (fun o22 => un2 o22 (fun v24 x23 =>
  (fX2_ofBoth v6 v24 x23).bind (fun o25 => un2 o25 (fun v27 x26 =>
  bd (v7 + (1 : Int32)) (fun v28 =>
  some (.inl (v27, v28, x26)))))))
  else none)))))))
def fX8X2_ofLonger (n : Nat) (p1 : Int32) (p2 : Int32) (x0 : bq_S) : Option (Int32 × bq_S) :=
  (fX2_ofNone  x0).bind (fun o1 => un2 o1 (fun v3 x2 =>
  (wh n (fX8X2_ofLonger_b8 n p1 p2) (v3, (0 : Int32), x2)).bind (fun e29 => un3 e29 (fun v30 v31 x32 =>
  some (v30, x32)))))
set_option maxHeartbeats 4000000 in
set_option maxRecDepth 100000 in
theorem cX8X2_ofLonger_k_27 {l : Launch} {D : va_G} {a : Nat → Nat} {k : Nat → ClassId} {n : Nat} {p1 : Int32} {p2 : Int32} {x0 xz : bq_S} {rz : Int32} (h : fX8X2_ofLonger n p1 p2 x0 = some (rz, xz)) : bq_M l D bq_cl (bq_ty k) (bq_wC a k) yX8_ofLonger cX8_ofLonger 5 (some .int) { frames := 3, cells := 0, slots := 0, locals := 69 } [.ref (a 27), .int p1, .int p2] x0 (some rz) xz := by
  refine bq_ofW RX8 [(0, .ref (a 27)), (1, .int p1), (2, .int p2)] (by decide +kernel) rfl (Nat.le_of_ble_eq_true rfl) rfl (bq_adC a k) ?_
  intro p e s m below meth c A Q ls S hK hD hA hR hS hP hl
  have hx := S.1; have hb := S.2.1; have hml := S.2.2.1; have hown := S.2.2.2.1; have hts := S.2.2.2.2
  have hret : ∀ z, some z = some (rz, xz) → (rz, xz) = z := fun z h => (Option.some.inj h).symm
  unfold fX8X2_ofLonger at h
  refine lv_aload_n hx hb dX8_ofLonger_0 rfl (lv_at hl 0 rfl) ?_
  obtain ⟨o1, ho1, h⟩ := Option.bind_eq_some_iff.mp h
  obtain ⟨v3, x2⟩ := o1
  replace h := un2_e h
  refine bq_callUi (q0 := 27) (owner := "BesideQuotes$Ways") (As := []) S hK hD hA hP hS (cX2_ofNone_k_27 ho1) hd_yX2_ofNone ml_X8_56 in_yX2_ofNone (hts _ sl_X2_X8_yX2_ofNone) sm_X8_ofNone dc_X8_ofNone (by decide +kernel) ⟨rfl, rfl⟩ ⟨by decide, by decide⟩ rfl rfl rfl hl.1 rfl (Nat.le_of_ble_eq_true rfl) ⟨Nat.zero_le _, Nat.zero_le _⟩ dX8_ofLonger_1 (fun H locs hP hS => ?_)
  refine lv_istore_n (lv' := [(3, .int v3), (0, .ref (a 27)), (1, .int p1), (2, .int p2)]) hx hb dX8_ofLonger_4 rfl hl (by decide) rfl (fun ls hl => ?_)
  refine lv_iconst (v := (0 : Int32)) hx hb dX8_ofLonger_5 (by decide) ?_
  refine lv_istore (lv' := [(4, .int (0 : Int32)), (3, .int v3), (0, .ref (a 27)), (1, .int p1), (2, .int p2)]) hx hb dX8_ofLonger_6 hl (by decide) rfl (fun ls hl => ?_)
  have hl8 : ∀ (v4 : Int32) (v5 : Int32) (kf : Nat) (v6 : Int32) (v7 : Int32) (x8 : bq_S) (eo : Int32 × Int32 × bq_S) (H : Heap) (locs : List Loc) (ls : Array Slot), wh kf (fX8X2_ofLonger_b8 n v4 v5) (v6, v7, x8) = some eo → va_P D bq_cl (bq_wC a k x8) H → va_S A s.heap H locs → lv_has ls 5 [(0, .ref (a 27)), (1, .int v4), (2, .int v5), (3, .int v6), (4, .int v7)] → (∀ (H : Heap) (locs : List Loc) (ls : Array Slot) (v30 : Int32) (v31 : Int32) (x32 : bq_S), eo = (v30, v31, x32) → va_P D bq_cl (bq_wC a k x32) H → va_S A s.heap H locs → lv_has ls 5 [(3, .int v30)] → W p l e { frames := 3, cells := 0, slots := 0, locals := 69 } s m [.ref (a 27), .int p1, .int p2].toArray below meth c H locs 0 0 Q (F0 m 68 ls [])) → W p l e { frames := 3, cells := 0, slots := 0, locals := 69 } s m [.ref (a 27), .int p1, .int p2].toArray below meth c H locs 0 0 Q (F0 m 8 ls []) := by
    intro v4 v5 kf
    induction kf with
    | zero => intro v6 v7 x8 eo H locs ls h; cases h
    | succ kf ih =>
      intro v6 v7 x8 eo H locs ls h hP hS hl kx
      obtain ⟨out, h, hw⟩ := wh_s h
      unfold fX8X2_ofLonger_b8 at h
      replace h := un3_e h
      refine lv_iload hx hb dX8_ofLonger_8 (lv_at hl 4 rfl) ?_
      refine lv_bipush (v := (8 : Int32)) hx hb dX8_ofLonger_10 (by decide) ?_
      refine lv_icmp_ge (tgt := 68) hx hb dX8_ofLonger_12 (by decide) (fun c9 => ?_) (fun c9 => ?_)
      · replace h := (if_pos c9).symm.trans h
        cases h
        exact kx _ _ _ _ _ _ (Option.some.inj hw).symm hP hS (lv_sub hl [3] rfl)
      · replace h := (if_neg c9).symm.trans h
        refine lv_aload_n hx hb dX8_ofLonger_15 rfl (lv_at hl 0 rfl) ?_
        refine bq_get (q0 := 27) S hK hP fl_X8_19_X2_2 rfl rfl rfl dX8_ofLonger_16 ?_
        refine lv_iload_n hx hb dX8_ofLonger_19 rfl (lv_at hl 1 rfl) ?_
        refine lv_iconst (v := (-1 : Int32)) hx hb dX8_ofLonger_20 (by decide) ?_
        refine lv_ixor hx hb dX8_ofLonger_21 ?_
        refine lv_iand hx hb dX8_ofLonger_22 ?_
        refine lv_iload hx hb dX8_ofLonger_23 (lv_at hl 4 rfl) ?_
        obtain ⟨o10, ho10, h⟩ := Option.bind_eq_some_iff.mp h
        obtain ⟨v12, x11⟩ := o10
        replace h := un2_e h
        refine bq_callSNi (As := [.int _, .int _]) S hK hD hA hP hS (cX9_has_k ho10) hd_yX9_has mn_X8_39 st_yX9_has ⟨rfl, rfl⟩ ⟨by decide, by decide⟩ rfl hl.1 rfl (Nat.le_of_ble_eq_true rfl) ⟨Nat.zero_le _, Nat.zero_le _⟩ dX8_ofLonger_25 (fun H locs hP hS => ?_)
        refine lv_if_eq (tgt := 62) hx hb dX8_ofLonger_28 (by decide) (fun c13 => ?_) (fun c13 => ?_)
        · replace h := (if_pos c13).symm.trans h
          obtain ⟨v14, hv14, h⟩ := bq_b h
          refine lv_iinc (v := v14) (lv' := [(4, .int v14), (0, .ref (a 27)), (1, .int v4), (2, .int v5), (3, .int v6)]) hx hb dX8_ofLonger_62 hl (k := 4) rfl (by rw [hv14]; rfl) (by decide) rfl (fun ls hl => ?_)
          refine lv_goto (tgt := 8) hx hb dX8_ofLonger_65 (by decide) ?_
          cases h
          exact ih _ _ _ _ _ _ _ hw hP hS (lv_sub hl [1, 2, 3, 4, 0] rfl) kx
        · replace h := (if_neg c13).symm.trans h
          refine lv_aload_n hx hb dX8_ofLonger_31 rfl (lv_at hl 0 rfl) ?_
          refine lv_iload_n hx hb dX8_ofLonger_32 rfl (lv_at hl 3 rfl) ?_
          refine lv_aload_n hx hb dX8_ofLonger_33 rfl (lv_at hl 0 rfl) ?_
          refine lv_iload_n hx hb dX8_ofLonger_34 rfl (lv_at hl 1 rfl) ?_
          refine lv_iload_n hx hb dX8_ofLonger_35 rfl (lv_at hl 2 rfl) ?_
          refine lv_iload hx hb dX8_ofLonger_36 (lv_at hl 4 rfl) ?_
          refine lv_aload_n hx hb dX8_ofLonger_38 rfl (lv_at hl 0 rfl) ?_
          refine bq_get (q0 := 27) S hK hP fl_X8_15_X2_1 rfl rfl rfl dX8_ofLonger_39 ?_
          refine lv_iload_n hx hb dX8_ofLonger_42 rfl (lv_at hl 1 rfl) ?_
          refine lv_iload hx hb dX8_ofLonger_43 (lv_at hl 4 rfl) ?_
          obtain ⟨o15, ho15, h⟩ := Option.bind_eq_some_iff.mp h
          obtain ⟨v17, x16⟩ := o15
          replace h := un2_e h
          refine bq_callSNi (As := [.int _]) S hK hD hA hP hS (cX9_bit_k ho15) hd_yX9_bit mn_X8_53 st_yX9_bit ⟨rfl, rfl⟩ ⟨by decide, by decide⟩ rfl hl.1 rfl (Nat.le_of_ble_eq_true rfl) ⟨Nat.zero_le _, Nat.zero_le _⟩ dX8_ofLonger_45 (fun H locs hP hS => ?_)
          refine lv_ior hx hb dX8_ofLonger_48 ?_
          refine lv_iload hx hb dX8_ofLonger_49 (lv_at hl 4 rfl) ?_
          obtain ⟨o18, ho18, h⟩ := Option.bind_eq_some_iff.mp h
          obtain ⟨v20, x19⟩ := o18
          replace h := un2_e h
          refine bq_callSi (As := [.int _, .int _]) S hK hD hA hP hS (cX8_index_k ho18) hd_yX8_index ml_X8_43 st_yX8_index ⟨rfl, rfl⟩ ⟨by decide, by decide⟩ rfl hl.1 rfl (Nat.le_of_ble_eq_true rfl) ⟨Nat.zero_le _, Nat.zero_le _⟩ dX8_ofLonger_51 (fun H locs hP hS => ?_)
          obtain ⟨g21, h⟩ := bq_gd h
          refine va_iald (D := D) hx hb hK hP 25 0 rfl rfl g21 dX8_ofLonger_54 ?_
          obtain ⟨o22, ho22, h⟩ := Option.bind_eq_some_iff.mp h
          obtain ⟨v24, x23⟩ := o22
          replace h := un2_e h
          refine bq_callUi (q0 := 27) (owner := "BesideQuotes$Ways") (As := [.int _, .int _, .int _, .int _]) S hK hD hA hP hS (cX2_ofStep_k_27 ho22) hd_yX2_ofStep ml_X8_60 in_yX2_ofStep (hts _ sl_X2_X8_yX2_ofStep) sm_X8_ofStep dc_X8_ofStep (by decide +kernel) ⟨rfl, rfl⟩ ⟨by decide, by decide⟩ rfl rfl rfl hl.1 rfl (Nat.le_of_ble_eq_true rfl) ⟨Nat.zero_le _, Nat.zero_le _⟩ dX8_ofLonger_55 (fun H locs hP hS => ?_)
          obtain ⟨o25, ho25, h⟩ := Option.bind_eq_some_iff.mp h
          obtain ⟨v27, x26⟩ := o25
          replace h := un2_e h
          refine bq_callUi (q0 := 27) (owner := "BesideQuotes$Ways") (As := [.int _, .int _]) S hK hD hA hP hS (cX2_ofBoth_k_27 ho25) hd_yX2_ofBoth ml_X8_64 in_yX2_ofBoth (hts _ sl_X2_X8_yX2_ofBoth) sm_X8_ofBoth dc_X8_ofBoth (by decide +kernel) ⟨rfl, rfl⟩ ⟨by decide, by decide⟩ rfl rfl rfl hl.1 rfl (Nat.le_of_ble_eq_true rfl) ⟨Nat.zero_le _, Nat.zero_le _⟩ dX8_ofLonger_58 (fun H locs hP hS => ?_)
          refine lv_istore_n (lv' := [(3, .int v27), (0, .ref (a 27)), (1, .int v4), (2, .int v5), (4, .int v7)]) hx hb dX8_ofLonger_61 rfl hl (by decide) rfl (fun ls hl => ?_)
          obtain ⟨v28, hv28, h⟩ := bq_b h
          refine lv_iinc (v := v28) (lv' := [(4, .int v28), (3, .int v27), (0, .ref (a 27)), (1, .int v4), (2, .int v5)]) hx hb dX8_ofLonger_62 hl (k := 4) rfl (by rw [hv28]; rfl) (by decide) rfl (fun ls hl => ?_)
          refine lv_goto (tgt := 8) hx hb dX8_ofLonger_65 (by decide) ?_
          cases h
          exact ih _ _ _ _ _ _ _ hw hP hS (lv_sub hl [2, 3, 4, 1, 0] rfl) kx
  obtain ⟨e29, he29, h⟩ := Option.bind_eq_some_iff.mp h
  refine hl8 _ _ n _ _ _ e29 _ _ _ he29 hP hS (lv_sub hl [2, 3, 4, 1, 0] rfl) (fun H locs ls v30 v31 x32 hz hP hS hl => ?_)
  subst hz
  replace h := un3_e h
  refine lv_iload_n hx hb dX8_ofLonger_68 rfl (lv_at hl 0 rfl) ?_
  obtain ⟨e1, e2⟩ := Prod.mk.inj (hret _ h)
  exact hR _ _ _ _ _ (congrArg some e1) rfl (by rw [e2]; exact hP) hS dX8_ofLonger_69
def fX2_ofWhole (p1 : Int32) (p2 : Int32) (x0 : bq_S) : Option (Int32 × bq_S) :=
  if (x0.1 27 5) = 0 then
  some ((0 : Int32), x0)
  else
  (fX2_ofPair p2 (x0.1 27 4) (0 : Int32) x0).bind (fun o2 => un2 o2 (fun v4 x3 =>
  some (v4, x3)))
theorem dX2_ofWhole_0 : decode cX2_ofWhole 0 = .ok (.aload_n 0, 1) := by decide +kernel
theorem dX2_ofWhole_1 : decode cX2_ofWhole 1 = .ok (.getfield 63, 3) := by decide +kernel
theorem dX2_ofWhole_4 : decode cX2_ofWhole 4 = .ok (.ifCond .eq 16, 3) := by decide +kernel
theorem dX2_ofWhole_7 : decode cX2_ofWhole 7 = .ok (.aload_n 0, 1) := by decide +kernel
theorem dX2_ofWhole_8 : decode cX2_ofWhole 8 = .ok (.iload_n 2, 1) := by decide +kernel
theorem dX2_ofWhole_9 : decode cX2_ofWhole 9 = .ok (.aload_n 0, 1) := by decide +kernel
theorem dX2_ofWhole_10 : decode cX2_ofWhole 10 = .ok (.getfield 46, 3) := by decide +kernel
theorem dX2_ofWhole_13 : decode cX2_ofWhole 13 = .ok (.iconst 0, 1) := by decide +kernel
theorem dX2_ofWhole_14 : decode cX2_ofWhole 14 = .ok (.invokevirtual 67, 3) := by decide +kernel
theorem dX2_ofWhole_17 : decode cX2_ofWhole 17 = .ok (.goto 4, 3) := by decide +kernel
theorem dX2_ofWhole_20 : decode cX2_ofWhole 20 = .ok (.iconst 0, 1) := by decide +kernel
theorem dX2_ofWhole_21 : decode cX2_ofWhole 21 = .ok (.ireturn, 1) := by decide +kernel
set_option maxHeartbeats 4000000 in
set_option maxRecDepth 100000 in
theorem cX2_ofWhole_k_27 {l : Launch} {D : va_G} {a : Nat → Nat} {k : Nat → ClassId} {p1 : Int32} {p2 : Int32} {x0 xz : bq_S} {rz : Int32} (h : fX2_ofWhole  p1 p2 x0 = some (rz, xz)) : bq_M l D bq_cl (bq_ty k) (bq_wC a k) yX2_ofWhole cX2_ofWhole 3 (some .int) { frames := 2, cells := 0, slots := 0, locals := 45 } [.ref (a 27), .int p1, .int p2] x0 (some rz) xz := by
  refine bq_ofW RX2 [(0, .ref (a 27)), (1, .int p1), (2, .int p2)] (by decide +kernel) rfl (Nat.le_of_ble_eq_true rfl) rfl (bq_adC a k) ?_
  intro p e s m below meth c A Q ls S hK hD hA hR hS hP hl
  have hx := S.1; have hb := S.2.1; have hml := S.2.2.1; have hown := S.2.2.2.1; have hts := S.2.2.2.2
  have hret : ∀ z, some z = some (rz, xz) → (rz, xz) = z := fun z h => (Option.some.inj h).symm
  unfold fX2_ofWhole at h
  refine lv_aload_n hx hb dX2_ofWhole_0 rfl (lv_at hl 0 rfl) ?_
  refine bq_get (q0 := 27) S hK hP fl_X2_63_X2_5 rfl rfl rfl dX2_ofWhole_1 ?_
  refine lv_if_eq (tgt := 20) hx hb dX2_ofWhole_4 (by decide) (fun c1 => ?_) (fun c1 => ?_)
  · replace h := (if_pos c1).symm.trans h
    refine lv_iconst (v := (0 : Int32)) hx hb dX2_ofWhole_20 (by decide) ?_
    obtain ⟨e1, e2⟩ := Prod.mk.inj (hret _ h)
    exact hR _ _ _ _ _ (congrArg some e1) rfl (by rw [e2]; exact hP) hS dX2_ofWhole_21
  · replace h := (if_neg c1).symm.trans h
    refine lv_aload_n hx hb dX2_ofWhole_7 rfl (lv_at hl 0 rfl) ?_
    refine lv_iload_n hx hb dX2_ofWhole_8 rfl (lv_at hl 2 rfl) ?_
    refine lv_aload_n hx hb dX2_ofWhole_9 rfl (lv_at hl 0 rfl) ?_
    refine bq_get (q0 := 27) S hK hP fl_X2_46_X2_4 rfl rfl rfl dX2_ofWhole_10 ?_
    refine lv_iconst (v := (0 : Int32)) hx hb dX2_ofWhole_13 (by decide) ?_
    obtain ⟨o2, ho2, h⟩ := Option.bind_eq_some_iff.mp h
    obtain ⟨v4, x3⟩ := o2
    replace h := un2_e h
    refine bq_callVi (q0 := 27) (As := [.int _, .int _, .int _]) S hK hD hA hP hS (cX2_ofPair_k_27 ho2) hd_yX2_ofPair ml_X2_67 in_yX2_ofPair (hts _ sl_X2_X2_yX2_ofPair) ⟨rfl, rfl⟩ ⟨by decide, by decide⟩ rfl rfl rfl hl.1 rfl (Nat.le_of_ble_eq_true rfl) ⟨Nat.zero_le _, Nat.zero_le _⟩ dX2_ofWhole_14 (fun H locs hP hS => ?_)
    refine lv_goto (tgt := 21) hx hb dX2_ofWhole_17 (by decide) ?_
    obtain ⟨e1, e2⟩ := Prod.mk.inj (hret _ h)
    exact hR _ _ _ _ _ (congrArg some e1) rfl (by rw [e2]; exact hP) hS dX2_ofWhole_21
def fX8X2_from_b54 (n : Nat) (v16 : Int32) (v17 : Int32) (v : Int32 × bq_S) : Option ((Int32 × bq_S) ⊕ (Int32 × bq_S)) :=
  un2 v (fun v18 x19 =>
  if (8 : Int32) ≤ v18 then
  some (.inr (v18, x19))
  else
  (fX9_has v16 v18 x19).bind (fun o21 => un2 o21 (fun v23 x22 =>
  if v23 = 0 then
  bd (v18 + (1 : Int32)) (fun v25 =>
  some (.inl (v25, x22)))
  else
  (fX8_index v16 v18 x22).bind (fun o26 => un2 o26 (fun v28 x27 =>
  if v17 = (x27.1 27 3) then
  (fX2_ofWhole v16 v18 x27).bind (fun o36 => un2 o36 (fun v38 x37 =>
  if ok_i v28 2048 then
  bd (bq_sI x37 25 v28.toNatClampNeg v38) (fun x39 =>
  bd (v18 + (1 : Int32)) (fun v41 =>
  some (.inl (v41, x39))))
  else none))
  else
  (fX8X2_ofLonger n v16 v18 x27).bind (fun o30 => un2 o30 (fun v32 x31 =>
  if ok_i v28 2048 then
  bd (bq_sI x31 25 v28.toNatClampNeg v32) (fun x33 =>
  bd (v18 + (1 : Int32)) (fun v35 =>
  some (.inl (v35, x33))))
  else none)))))))
def fX8X2_from_b9 (n : Nat) (v : Int32 × bq_S) : Option ((Int32 × bq_S) ⊕ (Int32 × bq_S)) :=
  un2 v (fun v2 x3 =>
  if v2 ≤ 0 then
  some (.inr (v2, x3))
  else
  (fJ6_bitCount v2 x3).bind (fun o5 => un2 o5 (fun v7 x6 =>
  if (v2 &&& ((x6.1 27 2) ^^^ (-1 : Int32))) = 0 then
  (fX9_has v2 (x6.1 27 4) x6).bind (fun o10 => un2 o10 (fun v12 x11 =>
  if v12 = 0 then
  bd (v2 + (-1 : Int32)) (fun v14 =>
  some (.inl (v14, x11)))
  else
  if v7 ≤ (x11.1 27 3) then
  (wh n (fX8X2_from_b54 n v2 v7) ((0 : Int32), x11)).bind (fun e42 => un2 e42 (fun v43 x44 =>
  bd (v2 + (-1 : Int32)) (fun v45 =>
  some (.inl (v45, x44)))))
  else
  bd (v2 + (-1 : Int32)) (fun v46 =>
  some (.inl (v46, x11)))))
  else
  bd (v2 + (-1 : Int32)) (fun v9 =>
  some (.inl (v9, x6))))))
def fX8X2_from (n : Nat) (p1 : Int32) (x0 : bq_S) : Option (Int32 × bq_S) :=
  bd (bq_sI x0 27 4 p1) (fun x1 =>
  (wh n (fX8X2_from_b9 n) ((255 : Int32), x1)).bind (fun e47 => un2 e47 (fun v48 x49 =>
  (fX9_bit (x49.1 27 4) x49).bind (fun o50 => un2 o50 (fun v52 x51 =>
  (fX8_index v52 (x51.1 27 4) x51).bind (fun o53 => un2 o53 (fun v55 x54 =>
  if ok_i v55 2048 then
  some ((x54.1 25 v55.toNatClampNeg), x54)
  else none)))))))
set_option maxHeartbeats 4000000 in
set_option maxRecDepth 100000 in
theorem cX8X2_from_k_27 {l : Launch} {D : va_G} {a : Nat → Nat} {k : Nat → ClassId} {n : Nat} {p1 : Int32} {x0 xz : bq_S} {rz : Int32} (h : fX8X2_from n p1 x0 = some (rz, xz)) : bq_M l D bq_cl (bq_ty k) (bq_wC a k) yX8_from cX8_from 5 (some .int) { frames := 4, cells := 0, slots := 0, locals := 93 } [.ref (a 27), .int p1] x0 (some rz) xz := by
  refine bq_ofW RX8 [(0, .ref (a 27)), (1, .int p1)] (by decide +kernel) rfl (Nat.le_of_ble_eq_true rfl) rfl (bq_adC a k) ?_
  intro p e s m below meth c A Q ls S hK hD hA hR hS hP hl
  have hx := S.1; have hb := S.2.1; have hml := S.2.2.1; have hown := S.2.2.2.1; have hts := S.2.2.2.2
  have hret : ∀ z, some z = some (rz, xz) → (rz, xz) = z := fun z h => (Option.some.inj h).symm
  unfold fX8X2_from at h
  refine lv_aload_n hx hb dX8_from_0 rfl (lv_at hl 0 rfl) ?_
  refine lv_iload_n hx hb dX8_from_1 rfl (lv_at hl 1 rfl) ?_
  obtain ⟨x1, hx1, h⟩ := bq_b h
  refine bq_put (x1 := x1) (q0 := 27) (ty := .int) S hK hD hP hS fl_X8_26_X2_4 bt_X2 rfl (by decide +kernel) rfl rfl (Nat.le_of_ble_eq_true rfl) rfl rfl (by rw [hx1]; rfl) dX8_from_2 (fun H locs hP hS => ?_)
  refine lv_sipush (v := (255 : Int32)) hx hb dX8_from_5 (by decide) ?_
  refine lv_istore_n (lv' := [(2, .int (255 : Int32)), (0, .ref (a 27)), (1, .int p1)]) hx hb dX8_from_8 rfl hl (by decide) rfl (fun ls hl => ?_)
  have hl9 : ∀ (kf : Nat) (v2 : Int32) (x3 : bq_S) (eo : Int32 × bq_S) (H : Heap) (locs : List Loc) (ls : Array Slot), wh kf (fX8X2_from_b9 n ) (v2, x3) = some eo → va_P D bq_cl (bq_wC a k x3) H → va_S A s.heap H locs → lv_has ls 5 [(0, .ref (a 27)), (2, .int v2)] → (∀ (H : Heap) (locs : List Loc) (ls : Array Slot) (v48 : Int32) (x49 : bq_S), eo = (v48, x49) → va_P D bq_cl (bq_wC a k x49) H → va_S A s.heap H locs → lv_has ls 5 [(0, .ref (a 27))] → W p l e { frames := 4, cells := 0, slots := 0, locals := 93 } s m [.ref (a 27), .int p1].toArray below meth c H locs 0 0 Q (F0 m 118 ls [])) → W p l e { frames := 4, cells := 0, slots := 0, locals := 93 } s m [.ref (a 27), .int p1].toArray below meth c H locs 0 0 Q (F0 m 9 ls []) := by
    intro  kf
    induction kf with
    | zero => intro v2 x3 eo H locs ls h; cases h
    | succ kf ih =>
      intro v2 x3 eo H locs ls h hP hS hl kx
      obtain ⟨out, h, hw⟩ := wh_s h
      unfold fX8X2_from_b9 at h
      replace h := un2_e h
      refine lv_iload_n hx hb dX8_from_9 rfl (lv_at hl 1 rfl) ?_
      refine lv_if_le (tgt := 118) hx hb dX8_from_10 (by decide) (fun c4 => ?_) (fun c4 => ?_)
      · replace h := (if_pos c4).symm.trans h
        cases h
        exact kx _ _ _ _ _ (Option.some.inj hw).symm hP hS (lv_sub hl [0] rfl)
      · replace h := (if_neg c4).symm.trans h
        refine lv_iload_n hx hb dX8_from_13 rfl (lv_at hl 1 rfl) ?_
        obtain ⟨o5, ho5, h⟩ := Option.bind_eq_some_iff.mp h
        obtain ⟨v7, x6⟩ := o5
        replace h := un2_e h
        refine bq_callSi (As := [.int _]) S hK hD hA hP hS (cJ6_bitCount_k ho5) hd_yJ6_bitCount_0f7a4 ml_X8_33 st_yJ6_bitCount_0f7a4 ⟨rfl, rfl⟩ ⟨by decide, by decide⟩ rfl hl.1 rfl (Nat.le_of_ble_eq_true rfl) ⟨Nat.zero_le _, Nat.zero_le _⟩ dX8_from_14 (fun H locs hP hS => ?_)
        refine lv_istore_n (lv' := [(3, .int v7), (0, .ref (a 27)), (2, .int v2)]) hx hb dX8_from_17 rfl hl (by decide) rfl (fun ls hl => ?_)
        refine lv_iload_n hx hb dX8_from_18 rfl (lv_at hl 2 rfl) ?_
        refine lv_aload_n hx hb dX8_from_19 rfl (lv_at hl 1 rfl) ?_
        refine bq_get (q0 := 27) S hK hP fl_X8_19_X2_2 rfl rfl rfl dX8_from_20 ?_
        refine lv_iconst (v := (-1 : Int32)) hx hb dX8_from_23 (by decide) ?_
        refine lv_ixor hx hb dX8_from_24 ?_
        refine lv_iand hx hb dX8_from_25 ?_
        refine lv_if_ne (tgt := 112) hx hb dX8_from_26 (by decide) (fun c8 => ?_) (fun c8 => ?_)
        · replace h := (if_neg c8).symm.trans h
          obtain ⟨v9, hv9, h⟩ := bq_b h
          refine lv_iinc (v := v9) (lv' := [(2, .int v9), (3, .int v7), (0, .ref (a 27))]) hx hb dX8_from_112 hl (k := 2) rfl (by rw [hv9]; rfl) (by decide) rfl (fun ls hl => ?_)
          refine lv_goto (tgt := 9) hx hb dX8_from_115 (by decide) ?_
          cases h
          exact ih _ _ _ _ _ _ hw hP hS (lv_sub hl [2, 0] rfl) kx
        · replace h := (if_pos c8).symm.trans h
          refine lv_iload_n hx hb dX8_from_29 rfl (lv_at hl 2 rfl) ?_
          refine lv_aload_n hx hb dX8_from_30 rfl (lv_at hl 1 rfl) ?_
          refine bq_get (q0 := 27) S hK hP fl_X8_26_X2_4 rfl rfl rfl dX8_from_31 ?_
          obtain ⟨o10, ho10, h⟩ := Option.bind_eq_some_iff.mp h
          obtain ⟨v12, x11⟩ := o10
          replace h := un2_e h
          refine bq_callSNi (As := [.int _, .int _]) S hK hD hA hP hS (cX9_has_k ho10) hd_yX9_has mn_X8_39 st_yX9_has ⟨rfl, rfl⟩ ⟨by decide, by decide⟩ rfl hl.1 rfl (Nat.le_of_ble_eq_true rfl) ⟨Nat.zero_le _, Nat.zero_le _⟩ dX8_from_34 (fun H locs hP hS => ?_)
          refine lv_if_eq (tgt := 112) hx hb dX8_from_37 (by decide) (fun c13 => ?_) (fun c13 => ?_)
          · replace h := (if_pos c13).symm.trans h
            obtain ⟨v14, hv14, h⟩ := bq_b h
            refine lv_iinc (v := v14) (lv' := [(2, .int v14), (3, .int v7), (0, .ref (a 27))]) hx hb dX8_from_112 hl (k := 2) rfl (by rw [hv14]; rfl) (by decide) rfl (fun ls hl => ?_)
            refine lv_goto (tgt := 9) hx hb dX8_from_115 (by decide) ?_
            cases h
            exact ih _ _ _ _ _ _ hw hP hS (lv_sub hl [2, 0] rfl) kx
          · replace h := (if_neg c13).symm.trans h
            refine lv_iload_n hx hb dX8_from_40 rfl (lv_at hl 0 rfl) ?_
            refine lv_aload_n hx hb dX8_from_41 rfl (lv_at hl 1 rfl) ?_
            refine bq_get (q0 := 27) S hK hP fl_X8_23_X2_3 rfl rfl rfl dX8_from_42 ?_
            refine lv_icmp_le (tgt := 51) hx hb dX8_from_45 (by decide) (fun c15 => ?_) (fun c15 => ?_)
            · replace h := (if_pos c15).symm.trans h
              refine lv_iconst (v := (0 : Int32)) hx hb dX8_from_51 (by decide) ?_
              refine lv_istore (lv' := [(4, .int (0 : Int32)), (3, .int v7), (0, .ref (a 27)), (2, .int v2)]) hx hb dX8_from_52 hl (by decide) rfl (fun ls hl => ?_)
              have hl54 : ∀ (v16 : Int32) (v17 : Int32) (kf : Nat) (v18 : Int32) (x19 : bq_S) (eo : Int32 × bq_S) (H : Heap) (locs : List Loc) (ls : Array Slot), wh kf (fX8X2_from_b54 n v16 v17) (v18, x19) = some eo → va_P D bq_cl (bq_wC a k x19) H → va_S A s.heap H locs → lv_has ls 5 [(0, .ref (a 27)), (2, .int v16), (3, .int v17), (4, .int v18)] → (∀ (H : Heap) (locs : List Loc) (ls : Array Slot) (v43 : Int32) (x44 : bq_S), eo = (v43, x44) → va_P D bq_cl (bq_wC a k x44) H → va_S A s.heap H locs → lv_has ls 5 [(0, .ref (a 27)), (2, .int v16)] → W p l e { frames := 4, cells := 0, slots := 0, locals := 93 } s m [.ref (a 27), .int p1].toArray below meth c H locs 0 0 Q (F0 m 112 ls [])) → W p l e { frames := 4, cells := 0, slots := 0, locals := 93 } s m [.ref (a 27), .int p1].toArray below meth c H locs 0 0 Q (F0 m 54 ls []) := by
                intro v16 v17 kf
                induction kf with
                | zero => intro v18 x19 eo H locs ls h; cases h
                | succ kf ih =>
                  intro v18 x19 eo H locs ls h hP hS hl kx
                  obtain ⟨out, h, hw⟩ := wh_s h
                  unfold fX8X2_from_b54 at h
                  replace h := un2_e h
                  refine lv_iload hx hb dX8_from_54 (lv_at hl 3 rfl) ?_
                  refine lv_bipush (v := (8 : Int32)) hx hb dX8_from_56 (by decide) ?_
                  refine lv_icmp_ge (tgt := 112) hx hb dX8_from_58 (by decide) (fun c20 => ?_) (fun c20 => ?_)
                  · replace h := (if_pos c20).symm.trans h
                    cases h
                    exact kx _ _ _ _ _ (Option.some.inj hw).symm hP hS (lv_sub hl [0, 1] rfl)
                  · replace h := (if_neg c20).symm.trans h
                    refine lv_iload_n hx hb dX8_from_61 rfl (lv_at hl 1 rfl) ?_
                    refine lv_iload hx hb dX8_from_62 (lv_at hl 3 rfl) ?_
                    obtain ⟨o21, ho21, h⟩ := Option.bind_eq_some_iff.mp h
                    obtain ⟨v23, x22⟩ := o21
                    replace h := un2_e h
                    refine bq_callSNi (As := [.int _, .int _]) S hK hD hA hP hS (cX9_has_k ho21) hd_yX9_has mn_X8_39 st_yX9_has ⟨rfl, rfl⟩ ⟨by decide, by decide⟩ rfl hl.1 rfl (Nat.le_of_ble_eq_true rfl) ⟨Nat.zero_le _, Nat.zero_le _⟩ dX8_from_64 (fun H locs hP hS => ?_)
                    refine lv_if_eq (tgt := 106) hx hb dX8_from_67 (by decide) (fun c24 => ?_) (fun c24 => ?_)
                    · replace h := (if_pos c24).symm.trans h
                      obtain ⟨v25, hv25, h⟩ := bq_b h
                      refine lv_iinc (v := v25) (lv' := [(4, .int v25), (0, .ref (a 27)), (2, .int v16), (3, .int v17)]) hx hb dX8_from_106 hl (k := 3) rfl (by rw [hv25]; rfl) (by decide) rfl (fun ls hl => ?_)
                      refine lv_goto (tgt := 54) hx hb dX8_from_109 (by decide) ?_
                      cases h
                      exact ih _ _ _ _ _ _ hw hP hS (lv_sub hl [1, 2, 3, 0] rfl) kx
                    · replace h := (if_neg c24).symm.trans h
                      refine lv_aload_n hx hb dX8_from_70 rfl (lv_at hl 0 rfl) ?_
                      refine bq_get (q0 := 27) S hK hP fl_X8_15_X2_1 rfl rfl rfl dX8_from_71 ?_
                      refine lv_iload_n hx hb dX8_from_74 rfl (lv_at hl 1 rfl) ?_
                      refine lv_iload hx hb dX8_from_75 (lv_at hl 3 rfl) ?_
                      obtain ⟨o26, ho26, h⟩ := Option.bind_eq_some_iff.mp h
                      obtain ⟨v28, x27⟩ := o26
                      replace h := un2_e h
                      refine bq_callSi (As := [.int _, .int _]) S hK hD hA hP hS (cX8_index_k ho26) hd_yX8_index ml_X8_43 st_yX8_index ⟨rfl, rfl⟩ ⟨by decide, by decide⟩ rfl hl.1 rfl (Nat.le_of_ble_eq_true rfl) ⟨Nat.zero_le _, Nat.zero_le _⟩ dX8_from_77 (fun H locs hP hS => ?_)
                      refine lv_iload_n hx hb dX8_from_80 rfl (lv_at hl 2 rfl) ?_
                      refine lv_aload_n hx hb dX8_from_81 rfl (lv_at hl 0 rfl) ?_
                      refine bq_get (q0 := 27) S hK hP fl_X8_23_X2_3 rfl rfl rfl dX8_from_82 ?_
                      refine lv_icmp_ne (tgt := 98) hx hb dX8_from_85 (by decide) (fun c29 => ?_) (fun c29 => ?_)
                      · replace h := (if_neg c29).symm.trans h
                        refine lv_aload_n hx hb dX8_from_98 rfl (lv_at hl 0 rfl) ?_
                        refine lv_iload_n hx hb dX8_from_99 rfl (lv_at hl 1 rfl) ?_
                        refine lv_iload hx hb dX8_from_100 (lv_at hl 3 rfl) ?_
                        obtain ⟨o30, ho30, h⟩ := Option.bind_eq_some_iff.mp h
                        obtain ⟨v32, x31⟩ := o30
                        replace h := un2_e h
                        refine bq_callVi (q0 := 27) (As := [.int _, .int _]) S hK hD hA hP hS (cX8X2_ofLonger_k_27 ho30) hd_yX8_ofLonger ml_X8_50 in_yX8_ofLonger (hts _ sl_X2_X8_yX8_ofLonger) ⟨rfl, rfl⟩ ⟨by decide, by decide⟩ rfl rfl rfl hl.1 rfl (Nat.le_of_ble_eq_true rfl) ⟨Nat.zero_le _, Nat.zero_le _⟩ dX8_from_102 (fun H locs hP hS => ?_)
                        obtain ⟨g34, h⟩ := bq_gd h
                        obtain ⟨x33, hx33, h⟩ := bq_b h
                        refine bq_iast (x1 := x33) (q0 := 25) (t0 := 0) S hK hD hP hS rfl rfl g34 (by rw [hx33]; rfl) dX8_from_105 (fun H locs hP hS => ?_)
                        obtain ⟨v35, hv35, h⟩ := bq_b h
                        refine lv_iinc (v := v35) (lv' := [(4, .int v35), (0, .ref (a 27)), (2, .int v16), (3, .int v17)]) hx hb dX8_from_106 hl (k := 3) rfl (by rw [hv35]; rfl) (by decide) rfl (fun ls hl => ?_)
                        refine lv_goto (tgt := 54) hx hb dX8_from_109 (by decide) ?_
                        cases h
                        exact ih _ _ _ _ _ _ hw hP hS (lv_sub hl [1, 2, 3, 0] rfl) kx
                      · replace h := (if_pos c29).symm.trans h
                        refine lv_aload_n hx hb dX8_from_88 rfl (lv_at hl 0 rfl) ?_
                        refine lv_iload_n hx hb dX8_from_89 rfl (lv_at hl 1 rfl) ?_
                        refine lv_iload hx hb dX8_from_90 (lv_at hl 3 rfl) ?_
                        obtain ⟨o36, ho36, h⟩ := Option.bind_eq_some_iff.mp h
                        obtain ⟨v38, x37⟩ := o36
                        replace h := un2_e h
                        refine bq_callUi (q0 := 27) (owner := "BesideQuotes$Ways") (As := [.int _, .int _]) S hK hD hA hP hS (cX2_ofWhole_k_27 ho36) hd_yX2_ofWhole ml_X8_47 in_yX2_ofWhole (hts _ sl_X2_X8_yX2_ofWhole) sm_X8_ofWhole dc_X8_ofWhole (by decide +kernel) ⟨rfl, rfl⟩ ⟨by decide, by decide⟩ rfl rfl rfl hl.1 rfl (Nat.le_of_ble_eq_true rfl) ⟨Nat.zero_le _, Nat.zero_le _⟩ dX8_from_92 (fun H locs hP hS => ?_)
                        refine lv_goto (tgt := 105) hx hb dX8_from_95 (by decide) ?_
                        obtain ⟨g40, h⟩ := bq_gd h
                        obtain ⟨x39, hx39, h⟩ := bq_b h
                        refine bq_iast (x1 := x39) (q0 := 25) (t0 := 0) S hK hD hP hS rfl rfl g40 (by rw [hx39]; rfl) dX8_from_105 (fun H locs hP hS => ?_)
                        obtain ⟨v41, hv41, h⟩ := bq_b h
                        refine lv_iinc (v := v41) (lv' := [(4, .int v41), (0, .ref (a 27)), (2, .int v16), (3, .int v17)]) hx hb dX8_from_106 hl (k := 3) rfl (by rw [hv41]; rfl) (by decide) rfl (fun ls hl => ?_)
                        refine lv_goto (tgt := 54) hx hb dX8_from_109 (by decide) ?_
                        cases h
                        exact ih _ _ _ _ _ _ hw hP hS (lv_sub hl [1, 2, 3, 0] rfl) kx
              obtain ⟨e42, he42, h⟩ := Option.bind_eq_some_iff.mp h
              refine hl54 _ _ n _ _ e42 _ _ _ he42 hP hS (lv_sub hl [2, 3, 1, 0] rfl) (fun H locs ls v43 x44 hz hP hS hl => ?_)
              subst hz
              replace h := un2_e h
              obtain ⟨v45, hv45, h⟩ := bq_b h
              refine lv_iinc (v := v45) (lv' := [(2, .int v45), (0, .ref (a 27))]) hx hb dX8_from_112 hl (k := 1) rfl (by rw [hv45]; rfl) (by decide) rfl (fun ls hl => ?_)
              refine lv_goto (tgt := 9) hx hb dX8_from_115 (by decide) ?_
              cases h
              exact ih _ _ _ _ _ _ hw hP hS (lv_sub hl [1, 0] rfl) kx
            · replace h := (if_neg c15).symm.trans h
              refine lv_goto (tgt := 112) hx hb dX8_from_48 (by decide) ?_
              obtain ⟨v46, hv46, h⟩ := bq_b h
              refine lv_iinc (v := v46) (lv' := [(2, .int v46), (3, .int v7), (0, .ref (a 27))]) hx hb dX8_from_112 hl (k := 2) rfl (by rw [hv46]; rfl) (by decide) rfl (fun ls hl => ?_)
              refine lv_goto (tgt := 9) hx hb dX8_from_115 (by decide) ?_
              cases h
              exact ih _ _ _ _ _ _ hw hP hS (lv_sub hl [2, 0] rfl) kx
  obtain ⟨e47, he47, h⟩ := Option.bind_eq_some_iff.mp h
  refine hl9 n _ _ e47 _ _ _ he47 hP hS (lv_sub hl [1, 0] rfl) (fun H locs ls v48 x49 hz hP hS hl => ?_)
  subst hz
  replace h := un2_e h
  refine lv_aload_n hx hb dX8_from_118 rfl (lv_at hl 0 rfl) ?_
  refine bq_get (q0 := 27) S hK hP fl_X8_15_X2_1 rfl rfl rfl dX8_from_119 ?_
  refine lv_aload_n hx hb dX8_from_122 rfl (lv_at hl 0 rfl) ?_
  refine bq_get (q0 := 27) S hK hP fl_X8_26_X2_4 rfl rfl rfl dX8_from_123 ?_
  obtain ⟨o50, ho50, h⟩ := Option.bind_eq_some_iff.mp h
  obtain ⟨v52, x51⟩ := o50
  replace h := un2_e h
  refine bq_callSNi (As := [.int _]) S hK hD hA hP hS (cX9_bit_k ho50) hd_yX9_bit mn_X8_53 st_yX9_bit ⟨rfl, rfl⟩ ⟨by decide, by decide⟩ rfl hl.1 rfl (Nat.le_of_ble_eq_true rfl) ⟨Nat.zero_le _, Nat.zero_le _⟩ dX8_from_126 (fun H locs hP hS => ?_)
  refine lv_aload_n hx hb dX8_from_129 rfl (lv_at hl 0 rfl) ?_
  refine bq_get (q0 := 27) S hK hP fl_X8_26_X2_4 rfl rfl rfl dX8_from_130 ?_
  obtain ⟨o53, ho53, h⟩ := Option.bind_eq_some_iff.mp h
  obtain ⟨v55, x54⟩ := o53
  replace h := un2_e h
  refine bq_callSi (As := [.int _, .int _]) S hK hD hA hP hS (cX8_index_k ho53) hd_yX8_index ml_X8_43 st_yX8_index ⟨rfl, rfl⟩ ⟨by decide, by decide⟩ rfl hl.1 rfl (Nat.le_of_ble_eq_true rfl) ⟨Nat.zero_le _, Nat.zero_le _⟩ dX8_from_133 (fun H locs hP hS => ?_)
  obtain ⟨g56, h⟩ := bq_gd h
  refine va_iald (D := D) hx hb hK hP 25 0 rfl rfl g56 dX8_from_136 ?_
  obtain ⟨e1, e2⟩ := Prod.mk.inj (hret _ h)
  exact hR _ _ _ _ _ (congrArg some e1) rfl (by rw [e2]; exact hP) hS dX8_from_137
def fX8X2_onBy (p1 : Int32) (p2 : Int32) (p3 : Int32) (x0 : bq_S) : Option (Int32 × bq_S) :=
  (fX9_bit p3 x0).bind (fun o1 => un2 o1 (fun v3 x2 =>
  (fX8_index (p1 ||| v3) p3 x2).bind (fun o4 => un2 o4 (fun v6 x5 =>
  if ok_i v6 2048 then
  (fX2_ofStep p1 p2 p3 (x5.1 25 v6.toNatClampNeg) x5).bind (fun o8 => un2 o8 (fun v10 x9 =>
  some (v10, x9)))
  else none))))
set_option maxHeartbeats 4000000 in
set_option maxRecDepth 100000 in
theorem cX8X2_onBy_k_27 {l : Launch} {D : va_G} {a : Nat → Nat} {k : Nat → ClassId} {p1 : Int32} {p2 : Int32} {p3 : Int32} {x0 xz : bq_S} {rz : Int32} (h : fX8X2_onBy  p1 p2 p3 x0 = some (rz, xz)) : bq_M l D bq_cl (bq_ty k) (bq_wC a k) yX8_onBy cX8_onBy 4 (some .int) { frames := 3, cells := 0, slots := 0, locals := 69 } [.ref (a 27), .int p1, .int p2, .int p3] x0 (some rz) xz := by
  refine bq_ofW RX8 [(0, .ref (a 27)), (1, .int p1), (2, .int p2), (3, .int p3)] (by decide +kernel) rfl (Nat.le_of_ble_eq_true rfl) rfl (bq_adC a k) ?_
  intro p e s m below meth c A Q ls S hK hD hA hR hS hP hl
  have hx := S.1; have hb := S.2.1; have hml := S.2.2.1; have hown := S.2.2.2.1; have hts := S.2.2.2.2
  have hret : ∀ z, some z = some (rz, xz) → (rz, xz) = z := fun z h => (Option.some.inj h).symm
  unfold fX8X2_onBy at h
  refine lv_aload_n hx hb dX8_onBy_0 rfl (lv_at hl 0 rfl) ?_
  refine lv_iload_n hx hb dX8_onBy_1 rfl (lv_at hl 1 rfl) ?_
  refine lv_iload_n hx hb dX8_onBy_2 rfl (lv_at hl 2 rfl) ?_
  refine lv_iload_n hx hb dX8_onBy_3 rfl (lv_at hl 3 rfl) ?_
  refine lv_aload_n hx hb dX8_onBy_4 rfl (lv_at hl 0 rfl) ?_
  refine bq_get (q0 := 27) S hK hP fl_X8_15_X2_1 rfl rfl rfl dX8_onBy_5 ?_
  refine lv_iload_n hx hb dX8_onBy_8 rfl (lv_at hl 1 rfl) ?_
  refine lv_iload_n hx hb dX8_onBy_9 rfl (lv_at hl 3 rfl) ?_
  obtain ⟨o1, ho1, h⟩ := Option.bind_eq_some_iff.mp h
  obtain ⟨v3, x2⟩ := o1
  replace h := un2_e h
  refine bq_callSNi (As := [.int _]) S hK hD hA hP hS (cX9_bit_k ho1) hd_yX9_bit mn_X8_53 st_yX9_bit ⟨rfl, rfl⟩ ⟨by decide, by decide⟩ rfl hl.1 rfl (Nat.le_of_ble_eq_true rfl) ⟨Nat.zero_le _, Nat.zero_le _⟩ dX8_onBy_10 (fun H locs hP hS => ?_)
  refine lv_ior hx hb dX8_onBy_13 ?_
  refine lv_iload_n hx hb dX8_onBy_14 rfl (lv_at hl 3 rfl) ?_
  obtain ⟨o4, ho4, h⟩ := Option.bind_eq_some_iff.mp h
  obtain ⟨v6, x5⟩ := o4
  replace h := un2_e h
  refine bq_callSi (As := [.int _, .int _]) S hK hD hA hP hS (cX8_index_k ho4) hd_yX8_index ml_X8_43 st_yX8_index ⟨rfl, rfl⟩ ⟨by decide, by decide⟩ rfl hl.1 rfl (Nat.le_of_ble_eq_true rfl) ⟨Nat.zero_le _, Nat.zero_le _⟩ dX8_onBy_15 (fun H locs hP hS => ?_)
  obtain ⟨g7, h⟩ := bq_gd h
  refine va_iald (D := D) hx hb hK hP 25 0 rfl rfl g7 dX8_onBy_18 ?_
  obtain ⟨o8, ho8, h⟩ := Option.bind_eq_some_iff.mp h
  obtain ⟨v10, x9⟩ := o8
  replace h := un2_e h
  refine bq_callUi (q0 := 27) (owner := "BesideQuotes$Ways") (As := [.int _, .int _, .int _, .int _]) S hK hD hA hP hS (cX2_ofStep_k_27 ho8) hd_yX2_ofStep ml_X8_60 in_yX2_ofStep (hts _ sl_X2_X8_yX2_ofStep) sm_X8_ofStep dc_X8_ofStep (by decide +kernel) ⟨rfl, rfl⟩ ⟨by decide, by decide⟩ rfl rfl rfl hl.1 rfl (Nat.le_of_ble_eq_true rfl) ⟨Nat.zero_le _, Nat.zero_le _⟩ dX8_onBy_19 (fun H locs hP hS => ?_)
  obtain ⟨e1, e2⟩ := Prod.mk.inj (hret _ h)
  exact hR _ _ _ _ _ (congrArg some e1) rfl (by rw [e2]; exact hP) hS dX8_onBy_22
def fX8X2_told (p1 : Int32) (p2 : Int32) (x0 : bq_S) : Option (Int32 × bq_S) :=
  (fX8_index p1 p2 x0).bind (fun o1 => un2 o1 (fun v3 x2 =>
  if ok_i v3 2048 then
  some ((x2.1 25 v3.toNatClampNeg), x2)
  else none))
theorem dX8_told_0 : decode cX8_told 0 = .ok (.aload_n 0, 1) := by decide +kernel
theorem dX8_told_1 : decode cX8_told 1 = .ok (.getfield 15, 3) := by decide +kernel
theorem dX8_told_4 : decode cX8_told 4 = .ok (.iload_n 1, 1) := by decide +kernel
theorem dX8_told_5 : decode cX8_told 5 = .ok (.iload_n 2, 1) := by decide +kernel
theorem dX8_told_6 : decode cX8_told 6 = .ok (.invokestatic 43, 3) := by decide +kernel
theorem dX8_told_9 : decode cX8_told 9 = .ok (.iaload, 1) := by decide +kernel
theorem dX8_told_10 : decode cX8_told 10 = .ok (.ireturn, 1) := by decide +kernel
set_option maxHeartbeats 4000000 in
set_option maxRecDepth 100000 in
theorem cX8X2_told_k_27 {l : Launch} {D : va_G} {a : Nat → Nat} {k : Nat → ClassId} {p1 : Int32} {p2 : Int32} {x0 xz : bq_S} {rz : Int32} (h : fX8X2_told  p1 p2 x0 = some (rz, xz)) : bq_M l D bq_cl (bq_ty k) (bq_wC a k) yX8_told cX8_told 3 (some .int) { frames := 1, cells := 0, slots := 0, locals := 21 } [.ref (a 27), .int p1, .int p2] x0 (some rz) xz := by
  refine bq_ofW RX8 [(0, .ref (a 27)), (1, .int p1), (2, .int p2)] (by decide +kernel) rfl (Nat.le_of_ble_eq_true rfl) rfl (bq_adC a k) ?_
  intro p e s m below meth c A Q ls S hK hD hA hR hS hP hl
  have hx := S.1; have hb := S.2.1; have hml := S.2.2.1; have hown := S.2.2.2.1; have hts := S.2.2.2.2
  have hret : ∀ z, some z = some (rz, xz) → (rz, xz) = z := fun z h => (Option.some.inj h).symm
  unfold fX8X2_told at h
  refine lv_aload_n hx hb dX8_told_0 rfl (lv_at hl 0 rfl) ?_
  refine bq_get (q0 := 27) S hK hP fl_X8_15_X2_1 rfl rfl rfl dX8_told_1 ?_
  refine lv_iload_n hx hb dX8_told_4 rfl (lv_at hl 1 rfl) ?_
  refine lv_iload_n hx hb dX8_told_5 rfl (lv_at hl 2 rfl) ?_
  obtain ⟨o1, ho1, h⟩ := Option.bind_eq_some_iff.mp h
  obtain ⟨v3, x2⟩ := o1
  replace h := un2_e h
  refine bq_callSi (As := [.int _, .int _]) S hK hD hA hP hS (cX8_index_k ho1) hd_yX8_index ml_X8_43 st_yX8_index ⟨rfl, rfl⟩ ⟨by decide, by decide⟩ rfl hl.1 rfl (Nat.le_of_ble_eq_true rfl) ⟨Nat.zero_le _, Nat.zero_le _⟩ dX8_told_6 (fun H locs hP hS => ?_)
  obtain ⟨g4, h⟩ := bq_gd h
  refine va_iald (D := D) hx hb hK hP 25 0 rfl rfl g4 dX8_told_9 ?_
  obtain ⟨e1, e2⟩ := Prod.mk.inj (hret _ h)
  exact hR _ _ _ _ _ (congrArg some e1) rfl (by rw [e2]; exact hP) hS dX8_told_10
