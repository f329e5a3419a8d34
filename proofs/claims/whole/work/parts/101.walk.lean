def fJ7_fill_b5 (n : Nat) (r2 : Nat) (lb3 : Nat) (v4 : Int32) (v6 : Int32) (v : Int32 × bq_S) : Option ((Int32 × bq_S) ⊕ (Int32 × bq_S)) :=
  un2 v (fun v5 x7 =>
  if v6 ≤ v5 then
  some (.inr (v5, x7))
  else
  if ok_i v5 lb3 then
  bd (bq_sI x7 r2 v5.toNatClampNeg v4) (fun x9 =>
  bd (v5 + (1 : Int32)) (fun v11 =>
  some (.inl (v11, x9))))
  else none)
def fJ7_fill (n : Nat) (q0 : Nat) (la0 : Nat) (p1 : Int32) (x0 : bq_S) : Option (bq_S) :=
  bd (Int32.ofNat la0) (fun v1 =>
  (wh n (fJ7_fill_b5 n q0 la0 p1 v1) ((0 : Int32), x0)).bind (fun e12 => un2 e12 (fun v13 x14 =>
  some x14)))
theorem dJ7_fill_53178_0 : decode cJ7_fill_53178 0 = .ok (.iconst 0, 1) := by decide +kernel
theorem dJ7_fill_53178_1 : decode cJ7_fill_53178 1 = .ok (.istore_n 2, 1) := by decide +kernel
theorem dJ7_fill_53178_2 : decode cJ7_fill_53178 2 = .ok (.aload_n 0, 1) := by decide +kernel
theorem dJ7_fill_53178_3 : decode cJ7_fill_53178 3 = .ok (.arraylength, 1) := by decide +kernel
theorem dJ7_fill_53178_4 : decode cJ7_fill_53178 4 = .ok (.istore_n 3, 1) := by decide +kernel
theorem dJ7_fill_53178_5 : decode cJ7_fill_53178 5 = .ok (.iload_n 2, 1) := by decide +kernel
theorem dJ7_fill_53178_6 : decode cJ7_fill_53178 6 = .ok (.iload_n 3, 1) := by decide +kernel
theorem dJ7_fill_53178_7 : decode cJ7_fill_53178 7 = .ok (.if_icmp .ge 13, 3) := by decide +kernel
theorem dJ7_fill_53178_10 : decode cJ7_fill_53178 10 = .ok (.aload_n 0, 1) := by decide +kernel
theorem dJ7_fill_53178_11 : decode cJ7_fill_53178 11 = .ok (.iload_n 2, 1) := by decide +kernel
theorem dJ7_fill_53178_12 : decode cJ7_fill_53178 12 = .ok (.iload_n 1, 1) := by decide +kernel
theorem dJ7_fill_53178_13 : decode cJ7_fill_53178 13 = .ok (.iastore, 1) := by decide +kernel
theorem dJ7_fill_53178_14 : decode cJ7_fill_53178 14 = .ok (.iinc 2 1, 3) := by decide +kernel
theorem dJ7_fill_53178_17 : decode cJ7_fill_53178 17 = .ok (.goto (-12), 3) := by decide +kernel
theorem dJ7_fill_53178_20 : decode cJ7_fill_53178 20 = .ok (.return_, 1) := by decide +kernel
set_option maxHeartbeats 4000000 in
set_option maxRecDepth 100000 in
theorem cJ7_fill_k_17 {l : Launch} {D : va_G} {a : Nat → Nat} {k : Nat → ClassId} {n : Nat} {p1 : Int32} {x0 xz : bq_S} (h : fJ7_fill n 17 8 p1 x0 = some xz) : bq_M l D bq_cl (bq_ty k) (bq_wC a k) yJ7_fill_53178 cJ7_fill_53178 4 none { frames := 0, cells := 0, slots := 0, locals := 0 } [.ref (a 17), .int p1] x0 none xz := by
  refine bq_ofWv RJ7 [(0, .ref (a 17)), (1, .int p1)] (by decide +kernel) rfl (Nat.le_of_ble_eq_true rfl) rfl (bq_adC a k) ?_
  intro p e s m below meth c A Q ls S hK hD hA hR hS hP hl
  have hx := S.1; have hb := S.2.1; have hml := S.2.2.1; have hown := S.2.2.2.1; have hts := S.2.2.2.2
  have hret : ∀ z, some z = some xz → xz = z := fun z h => (Option.some.inj h).symm
  unfold fJ7_fill at h
  refine lv_iconst (v := (0 : Int32)) hx hb dJ7_fill_53178_0 (by decide) ?_
  refine lv_istore_n (lv' := [(2, .int (0 : Int32)), (0, .ref (a 17)), (1, .int p1)]) hx hb dJ7_fill_53178_1 rfl hl (by decide) rfl (fun ls hl => ?_)
  refine lv_aload_n hx hb dJ7_fill_53178_2 rfl (lv_at hl 1 rfl) ?_
  refine va_alen (D := D) (v := (8 : Int32)) hx hb hK hP 17 0 rfl rfl rfl dJ7_fill_53178_3 ?_
  refine lv_topi (fun v1 hv1 => ?_)
  replace h := bq_bv h hv1
  refine lv_istore_n (lv' := [(3, .int v1), (2, .int (0 : Int32)), (0, .ref (a 17)), (1, .int p1)]) hx hb dJ7_fill_53178_4 rfl hl (by decide) rfl (fun ls hl => ?_)
  have hl5 : ∀ (v4 : Int32) (v6 : Int32) (kf : Nat) (v5 : Int32) (x7 : bq_S) (eo : Int32 × bq_S) (H : Heap) (locs : List Loc) (ls : Array Slot), wh kf (fJ7_fill_b5 n 17 8 v4 v6) (v5, x7) = some eo → va_P D bq_cl (bq_wC a k x7) H → va_S A s.heap H locs → lv_has ls 4 [(0, .ref (a 17)), (1, .int v4), (2, .int v5), (3, .int v6)] → (∀ (H : Heap) (locs : List Loc) (ls : Array Slot) (v13 : Int32) (x14 : bq_S), eo = (v13, x14) → va_P D bq_cl (bq_wC a k x14) H → va_S A s.heap H locs → lv_has ls 4 [] → W p l e { frames := 0, cells := 0, slots := 0, locals := 0 } s m [.ref (a 17), .int p1].toArray below meth c H locs 0 0 Q (F0 m 20 ls [])) → W p l e { frames := 0, cells := 0, slots := 0, locals := 0 } s m [.ref (a 17), .int p1].toArray below meth c H locs 0 0 Q (F0 m 5 ls []) := by
    intro v4 v6 kf
    induction kf with
    | zero => intro v5 x7 eo H locs ls h; cases h
    | succ kf ih =>
      intro v5 x7 eo H locs ls h hP hS hl kx
      obtain ⟨out, h, hw⟩ := wh_s h
      unfold fJ7_fill_b5 at h
      replace h := un2_e h
      refine lv_iload_n hx hb dJ7_fill_53178_5 rfl (lv_at hl 2 rfl) ?_
      refine lv_iload_n hx hb dJ7_fill_53178_6 rfl (lv_at hl 3 rfl) ?_
      refine lv_icmp_ge (tgt := 20) hx hb dJ7_fill_53178_7 (by decide) (fun c8 => ?_) (fun c8 => ?_)
      · replace h := (if_pos c8).symm.trans h
        cases h
        exact kx _ _ _ _ _ (Option.some.inj hw).symm hP hS (lv_sub hl [] rfl)
      · replace h := (if_neg c8).symm.trans h
        refine lv_aload_n hx hb dJ7_fill_53178_10 rfl (lv_at hl 0 rfl) ?_
        refine lv_iload_n hx hb dJ7_fill_53178_11 rfl (lv_at hl 2 rfl) ?_
        refine lv_iload_n hx hb dJ7_fill_53178_12 rfl (lv_at hl 1 rfl) ?_
        obtain ⟨g10, h⟩ := bq_gd h
        obtain ⟨x9, hx9, h⟩ := bq_b h
        refine bq_iast (x1 := x9) (q0 := 17) (t0 := 0) S hK hD hP hS rfl rfl g10 (by rw [hx9]; rfl) dJ7_fill_53178_13 (fun H locs hP hS => ?_)
        obtain ⟨v11, hv11, h⟩ := bq_b h
        refine lv_iinc (v := v11) (lv' := [(2, .int v11), (0, .ref (a 17)), (1, .int v4), (3, .int v6)]) hx hb dJ7_fill_53178_14 hl (k := 2) rfl (by rw [hv11]; rfl) (by decide) rfl (fun ls hl => ?_)
        refine lv_goto (tgt := 5) hx hb dJ7_fill_53178_17 (by decide) ?_
        cases h
        exact ih _ _ _ _ _ _ hw hP hS (lv_sub hl [1, 2, 0, 3] rfl) kx
  obtain ⟨e12, he12, h⟩ := Option.bind_eq_some_iff.mp h
  refine hl5 _ _ n _ _ e12 _ _ _ he12 hP hS (lv_sub hl [2, 3, 1, 0] rfl) (fun H locs ls v13 x14 hz hP hS hl => ?_)
  subst hz
  replace h := un2_e h
  have e2 := hret _ h
  exact hR _ _ _ _ rfl (by rw [e2]; exact hP) hS dJ7_fill_53178_20
def fX4_clearBooks (n : Nat) (q0 : Nat) (x0 : bq_S) : Option (bq_S) :=
  bd (bq_sI x0 q0 0 (0 : Int32)) (fun x1 =>
  bd (bq_sI x1 q0 1 (0 : Int32)) (fun x2 =>
  (fJ7_fill n (q0 + 2) 8 (0 : Int32) x2).bind (fun x4 =>
  some x4)))
theorem dX4_clearBooks_0 : decode cX4_clearBooks 0 = .ok (.aload_n 0, 1) := by decide +kernel
theorem dX4_clearBooks_1 : decode cX4_clearBooks 1 = .ok (.iconst 0, 1) := by decide +kernel
theorem dX4_clearBooks_2 : decode cX4_clearBooks 2 = .ok (.putfield 9, 3) := by decide +kernel
theorem dX4_clearBooks_5 : decode cX4_clearBooks 5 = .ok (.aload_n 0, 1) := by decide +kernel
theorem dX4_clearBooks_6 : decode cX4_clearBooks 6 = .ok (.iconst 0, 1) := by decide +kernel
theorem dX4_clearBooks_7 : decode cX4_clearBooks 7 = .ok (.putfield 15, 3) := by decide +kernel
theorem dX4_clearBooks_10 : decode cX4_clearBooks 10 = .ok (.aload_n 0, 1) := by decide +kernel
theorem dX4_clearBooks_11 : decode cX4_clearBooks 11 = .ok (.getfield 25, 3) := by decide +kernel
theorem dX4_clearBooks_14 : decode cX4_clearBooks 14 = .ok (.iconst 0, 1) := by decide +kernel
theorem dX4_clearBooks_15 : decode cX4_clearBooks 15 = .ok (.invokestatic 57, 3) := by decide +kernel
theorem dX4_clearBooks_18 : decode cX4_clearBooks 18 = .ok (.return_, 1) := by decide +kernel
set_option maxHeartbeats 4000000 in
set_option maxRecDepth 100000 in
theorem cX4_clearBooks_k_15 {l : Launch} {D : va_G} {a : Nat → Nat} {k : Nat → ClassId} {n : Nat} {x0 xz : bq_S} (h : fX4_clearBooks n 15 x0 = some xz) : bq_M l D bq_cl (bq_ty k) (bq_wC a k) yX4_clearBooks cX4_clearBooks 1 none { frames := 1, cells := 0, slots := 0, locals := 23 } [.ref (a 15)] x0 none xz := by
  refine bq_ofWv RX4 [(0, .ref (a 15))] (by decide +kernel) rfl (Nat.le_of_ble_eq_true rfl) rfl (bq_adC a k) ?_
  intro p e s m below meth c A Q ls S hK hD hA hR hS hP hl
  have hx := S.1; have hb := S.2.1; have hml := S.2.2.1; have hown := S.2.2.2.1; have hts := S.2.2.2.2
  have hret : ∀ z, some z = some xz → xz = z := fun z h => (Option.some.inj h).symm
  unfold fX4_clearBooks at h
  refine lv_aload_n hx hb dX4_clearBooks_0 rfl (lv_at hl 0 rfl) ?_
  refine lv_iconst (v := (0 : Int32)) hx hb dX4_clearBooks_1 (by decide) ?_
  obtain ⟨x1, hx1, h⟩ := bq_b h
  refine bq_put (x1 := x1) (q0 := 15) (ty := .int) S hK hD hP hS fl_X4_9_X4_0 bt_X4 rfl (by decide +kernel) rfl rfl (Nat.le_of_ble_eq_true rfl) rfl rfl (by rw [hx1]; rfl) dX4_clearBooks_2 (fun H locs hP hS => ?_)
  refine lv_aload_n hx hb dX4_clearBooks_5 rfl (lv_at hl 0 rfl) ?_
  refine lv_iconst (v := (0 : Int32)) hx hb dX4_clearBooks_6 (by decide) ?_
  obtain ⟨x2, hx2, h⟩ := bq_b h
  refine bq_put (x1 := x2) (q0 := 15) (ty := .int) S hK hD hP hS fl_X4_15_X4_1 bt_X4 rfl (by decide +kernel) rfl rfl (Nat.le_of_ble_eq_true rfl) rfl rfl (by rw [hx2]; rfl) dX4_clearBooks_7 (fun H locs hP hS => ?_)
  refine lv_aload_n hx hb dX4_clearBooks_10 rfl (lv_at hl 0 rfl) ?_
  refine bq_get (q0 := 15) S hK hP fl_X4_25_X4_4 rfl rfl rfl dX4_clearBooks_11 ?_
  refine lv_iconst (v := (0 : Int32)) hx hb dX4_clearBooks_14 (by decide) ?_
  obtain ⟨x4, ho3, h⟩ := Option.bind_eq_some_iff.mp h
  refine bq_callSv (As := [.ref (a 17), .int _]) S hK hD hA hP hS (cJ7_fill_k_17 ho3) hd_yJ7_fill_53178 ml_X4_57 st_yJ7_fill_53178 ⟨rfl, rfl⟩ ⟨by decide, by decide⟩ rfl hl.1 rfl (Nat.le_of_ble_eq_true rfl) ⟨Nat.zero_le _, Nat.zero_le _⟩ dX4_clearBooks_15 (fun H locs hP hS => ?_)
  have e2 := hret _ h
  exact hR _ _ _ _ rfl (by rw [e2]; exact hP) hS dX4_clearBooks_18
set_option maxHeartbeats 4000000 in
set_option maxRecDepth 100000 in
theorem cJ7_fill_k_24 {l : Launch} {D : va_G} {a : Nat → Nat} {k : Nat → ClassId} {n : Nat} {p1 : Int32} {x0 xz : bq_S} (h : fJ7_fill n 24 8 p1 x0 = some xz) : bq_M l D bq_cl (bq_ty k) (bq_wC a k) yJ7_fill_53178 cJ7_fill_53178 4 none { frames := 0, cells := 0, slots := 0, locals := 0 } [.ref (a 24), .int p1] x0 none xz := by
  refine bq_ofWv RJ7 [(0, .ref (a 24)), (1, .int p1)] (by decide +kernel) rfl (Nat.le_of_ble_eq_true rfl) rfl (bq_adC a k) ?_
  intro p e s m below meth c A Q ls S hK hD hA hR hS hP hl
  have hx := S.1; have hb := S.2.1; have hml := S.2.2.1; have hown := S.2.2.2.1; have hts := S.2.2.2.2
  have hret : ∀ z, some z = some xz → xz = z := fun z h => (Option.some.inj h).symm
  unfold fJ7_fill at h
  refine lv_iconst (v := (0 : Int32)) hx hb dJ7_fill_53178_0 (by decide) ?_
  refine lv_istore_n (lv' := [(2, .int (0 : Int32)), (0, .ref (a 24)), (1, .int p1)]) hx hb dJ7_fill_53178_1 rfl hl (by decide) rfl (fun ls hl => ?_)
  refine lv_aload_n hx hb dJ7_fill_53178_2 rfl (lv_at hl 1 rfl) ?_
  refine va_alen (D := D) (v := (8 : Int32)) hx hb hK hP 24 0 rfl rfl rfl dJ7_fill_53178_3 ?_
  refine lv_topi (fun v1 hv1 => ?_)
  replace h := bq_bv h hv1
  refine lv_istore_n (lv' := [(3, .int v1), (2, .int (0 : Int32)), (0, .ref (a 24)), (1, .int p1)]) hx hb dJ7_fill_53178_4 rfl hl (by decide) rfl (fun ls hl => ?_)
  have hl5 : ∀ (v4 : Int32) (v6 : Int32) (kf : Nat) (v5 : Int32) (x7 : bq_S) (eo : Int32 × bq_S) (H : Heap) (locs : List Loc) (ls : Array Slot), wh kf (fJ7_fill_b5 n 24 8 v4 v6) (v5, x7) = some eo → va_P D bq_cl (bq_wC a k x7) H → va_S A s.heap H locs → lv_has ls 4 [(0, .ref (a 24)), (1, .int v4), (2, .int v5), (3, .int v6)] → (∀ (H : Heap) (locs : List Loc) (ls : Array Slot) (v13 : Int32) (x14 : bq_S), eo = (v13, x14) → va_P D bq_cl (bq_wC a k x14) H → va_S A s.heap H locs → lv_has ls 4 [] → W p l e { frames := 0, cells := 0, slots := 0, locals := 0 } s m [.ref (a 24), .int p1].toArray below meth c H locs 0 0 Q (F0 m 20 ls [])) → W p l e { frames := 0, cells := 0, slots := 0, locals := 0 } s m [.ref (a 24), .int p1].toArray below meth c H locs 0 0 Q (F0 m 5 ls []) := by
    intro v4 v6 kf
    induction kf with
    | zero => intro v5 x7 eo H locs ls h; cases h
    | succ kf ih =>
      intro v5 x7 eo H locs ls h hP hS hl kx
      obtain ⟨out, h, hw⟩ := wh_s h
      unfold fJ7_fill_b5 at h
      replace h := un2_e h
      refine lv_iload_n hx hb dJ7_fill_53178_5 rfl (lv_at hl 2 rfl) ?_
      refine lv_iload_n hx hb dJ7_fill_53178_6 rfl (lv_at hl 3 rfl) ?_
      refine lv_icmp_ge (tgt := 20) hx hb dJ7_fill_53178_7 (by decide) (fun c8 => ?_) (fun c8 => ?_)
      · replace h := (if_pos c8).symm.trans h
        cases h
        exact kx _ _ _ _ _ (Option.some.inj hw).symm hP hS (lv_sub hl [] rfl)
      · replace h := (if_neg c8).symm.trans h
        refine lv_aload_n hx hb dJ7_fill_53178_10 rfl (lv_at hl 0 rfl) ?_
        refine lv_iload_n hx hb dJ7_fill_53178_11 rfl (lv_at hl 2 rfl) ?_
        refine lv_iload_n hx hb dJ7_fill_53178_12 rfl (lv_at hl 1 rfl) ?_
        obtain ⟨g10, h⟩ := bq_gd h
        obtain ⟨x9, hx9, h⟩ := bq_b h
        refine bq_iast (x1 := x9) (q0 := 24) (t0 := 0) S hK hD hP hS rfl rfl g10 (by rw [hx9]; rfl) dJ7_fill_53178_13 (fun H locs hP hS => ?_)
        obtain ⟨v11, hv11, h⟩ := bq_b h
        refine lv_iinc (v := v11) (lv' := [(2, .int v11), (0, .ref (a 24)), (1, .int v4), (3, .int v6)]) hx hb dJ7_fill_53178_14 hl (k := 2) rfl (by rw [hv11]; rfl) (by decide) rfl (fun ls hl => ?_)
        refine lv_goto (tgt := 5) hx hb dJ7_fill_53178_17 (by decide) ?_
        cases h
        exact ih _ _ _ _ _ _ hw hP hS (lv_sub hl [1, 2, 0, 3] rfl) kx
  obtain ⟨e12, he12, h⟩ := Option.bind_eq_some_iff.mp h
  refine hl5 _ _ n _ _ e12 _ _ _ he12 hP hS (lv_sub hl [2, 3, 1, 0] rfl) (fun H locs ls v13 x14 hz hP hS hl => ?_)
  subst hz
  replace h := un2_e h
  have e2 := hret _ h
  exact hR _ _ _ _ rfl (by rw [e2]; exact hP) hS dJ7_fill_53178_20
def fX7_look_b0 (n : Nat) (v : bq_S) : Option ((bq_S) ⊕ (bq_S)) :=
  un1 v (fun x1 =>
  if (x1.1 22 2) ≤ (x1.1 22 3) then
  some (.inr x1)
  else
  if ok_i (x1.1 22 3) 60 then
  if (x1.1 23 (x1.1 22 3).toNatClampNeg) = (32 : Int32) then
  bd (bq_sI x1 22 3 ((x1.1 22 3) + (1 : Int32))) (fun x5 =>
  some (.inl x5))
  else
  some (.inr x1)
  else none)
def fX7_look_j38 (n : Nat) (x8 : bq_S) : Option (Int32 × bq_S) :=
  if (x8.1 22 2) ≤ (x8.1 22 3) then
  some ((-1 : Int32), x8)
  else
  if ok_i (x8.1 22 3) 60 then
  some ((x8.1 23 (x8.1 22 3).toNatClampNeg), x8)
  else none
def fX7_look (n : Nat) (x0 : bq_S) : Option (Int32 × bq_S) :=
  (wh n (fX7_look_b0 n) x0).bind (fun e6 => un1 e6 (fun x7 =>
  fX7_look_j38 n x7))
theorem dX7_look_0 : decode cX7_look 0 = .ok (.aload_n 0, 1) := by decide +kernel
theorem dX7_look_1 : decode cX7_look 1 = .ok (.getfield 23, 3) := by decide +kernel
theorem dX7_look_4 : decode cX7_look 4 = .ok (.aload_n 0, 1) := by decide +kernel
theorem dX7_look_5 : decode cX7_look 5 = .ok (.getfield 19, 3) := by decide +kernel
theorem dX7_look_8 : decode cX7_look 8 = .ok (.if_icmp .ge 30, 3) := by decide +kernel
theorem dX7_look_11 : decode cX7_look 11 = .ok (.aload_n 0, 1) := by decide +kernel
theorem dX7_look_12 : decode cX7_look 12 = .ok (.getfield 9, 3) := by decide +kernel
theorem dX7_look_15 : decode cX7_look 15 = .ok (.aload_n 0, 1) := by decide +kernel
theorem dX7_look_16 : decode cX7_look 16 = .ok (.getfield 23, 3) := by decide +kernel
theorem dX7_look_19 : decode cX7_look 19 = .ok (.baload, 1) := by decide +kernel
theorem dX7_look_20 : decode cX7_look 20 = .ok (.bipush 32, 2) := by decide +kernel
theorem dX7_look_22 : decode cX7_look 22 = .ok (.if_icmp .ne 16, 3) := by decide +kernel
theorem dX7_look_25 : decode cX7_look 25 = .ok (.aload_n 0, 1) := by decide +kernel
theorem dX7_look_26 : decode cX7_look 26 = .ok (.dup, 1) := by decide +kernel
theorem dX7_look_27 : decode cX7_look 27 = .ok (.getfield 23, 3) := by decide +kernel
theorem dX7_look_30 : decode cX7_look 30 = .ok (.iconst 1, 1) := by decide +kernel
theorem dX7_look_31 : decode cX7_look 31 = .ok (.iadd, 1) := by decide +kernel
theorem dX7_look_32 : decode cX7_look 32 = .ok (.putfield 23, 3) := by decide +kernel
theorem dX7_look_35 : decode cX7_look 35 = .ok (.goto (-35), 3) := by decide +kernel
theorem dX7_look_38 : decode cX7_look 38 = .ok (.aload_n 0, 1) := by decide +kernel
theorem dX7_look_39 : decode cX7_look 39 = .ok (.getfield 23, 3) := by decide +kernel
theorem dX7_look_42 : decode cX7_look 42 = .ok (.aload_n 0, 1) := by decide +kernel
theorem dX7_look_43 : decode cX7_look 43 = .ok (.getfield 19, 3) := by decide +kernel
theorem dX7_look_46 : decode cX7_look 46 = .ok (.if_icmp .ge 15, 3) := by decide +kernel
theorem dX7_look_49 : decode cX7_look 49 = .ok (.aload_n 0, 1) := by decide +kernel
theorem dX7_look_50 : decode cX7_look 50 = .ok (.getfield 9, 3) := by decide +kernel
theorem dX7_look_53 : decode cX7_look 53 = .ok (.aload_n 0, 1) := by decide +kernel
theorem dX7_look_54 : decode cX7_look 54 = .ok (.getfield 23, 3) := by decide +kernel
theorem dX7_look_57 : decode cX7_look 57 = .ok (.baload, 1) := by decide +kernel
theorem dX7_look_58 : decode cX7_look 58 = .ok (.goto 4, 3) := by decide +kernel
theorem dX7_look_61 : decode cX7_look 61 = .ok (.iconst (-1), 1) := by decide +kernel
theorem dX7_look_62 : decode cX7_look 62 = .ok (.ireturn, 1) := by decide +kernel
set_option maxHeartbeats 4000000 in
set_option maxRecDepth 100000 in
theorem cX7_look_k_22 {l : Launch} {D : va_G} {a : Nat → Nat} {k : Nat → ClassId} {n : Nat} {x0 xz : bq_S} {rz : Int32} (h : fX7_look n  x0 = some (rz, xz)) : bq_M l D bq_cl (bq_ty k) (bq_wC a k) yX7_look cX7_look 1 (some .int) { frames := 0, cells := 0, slots := 0, locals := 0 } [.ref (a 22)] x0 (some rz) xz := by
  refine bq_ofW RX7 [(0, .ref (a 22))] (by decide +kernel) rfl (Nat.le_of_ble_eq_true rfl) rfl (bq_adC a k) ?_
  intro p e s m below meth c A Q ls S hK hD hA hR hS hP hl
  have hx := S.1; have hb := S.2.1; have hml := S.2.2.1; have hown := S.2.2.2.1; have hts := S.2.2.2.2
  have hret : ∀ z, some z = some (rz, xz) → (rz, xz) = z := fun z h => (Option.some.inj h).symm
  unfold fX7_look at h
  have hj38 : ∀ (x8 : bq_S) (H : Heap) (locs : List Loc) (ls : Array Slot), fX7_look_j38 n x8 = some (rz, xz) → va_P D bq_cl (bq_wC a k x8) H → va_S A s.heap H locs → lv_has ls 1 [(0, .ref (a 22))] → W p l e { frames := 0, cells := 0, slots := 0, locals := 0 } s m [.ref (a 22)].toArray below meth c H locs 0 0 Q (F0 m 38 ls []) := by
    intro  x8 H locs ls h hP hS hl
    unfold fX7_look_j38 at h
    refine lv_aload_n hx hb dX7_look_38 rfl (lv_at hl 0 rfl) ?_
    refine bq_get (q0 := 22) S hK hP fl_X7_23_X7_3 rfl rfl rfl dX7_look_39 ?_
    refine lv_aload_n hx hb dX7_look_42 rfl (lv_at hl 0 rfl) ?_
    refine bq_get (q0 := 22) S hK hP fl_X7_19_X7_2 rfl rfl rfl dX7_look_43 ?_
    refine lv_icmp_ge (tgt := 61) hx hb dX7_look_46 (by decide) (fun c9 => ?_) (fun c9 => ?_)
    · replace h := (if_pos c9).symm.trans h
      refine lv_iconst (v := (-1 : Int32)) hx hb dX7_look_61 (by decide) ?_
      obtain ⟨e1, e2⟩ := Prod.mk.inj (hret _ h)
      exact hR _ _ _ _ _ (congrArg some e1) rfl (by rw [e2]; exact hP) hS dX7_look_62
    · replace h := (if_neg c9).symm.trans h
      refine lv_aload_n hx hb dX7_look_49 rfl (lv_at hl 0 rfl) ?_
      refine bq_get (q0 := 22) S hK hP fl_X7_9_X7_0 rfl rfl rfl dX7_look_50 ?_
      refine lv_aload_n hx hb dX7_look_53 rfl (lv_at hl 0 rfl) ?_
      refine bq_get (q0 := 22) S hK hP fl_X7_23_X7_3 rfl rfl rfl dX7_look_54 ?_
      obtain ⟨g10, h⟩ := bq_gd h
      refine va_bald (D := D) hx hb hK hP 23 2 rfl rfl g10 dX7_look_57 ?_
      refine lv_goto (tgt := 62) hx hb dX7_look_58 (by decide) ?_
      obtain ⟨e1, e2⟩ := Prod.mk.inj (hret _ h)
      exact hR _ _ _ _ _ (congrArg some e1) rfl (by rw [e2]; exact hP) hS dX7_look_62
  have hl0 : ∀ (kf : Nat) (x1 : bq_S) (eo : bq_S) (H : Heap) (locs : List Loc) (ls : Array Slot), wh kf (fX7_look_b0 n ) x1 = some eo → va_P D bq_cl (bq_wC a k x1) H → va_S A s.heap H locs → lv_has ls 1 [(0, .ref (a 22))] → (∀ (H : Heap) (locs : List Loc) (ls : Array Slot) (x7 : bq_S), eo = x7 → va_P D bq_cl (bq_wC a k x7) H → va_S A s.heap H locs → lv_has ls 1 [(0, .ref (a 22))] → W p l e { frames := 0, cells := 0, slots := 0, locals := 0 } s m [.ref (a 22)].toArray below meth c H locs 0 0 Q (F0 m 38 ls [])) → W p l e { frames := 0, cells := 0, slots := 0, locals := 0 } s m [.ref (a 22)].toArray below meth c H locs 0 0 Q (F0 m 0 ls []) := by
    intro  kf
    induction kf with
    | zero => intro x1 eo H locs ls h; cases h
    | succ kf ih =>
      intro x1 eo H locs ls h hP hS hl kx
      obtain ⟨out, h, hw⟩ := wh_s h
      unfold fX7_look_b0 at h
      replace h := un1_e h
      refine lv_aload_n hx hb dX7_look_0 rfl (lv_at hl 0 rfl) ?_
      refine bq_get (q0 := 22) S hK hP fl_X7_23_X7_3 rfl rfl rfl dX7_look_1 ?_
      refine lv_aload_n hx hb dX7_look_4 rfl (lv_at hl 0 rfl) ?_
      refine bq_get (q0 := 22) S hK hP fl_X7_19_X7_2 rfl rfl rfl dX7_look_5 ?_
      refine lv_icmp_ge (tgt := 38) hx hb dX7_look_8 (by decide) (fun c2 => ?_) (fun c2 => ?_)
      · replace h := (if_pos c2).symm.trans h
        cases h
        exact kx _ _ _ _ (Option.some.inj hw).symm hP hS (lv_sub hl [0] rfl)
      · replace h := (if_neg c2).symm.trans h
        refine lv_aload_n hx hb dX7_look_11 rfl (lv_at hl 0 rfl) ?_
        refine bq_get (q0 := 22) S hK hP fl_X7_9_X7_0 rfl rfl rfl dX7_look_12 ?_
        refine lv_aload_n hx hb dX7_look_15 rfl (lv_at hl 0 rfl) ?_
        refine bq_get (q0 := 22) S hK hP fl_X7_23_X7_3 rfl rfl rfl dX7_look_16 ?_
        obtain ⟨g3, h⟩ := bq_gd h
        refine va_bald (D := D) hx hb hK hP 23 2 rfl rfl g3 dX7_look_19 ?_
        refine lv_bipush (v := (32 : Int32)) hx hb dX7_look_20 (by decide) ?_
        refine lv_icmp_ne (tgt := 38) hx hb dX7_look_22 (by decide) (fun c4 => ?_) (fun c4 => ?_)
        · replace h := (if_neg c4).symm.trans h
          cases h
          exact kx _ _ _ _ (Option.some.inj hw).symm hP hS (lv_sub hl [0] rfl)
        · replace h := (if_pos c4).symm.trans h
          refine lv_aload_n hx hb dX7_look_25 rfl (lv_at hl 0 rfl) ?_
          refine lv_dup hx hb dX7_look_26 rfl ?_
          refine bq_get (q0 := 22) S hK hP fl_X7_23_X7_3 rfl rfl rfl dX7_look_27 ?_
          refine lv_iconst (v := (1 : Int32)) hx hb dX7_look_30 (by decide) ?_
          refine lv_iadd hx hb dX7_look_31 ?_
          obtain ⟨x5, hx5, h⟩ := bq_b h
          refine bq_put (x1 := x5) (q0 := 22) (ty := .int) S hK hD hP hS fl_X7_23_X7_3 bt_X7 rfl (by decide +kernel) rfl rfl (Nat.le_of_ble_eq_true rfl) rfl rfl (by rw [hx5]; rfl) dX7_look_32 (fun H locs hP hS => ?_)
          refine lv_goto (tgt := 0) hx hb dX7_look_35 (by decide) ?_
          cases h
          exact ih _ _ _ _ _ hw hP hS (lv_sub hl [0] rfl) kx
  obtain ⟨e6, he6, h⟩ := Option.bind_eq_some_iff.mp h
  refine hl0 n _ e6 _ _ _ he6 hP hS (lv_sub hl [0] rfl) (fun H locs ls x7 hz hP hS hl => ?_)
  subst hz
  replace h := un1_e h
  exact hj38  _ _ _ _ h hP hS (lv_sub hl [0] rfl)
set_option maxHeartbeats 4000000 in
set_option maxRecDepth 100000 in
theorem cX4_isBook_k_15 {l : Launch} {D : va_G} {a : Nat → Nat} {k : Nat → ClassId} {p1 : Int64} {x0 xz : bq_S} {rz : Int32} (h : fX4_isBook  15 p1 x0 = some (rz, xz)) : bq_M l D bq_cl (bq_ty k) (bq_wC a k) yX4_isBook cX4_isBook 3 (some .boolean) { frames := 0, cells := 0, slots := 0, locals := 0 } [.ref (a 15), .long p1] x0 (some rz) xz := by
  refine bq_ofW RX4 [(0, .ref (a 15)), (1, .long p1)] (by decide +kernel) rfl (Nat.le_of_ble_eq_true rfl) rfl (bq_adC a k) ?_
  intro p e s m below meth c A Q ls S hK hD hA hR hS hP hl
  have hx := S.1; have hb := S.2.1; have hml := S.2.2.1; have hown := S.2.2.2.1; have hts := S.2.2.2.2
  have hret : ∀ z, some z = some (rz, xz) → (rz, xz) = z := fun z h => (Option.some.inj h).symm
  unfold fX4_isBook at h
  refine lv_lload_n hx hb dX4_isBook_0 rfl (lv_at hl 1 rfl) ?_
  refine lv_lconst (v := (0 : Int64)) hx hb dX4_isBook_1 (by decide) ?_
  refine W.lcmp hx hb dX4_isBook_2 ?_
  refine lv_if_lt (tgt := 20) hx hb dX4_isBook_3 (by decide) (fun c1 => ?_) (fun c1 => ?_)
  · replace h := (if_pos c1).symm.trans h
    refine lv_iconst (v := (0 : Int32)) hx hb dX4_isBook_20 (by decide) ?_
    obtain ⟨e1, e2⟩ := Prod.mk.inj (hret _ h)
    exact hR _ _ _ _ _ (congrArg some e1) rfl (by rw [e2]; exact hP) hS dX4_isBook_21
  · replace h := (if_neg c1).symm.trans h
    refine lv_lload_n hx hb dX4_isBook_6 rfl (lv_at hl 1 rfl) ?_
    refine lv_aload_n hx hb dX4_isBook_7 rfl (lv_at hl 0 rfl) ?_
    refine bq_get (q0 := 15) S hK hP fl_X4_9_X4_0 rfl rfl rfl dX4_isBook_8 ?_
    refine lv_i2l hx hb dX4_isBook_11 rfl ?_
    refine W.lcmp hx hb dX4_isBook_12 ?_
    refine lv_if_ge (tgt := 20) hx hb dX4_isBook_13 (by decide) (fun c2 => ?_) (fun c2 => ?_)
    · replace h := (if_pos c2).symm.trans h
      refine lv_iconst (v := (0 : Int32)) hx hb dX4_isBook_20 (by decide) ?_
      obtain ⟨e1, e2⟩ := Prod.mk.inj (hret _ h)
      exact hR _ _ _ _ _ (congrArg some e1) rfl (by rw [e2]; exact hP) hS dX4_isBook_21
    · replace h := (if_neg c2).symm.trans h
      refine lv_iconst (v := (1 : Int32)) hx hb dX4_isBook_16 (by decide) ?_
      refine lv_goto (tgt := 21) hx hb dX4_isBook_17 (by decide) ?_
      obtain ⟨e1, e2⟩ := Prod.mk.inj (hret _ h)
      exact hR _ _ _ _ _ (congrArg some e1) rfl (by rw [e2]; exact hP) hS dX4_isBook_21
set_option maxHeartbeats 4000000 in
set_option maxRecDepth 100000 in
theorem cX4_areTwo_k_15 {l : Launch} {D : va_G} {a : Nat → Nat} {k : Nat → ClassId} {p1 : Int32} {p2 : Int32} {x0 xz : bq_S} {rz : Int32} (h : fX4_areTwo  15 p1 p2 x0 = some (rz, xz)) : bq_M l D bq_cl (bq_ty k) (bq_wC a k) yX4_areTwo cX4_areTwo 3 (some .boolean) { frames := 1, cells := 0, slots := 0, locals := 22 } [.ref (a 15), .int p1, .int p2] x0 (some rz) xz := by
  refine bq_ofW RX4 [(0, .ref (a 15)), (1, .int p1), (2, .int p2)] (by decide +kernel) rfl (Nat.le_of_ble_eq_true rfl) rfl (bq_adC a k) ?_
  intro p e s m below meth c A Q ls S hK hD hA hR hS hP hl
  have hx := S.1; have hb := S.2.1; have hml := S.2.2.1; have hown := S.2.2.2.1; have hts := S.2.2.2.2
  have hret : ∀ z, some z = some (rz, xz) → (rz, xz) = z := fun z h => (Option.some.inj h).symm
  unfold fX4_areTwo at h
  refine lv_aload_n hx hb dX4_areTwo_0 rfl (lv_at hl 0 rfl) ?_
  refine lv_iload_n hx hb dX4_areTwo_1 rfl (lv_at hl 1 rfl) ?_
  refine lv_i2l hx hb dX4_areTwo_2 rfl ?_
  obtain ⟨o1, ho1, h⟩ := Option.bind_eq_some_iff.mp h
  obtain ⟨v3, x2⟩ := o1
  replace h := un2_e h
  refine bq_callVi (q0 := 15) (As := [.long _]) S hK hD hA hP hS (cX4_isBook_k_15 ho1) hd_yX4_isBook ml_X4_80 in_yX4_isBook (hts _ sl_X4_X4_yX4_isBook) ⟨rfl, rfl⟩ ⟨by decide, by decide⟩ rfl rfl rfl hl.1 rfl (Nat.le_of_ble_eq_true rfl) ⟨Nat.zero_le _, Nat.zero_le _⟩ dX4_areTwo_3 (fun H locs hP hS => ?_)
  refine lv_if_eq (tgt := 27) hx hb dX4_areTwo_6 (by decide) (fun c4 => ?_) (fun c4 => ?_)
  · replace h := (if_pos c4).symm.trans h
    refine lv_iconst (v := (0 : Int32)) hx hb dX4_areTwo_27 (by decide) ?_
    obtain ⟨e1, e2⟩ := Prod.mk.inj (hret _ h)
    exact hR _ _ _ _ _ (congrArg some e1) rfl (by rw [e2]; exact hP) hS dX4_areTwo_28
  · replace h := (if_neg c4).symm.trans h
    refine lv_aload_n hx hb dX4_areTwo_9 rfl (lv_at hl 0 rfl) ?_
    refine lv_iload_n hx hb dX4_areTwo_10 rfl (lv_at hl 2 rfl) ?_
    refine lv_i2l hx hb dX4_areTwo_11 rfl ?_
    obtain ⟨o5, ho5, h⟩ := Option.bind_eq_some_iff.mp h
    obtain ⟨v7, x6⟩ := o5
    replace h := un2_e h
    refine bq_callVi (q0 := 15) (As := [.long _]) S hK hD hA hP hS (cX4_isBook_k_15 ho5) hd_yX4_isBook ml_X4_80 in_yX4_isBook (hts _ sl_X4_X4_yX4_isBook) ⟨rfl, rfl⟩ ⟨by decide, by decide⟩ rfl rfl rfl hl.1 rfl (Nat.le_of_ble_eq_true rfl) ⟨Nat.zero_le _, Nat.zero_le _⟩ dX4_areTwo_12 (fun H locs hP hS => ?_)
    refine lv_if_eq (tgt := 27) hx hb dX4_areTwo_15 (by decide) (fun c8 => ?_) (fun c8 => ?_)
    · replace h := (if_pos c8).symm.trans h
      refine lv_iconst (v := (0 : Int32)) hx hb dX4_areTwo_27 (by decide) ?_
      obtain ⟨e1, e2⟩ := Prod.mk.inj (hret _ h)
      exact hR _ _ _ _ _ (congrArg some e1) rfl (by rw [e2]; exact hP) hS dX4_areTwo_28
    · replace h := (if_neg c8).symm.trans h
      refine lv_iload_n hx hb dX4_areTwo_18 rfl (lv_at hl 1 rfl) ?_
      refine lv_iload_n hx hb dX4_areTwo_19 rfl (lv_at hl 2 rfl) ?_
      refine lv_icmp_eq (tgt := 27) hx hb dX4_areTwo_20 (by decide) (fun c9 => ?_) (fun c9 => ?_)
      · replace h := (if_pos c9).symm.trans h
        refine lv_iconst (v := (0 : Int32)) hx hb dX4_areTwo_27 (by decide) ?_
        obtain ⟨e1, e2⟩ := Prod.mk.inj (hret _ h)
        exact hR _ _ _ _ _ (congrArg some e1) rfl (by rw [e2]; exact hP) hS dX4_areTwo_28
      · replace h := (if_neg c9).symm.trans h
        refine lv_iconst (v := (1 : Int32)) hx hb dX4_areTwo_23 (by decide) ?_
        refine lv_goto (tgt := 28) hx hb dX4_areTwo_24 (by decide) ?_
        obtain ⟨e1, e2⟩ := Prod.mk.inj (hret _ h)
        exact hR _ _ _ _ _ (congrArg some e1) rfl (by rw [e2]; exact hP) hS dX4_areTwo_28
set_option maxHeartbeats 4000000 in
set_option maxRecDepth 100000 in
theorem cX4_mayTouch_k_15 {l : Launch} {D : va_G} {a : Nat → Nat} {k : Nat → ClassId} {p1 : Int32} {p2 : Int32} {x0 xz : bq_S} {rz : Int32} (h : fX4_mayTouch  15 p1 p2 x0 = some (rz, xz)) : bq_M l D bq_cl (bq_ty k) (bq_wC a k) yX4_mayTouch cX4_mayTouch 3 (some .boolean) { frames := 1, cells := 0, slots := 0, locals := 21 } [.ref (a 15), .int p1, .int p2] x0 (some rz) xz := by
  refine bq_ofW RX4 [(0, .ref (a 15)), (1, .int p1), (2, .int p2)] (by decide +kernel) rfl (Nat.le_of_ble_eq_true rfl) rfl (bq_adC a k) ?_
  intro p e s m below meth c A Q ls S hK hD hA hR hS hP hl
  have hx := S.1; have hb := S.2.1; have hml := S.2.2.1; have hown := S.2.2.2.1; have hts := S.2.2.2.2
  have hret : ∀ z, some z = some (rz, xz) → (rz, xz) = z := fun z h => (Option.some.inj h).symm
  unfold fX4_mayTouch at h
  refine lv_aload_n hx hb dX4_mayTouch_0 rfl (lv_at hl 0 rfl) ?_
  refine bq_get (q0 := 15) S hK hP fl_X4_28_X4_5 rfl rfl rfl dX4_mayTouch_1 ?_
  refine lv_iload_n hx hb dX4_mayTouch_4 rfl (lv_at hl 1 rfl) ?_
  obtain ⟨g1, h⟩ := bq_gd h
  refine va_iald (D := D) hx hb hK hP 18 0 rfl rfl g1 dX4_mayTouch_5 ?_
  refine lv_iload_n hx hb dX4_mayTouch_6 rfl (lv_at hl 2 rfl) ?_
  obtain ⟨o2, ho2, h⟩ := Option.bind_eq_some_iff.mp h
  obtain ⟨v4, x3⟩ := o2
  replace h := un2_e h
  refine bq_callSNi (As := [.int _, .int _]) S hK hD hA hP hS (cX9_has_k ho2) hd_yX9_has mn_X4_62 st_yX9_has ⟨rfl, rfl⟩ ⟨by decide, by decide⟩ rfl hl.1 rfl (Nat.le_of_ble_eq_true rfl) ⟨Nat.zero_le _, Nat.zero_le _⟩ dX4_mayTouch_7 (fun H locs hP hS => ?_)
  refine lv_if_eq (tgt := 15) hx hb dX4_mayTouch_10 (by decide) (fun c5 => ?_) (fun c5 => ?_)
  · replace h := (if_pos c5).symm.trans h
    refine lv_aload_n hx hb dX4_mayTouch_15 rfl (lv_at hl 0 rfl) ?_
    refine bq_get (q0 := 15) S hK hP fl_X4_15_X4_1 rfl rfl rfl dX4_mayTouch_16 ?_
    refine lv_iload_n hx hb dX4_mayTouch_19 rfl (lv_at hl 1 rfl) ?_
    obtain ⟨o6, ho6, h⟩ := Option.bind_eq_some_iff.mp h
    obtain ⟨v8, x7⟩ := o6
    replace h := un2_e h
    refine bq_callSNi (As := [.int _, .int _]) S hK hD hA hP hS (cX9_has_k ho6) hd_yX9_has mn_X4_62 st_yX9_has ⟨rfl, rfl⟩ ⟨by decide, by decide⟩ rfl hl.1 rfl (Nat.le_of_ble_eq_true rfl) ⟨Nat.zero_le _, Nat.zero_le _⟩ dX4_mayTouch_20 (fun H locs hP hS => ?_)
    refine lv_if_ne (tgt := 37) hx hb dX4_mayTouch_23 (by decide) (fun c9 => ?_) (fun c9 => ?_)
    · replace h := (if_neg c9).symm.trans h
      refine lv_iconst (v := (1 : Int32)) hx hb dX4_mayTouch_37 (by decide) ?_
      obtain ⟨e1, e2⟩ := Prod.mk.inj (hret _ h)
      exact hR _ _ _ _ _ (congrArg some e1) rfl (by rw [e2]; exact hP) hS dX4_mayTouch_38
    · replace h := (if_pos c9).symm.trans h
      refine lv_aload_n hx hb dX4_mayTouch_26 rfl (lv_at hl 0 rfl) ?_
      refine bq_get (q0 := 15) S hK hP fl_X4_15_X4_1 rfl rfl rfl dX4_mayTouch_27 ?_
      refine lv_iload_n hx hb dX4_mayTouch_30 rfl (lv_at hl 2 rfl) ?_
      obtain ⟨o10, ho10, h⟩ := Option.bind_eq_some_iff.mp h
      obtain ⟨v12, x11⟩ := o10
      replace h := un2_e h
      refine bq_callSNi (As := [.int _, .int _]) S hK hD hA hP hS (cX9_has_k ho10) hd_yX9_has mn_X4_62 st_yX9_has ⟨rfl, rfl⟩ ⟨by decide, by decide⟩ rfl hl.1 rfl (Nat.le_of_ble_eq_true rfl) ⟨Nat.zero_le _, Nat.zero_le _⟩ dX4_mayTouch_31 (fun H locs hP hS => ?_)
      refine lv_if_eq (tgt := 39) hx hb dX4_mayTouch_34 (by decide) (fun c13 => ?_) (fun c13 => ?_)
      · replace h := (if_pos c13).symm.trans h
        refine lv_aload_n hx hb dX4_mayTouch_39 rfl (lv_at hl 0 rfl) ?_
        refine bq_get (q0 := 15) S hK hP fl_X4_25_X4_4 rfl rfl rfl dX4_mayTouch_40 ?_
        refine lv_iload_n hx hb dX4_mayTouch_43 rfl (lv_at hl 1 rfl) ?_
        obtain ⟨g14, h⟩ := bq_gd h
        refine va_iald (D := D) hx hb hK hP 17 0 rfl rfl g14 dX4_mayTouch_44 ?_
        refine lv_iload_n hx hb dX4_mayTouch_45 rfl (lv_at hl 2 rfl) ?_
        obtain ⟨o15, ho15, h⟩ := Option.bind_eq_some_iff.mp h
        obtain ⟨v17, x16⟩ := o15
        replace h := un2_e h
        refine bq_callSNi (As := [.int _, .int _]) S hK hD hA hP hS (cX9_has_k ho15) hd_yX9_has mn_X4_62 st_yX9_has ⟨rfl, rfl⟩ ⟨by decide, by decide⟩ rfl hl.1 rfl (Nat.le_of_ble_eq_true rfl) ⟨Nat.zero_le _, Nat.zero_le _⟩ dX4_mayTouch_46 (fun H locs hP hS => ?_)
        refine lv_if_ne (tgt := 65) hx hb dX4_mayTouch_49 (by decide) (fun c18 => ?_) (fun c18 => ?_)
        · replace h := (if_neg c18).symm.trans h
          refine lv_iconst (v := (1 : Int32)) hx hb dX4_mayTouch_65 (by decide) ?_
          obtain ⟨e1, e2⟩ := Prod.mk.inj (hret _ h)
          exact hR _ _ _ _ _ (congrArg some e1) rfl (by rw [e2]; exact hP) hS dX4_mayTouch_66
        · replace h := (if_pos c18).symm.trans h
          refine lv_aload_n hx hb dX4_mayTouch_52 rfl (lv_at hl 0 rfl) ?_
          refine bq_get (q0 := 15) S hK hP fl_X4_25_X4_4 rfl rfl rfl dX4_mayTouch_53 ?_
          refine lv_iload_n hx hb dX4_mayTouch_56 rfl (lv_at hl 2 rfl) ?_
          obtain ⟨g19, h⟩ := bq_gd h
          refine va_iald (D := D) hx hb hK hP 17 0 rfl rfl g19 dX4_mayTouch_57 ?_
          refine lv_iload_n hx hb dX4_mayTouch_58 rfl (lv_at hl 1 rfl) ?_
          obtain ⟨o20, ho20, h⟩ := Option.bind_eq_some_iff.mp h
          obtain ⟨v22, x21⟩ := o20
          replace h := un2_e h
          refine bq_callSNi (As := [.int _, .int _]) S hK hD hA hP hS (cX9_has_k ho20) hd_yX9_has mn_X4_62 st_yX9_has ⟨rfl, rfl⟩ ⟨by decide, by decide⟩ rfl hl.1 rfl (Nat.le_of_ble_eq_true rfl) ⟨Nat.zero_le _, Nat.zero_le _⟩ dX4_mayTouch_59 (fun H locs hP hS => ?_)
          refine lv_if_eq (tgt := 67) hx hb dX4_mayTouch_62 (by decide) (fun c23 => ?_) (fun c23 => ?_)
          · replace h := (if_pos c23).symm.trans h
            refine lv_aload_n hx hb dX4_mayTouch_67 rfl (lv_at hl 0 rfl) ?_
            refine bq_get (q0 := 15) S hK hP fl_X4_31_X4_6 rfl rfl rfl dX4_mayTouch_68 ?_
            refine lv_iconst (v := (1 : Int32)) hx hb dX4_mayTouch_71 (by decide) ?_
            refine va_iald (D := D) hx hb hK hP 19 0 rfl rfl (bq_inl rfl) dX4_mayTouch_72 ?_
            refine lv_iconst (v := (1 : Int32)) hx hb dX4_mayTouch_73 (by decide) ?_
            refine lv_icmp_ne (tgt := 97) hx hb dX4_mayTouch_74 (by decide) (fun c24 => ?_) (fun c24 => ?_)
            · replace h := (if_neg c24).symm.trans h
              refine lv_iconst (v := (0 : Int32)) hx hb dX4_mayTouch_97 (by decide) ?_
              obtain ⟨e1, e2⟩ := Prod.mk.inj (hret _ h)
              exact hR _ _ _ _ _ (congrArg some e1) rfl (by rw [e2]; exact hP) hS dX4_mayTouch_98
            · replace h := (if_pos c24).symm.trans h
              refine lv_aload_n hx hb dX4_mayTouch_77 rfl (lv_at hl 0 rfl) ?_
              refine bq_get (q0 := 15) S hK hP fl_X4_25_X4_4 rfl rfl rfl dX4_mayTouch_78 ?_
              refine lv_iload_n hx hb dX4_mayTouch_81 rfl (lv_at hl 1 rfl) ?_
              obtain ⟨g25, h⟩ := bq_gd h
              refine va_iald (D := D) hx hb hK hP 17 0 rfl rfl g25 dX4_mayTouch_82 ?_
              refine lv_aload_n hx hb dX4_mayTouch_83 rfl (lv_at hl 0 rfl) ?_
              refine bq_get (q0 := 15) S hK hP fl_X4_25_X4_4 rfl rfl rfl dX4_mayTouch_84 ?_
              refine lv_iload_n hx hb dX4_mayTouch_87 rfl (lv_at hl 2 rfl) ?_
              obtain ⟨g26, h⟩ := bq_gd h
              refine va_iald (D := D) hx hb hK hP 17 0 rfl rfl g26 dX4_mayTouch_88 ?_
              refine lv_iand hx hb dX4_mayTouch_89 ?_
              refine lv_if_eq (tgt := 97) hx hb dX4_mayTouch_90 (by decide) (fun c27 => ?_) (fun c27 => ?_)
              · replace h := (if_pos c27).symm.trans h
                refine lv_iconst (v := (0 : Int32)) hx hb dX4_mayTouch_97 (by decide) ?_
                obtain ⟨e1, e2⟩ := Prod.mk.inj (hret _ h)
                exact hR _ _ _ _ _ (congrArg some e1) rfl (by rw [e2]; exact hP) hS dX4_mayTouch_98
              · replace h := (if_neg c27).symm.trans h
                refine lv_iconst (v := (1 : Int32)) hx hb dX4_mayTouch_93 (by decide) ?_
                refine lv_goto (tgt := 98) hx hb dX4_mayTouch_94 (by decide) ?_
                obtain ⟨e1, e2⟩ := Prod.mk.inj (hret _ h)
                exact hR _ _ _ _ _ (congrArg some e1) rfl (by rw [e2]; exact hP) hS dX4_mayTouch_98
          · replace h := (if_neg c23).symm.trans h
            refine lv_iconst (v := (1 : Int32)) hx hb dX4_mayTouch_65 (by decide) ?_
            obtain ⟨e1, e2⟩ := Prod.mk.inj (hret _ h)
            exact hR _ _ _ _ _ (congrArg some e1) rfl (by rw [e2]; exact hP) hS dX4_mayTouch_66
      · replace h := (if_neg c13).symm.trans h
        refine lv_iconst (v := (1 : Int32)) hx hb dX4_mayTouch_37 (by decide) ?_
        obtain ⟨e1, e2⟩ := Prod.mk.inj (hret _ h)
        exact hR _ _ _ _ _ (congrArg some e1) rfl (by rw [e2]; exact hP) hS dX4_mayTouch_38
  · replace h := (if_neg c5).symm.trans h
    refine lv_iconst (v := (0 : Int32)) hx hb dX4_mayTouch_13 (by decide) ?_
    obtain ⟨e1, e2⟩ := Prod.mk.inj (hret _ h)
    exact hR _ _ _ _ _ (congrArg some e1) rfl (by rw [e2]; exact hP) hS dX4_mayTouch_14
set_option maxHeartbeats 4000000 in
set_option maxRecDepth 100000 in
theorem cX4_learnNear_k_15 {l : Launch} {D : va_G} {a : Nat → Nat} {k : Nat → ClassId} {n : Nat} {x0 xz : bq_S} (h : fX4_learnNear n 15 x0 = some xz) : bq_M l D bq_cl (bq_ty k) (bq_wC a k) yX4_learnNear cX4_learnNear 4 none { frames := 2, cells := 0, slots := 0, locals := 44 } [.ref (a 15)] x0 none xz := by
  refine bq_ofWv RX4 [(0, .ref (a 15))] (by decide +kernel) rfl (Nat.le_of_ble_eq_true rfl) rfl (bq_adC a k) ?_
  intro p e s m below meth c A Q ls S hK hD hA hR hS hP hl
  have hx := S.1; have hb := S.2.1; have hml := S.2.2.1; have hown := S.2.2.2.1; have hts := S.2.2.2.2
  have hret : ∀ z, some z = some xz → xz = z := fun z h => (Option.some.inj h).symm
  unfold fX4_learnNear at h
  refine lv_iconst (v := (0 : Int32)) hx hb dX4_learnNear_0 (by decide) ?_
  refine lv_istore_n (lv' := [(1, .int (0 : Int32)), (0, .ref (a 15))]) hx hb dX4_learnNear_1 rfl hl (by decide) rfl (fun ls hl => ?_)
  have hl2 : ∀ (kf : Nat) (v2 : Int32) (x3 : bq_S) (eo : Int32 × bq_S) (H : Heap) (locs : List Loc) (ls : Array Slot), wh kf (fX4_learnNear_b2 n 15) (v2, x3) = some eo → va_P D bq_cl (bq_wC a k x3) H → va_S A s.heap H locs → lv_has ls 4 [(0, .ref (a 15)), (1, .int v2)] → (∀ (H : Heap) (locs : List Loc) (ls : Array Slot) (v34 : Int32) (x35 : bq_S), eo = (v34, x35) → va_P D bq_cl (bq_wC a k x35) H → va_S A s.heap H locs → lv_has ls 4 [] → W p l e { frames := 2, cells := 0, slots := 0, locals := 44 } s m [.ref (a 15)].toArray below meth c H locs 0 0 Q (F0 m 62 ls [])) → W p l e { frames := 2, cells := 0, slots := 0, locals := 44 } s m [.ref (a 15)].toArray below meth c H locs 0 0 Q (F0 m 2 ls []) := by
    intro  kf
    induction kf with
    | zero => intro v2 x3 eo H locs ls h; cases h
    | succ kf ih =>
      intro v2 x3 eo H locs ls h hP hS hl kx
      obtain ⟨out, h, hw⟩ := wh_s h
      unfold fX4_learnNear_b2 at h
      replace h := un2_e h
      refine lv_iload_n hx hb dX4_learnNear_2 rfl (lv_at hl 1 rfl) ?_
      refine lv_bipush (v := (8 : Int32)) hx hb dX4_learnNear_3 (by decide) ?_
      refine lv_icmp_ge (tgt := 62) hx hb dX4_learnNear_5 (by decide) (fun c4 => ?_) (fun c4 => ?_)
      · replace h := (if_pos c4).symm.trans h
        cases h
        exact kx _ _ _ _ _ (Option.some.inj hw).symm hP hS (lv_sub hl [] rfl)
      · replace h := (if_neg c4).symm.trans h
        refine lv_iconst (v := (0 : Int32)) hx hb dX4_learnNear_8 (by decide) ?_
        refine lv_istore_n (lv' := [(2, .int (0 : Int32)), (0, .ref (a 15)), (1, .int v2)]) hx hb dX4_learnNear_9 rfl hl (by decide) rfl (fun ls hl => ?_)
        refine lv_iconst (v := (0 : Int32)) hx hb dX4_learnNear_10 (by decide) ?_
        refine lv_istore_n (lv' := [(3, .int (0 : Int32)), (2, .int (0 : Int32)), (0, .ref (a 15)), (1, .int v2)]) hx hb dX4_learnNear_11 rfl hl (by decide) rfl (fun ls hl => ?_)
        have hl12 : ∀ (v6 : Int32) (kf : Nat) (v7 : Int32) (v8 : Int32) (x9 : bq_S) (eo : Int32 × Int32 × bq_S) (H : Heap) (locs : List Loc) (ls : Array Slot), wh kf (fX4_learnNear_b12 n 15 v6) (v7, v8, x9) = some eo → va_P D bq_cl (bq_wC a k x9) H → va_S A s.heap H locs → lv_has ls 4 [(0, .ref (a 15)), (1, .int v6), (2, .int v7), (3, .int v8)] → (∀ (H : Heap) (locs : List Loc) (ls : Array Slot) (v27 : Int32) (v28 : Int32) (x29 : bq_S), eo = (v27, v28, x29) → va_P D bq_cl (bq_wC a k x29) H → va_S A s.heap H locs → lv_has ls 4 [(0, .ref (a 15)), (1, .int v6), (2, .int v27)] → W p l e { frames := 2, cells := 0, slots := 0, locals := 44 } s m [.ref (a 15)].toArray below meth c H locs 0 0 Q (F0 m 49 ls [])) → W p l e { frames := 2, cells := 0, slots := 0, locals := 44 } s m [.ref (a 15)].toArray below meth c H locs 0 0 Q (F0 m 12 ls []) := by
          intro v6 kf
          induction kf with
          | zero => intro v7 v8 x9 eo H locs ls h; cases h
          | succ kf ih =>
            intro v7 v8 x9 eo H locs ls h hP hS hl kx
            obtain ⟨out, h, hw⟩ := wh_s h
            unfold fX4_learnNear_b12 at h
            replace h := un3_e h
            refine lv_iload_n hx hb dX4_learnNear_12 rfl (lv_at hl 3 rfl) ?_
            refine lv_bipush (v := (8 : Int32)) hx hb dX4_learnNear_13 (by decide) ?_
            refine lv_icmp_ge (tgt := 49) hx hb dX4_learnNear_15 (by decide) (fun c10 => ?_) (fun c10 => ?_)
            · replace h := (if_pos c10).symm.trans h
              cases h
              exact kx _ _ _ _ _ _ (Option.some.inj hw).symm hP hS (lv_sub hl [0, 1, 2] rfl)
            · replace h := (if_neg c10).symm.trans h
              refine lv_aload_n hx hb dX4_learnNear_18 rfl (lv_at hl 0 rfl) ?_
              refine lv_iload_n hx hb dX4_learnNear_19 rfl (lv_at hl 1 rfl) ?_
              refine lv_iload_n hx hb dX4_learnNear_20 rfl (lv_at hl 3 rfl) ?_
              obtain ⟨o11, ho11, h⟩ := Option.bind_eq_some_iff.mp h
              obtain ⟨v13, x12⟩ := o11
              replace h := un2_e h
              refine bq_callVi (q0 := 15) (As := [.int _, .int _]) S hK hD hA hP hS (cX4_areTwo_k_15 ho11) hd_yX4_areTwo ml_X4_74 in_yX4_areTwo (hts _ sl_X4_X4_yX4_areTwo) ⟨rfl, rfl⟩ ⟨by decide, by decide⟩ rfl rfl rfl hl.1 rfl (Nat.le_of_ble_eq_true rfl) ⟨Nat.zero_le _, Nat.zero_le _⟩ dX4_learnNear_21 (fun H locs hP hS => ?_)
              refine lv_if_eq (tgt := 43) hx hb dX4_learnNear_24 (by decide) (fun c14 => ?_) (fun c14 => ?_)
              · replace h := (if_pos c14).symm.trans h
                obtain ⟨v15, hv15, h⟩ := bq_b h
                refine lv_iinc (v := v15) (lv' := [(3, .int v15), (0, .ref (a 15)), (1, .int v6), (2, .int v7)]) hx hb dX4_learnNear_43 hl (k := 3) rfl (by rw [hv15]; rfl) (by decide) rfl (fun ls hl => ?_)
                refine lv_goto (tgt := 12) hx hb dX4_learnNear_46 (by decide) ?_
                cases h
                exact ih _ _ _ _ _ _ _ hw hP hS (lv_sub hl [1, 2, 3, 0] rfl) kx
              · replace h := (if_neg c14).symm.trans h
                refine lv_aload_n hx hb dX4_learnNear_27 rfl (lv_at hl 0 rfl) ?_
                refine lv_iload_n hx hb dX4_learnNear_28 rfl (lv_at hl 1 rfl) ?_
                refine lv_iload_n hx hb dX4_learnNear_29 rfl (lv_at hl 3 rfl) ?_
                obtain ⟨o16, ho16, h⟩ := Option.bind_eq_some_iff.mp h
                obtain ⟨v18, x17⟩ := o16
                replace h := un2_e h
                refine bq_callVi (q0 := 15) (As := [.int _, .int _]) S hK hD hA hP hS (cX4_mayTouch_k_15 ho16) hd_yX4_mayTouch ml_X4_77 in_yX4_mayTouch (hts _ sl_X4_X4_yX4_mayTouch) ⟨rfl, rfl⟩ ⟨by decide, by decide⟩ rfl rfl rfl hl.1 rfl (Nat.le_of_ble_eq_true rfl) ⟨Nat.zero_le _, Nat.zero_le _⟩ dX4_learnNear_30 (fun H locs hP hS => ?_)
                refine lv_if_eq (tgt := 43) hx hb dX4_learnNear_33 (by decide) (fun c19 => ?_) (fun c19 => ?_)
                · replace h := (if_pos c19).symm.trans h
                  obtain ⟨v20, hv20, h⟩ := bq_b h
                  refine lv_iinc (v := v20) (lv' := [(3, .int v20), (0, .ref (a 15)), (1, .int v6), (2, .int v7)]) hx hb dX4_learnNear_43 hl (k := 3) rfl (by rw [hv20]; rfl) (by decide) rfl (fun ls hl => ?_)
                  refine lv_goto (tgt := 12) hx hb dX4_learnNear_46 (by decide) ?_
                  cases h
                  exact ih _ _ _ _ _ _ _ hw hP hS (lv_sub hl [1, 2, 3, 0] rfl) kx
                · replace h := (if_neg c19).symm.trans h
                  refine lv_iload_n hx hb dX4_learnNear_36 rfl (lv_at hl 2 rfl) ?_
                  refine lv_iload_n hx hb dX4_learnNear_37 rfl (lv_at hl 3 rfl) ?_
                  obtain ⟨o21, ho21, h⟩ := Option.bind_eq_some_iff.mp h
                  obtain ⟨v23, x22⟩ := o21
                  replace h := un2_e h
                  refine bq_callSNi (As := [.int _]) S hK hD hA hP hS (cX9_bit_k ho21) hd_yX9_bit mn_X4_70 st_yX9_bit ⟨rfl, rfl⟩ ⟨by decide, by decide⟩ rfl hl.1 rfl (Nat.le_of_ble_eq_true rfl) ⟨Nat.zero_le _, Nat.zero_le _⟩ dX4_learnNear_38 (fun H locs hP hS => ?_)
                  refine lv_ior hx hb dX4_learnNear_41 ?_
                  refine lv_topi (fun v24 hv24 => ?_)
                  replace h := bq_bv h hv24
                  refine lv_istore_n (lv' := [(2, .int v24), (0, .ref (a 15)), (1, .int v6), (3, .int v8)]) hx hb dX4_learnNear_42 rfl hl (by decide) rfl (fun ls hl => ?_)
                  obtain ⟨v25, hv25, h⟩ := bq_b h
                  refine lv_iinc (v := v25) (lv' := [(3, .int v25), (2, .int v24), (0, .ref (a 15)), (1, .int v6)]) hx hb dX4_learnNear_43 hl (k := 3) rfl (by rw [hv25]; rfl) (by decide) rfl (fun ls hl => ?_)
                  refine lv_goto (tgt := 12) hx hb dX4_learnNear_46 (by decide) ?_
                  cases h
                  exact ih _ _ _ _ _ _ _ hw hP hS (lv_sub hl [2, 3, 1, 0] rfl) kx
        obtain ⟨e26, he26, h⟩ := Option.bind_eq_some_iff.mp h
        refine hl12 _ n _ _ _ e26 _ _ _ he26 hP hS (lv_sub hl [2, 3, 1, 0] rfl) (fun H locs ls v27 v28 x29 hz hP hS hl => ?_)
        subst hz
        replace h := un3_e h
        refine lv_aload_n hx hb dX4_learnNear_49 rfl (lv_at hl 0 rfl) ?_
        refine bq_get (q0 := 15) S hK hP fl_X4_37_X4_8 rfl rfl rfl dX4_learnNear_50 ?_
        refine lv_iload_n hx hb dX4_learnNear_53 rfl (lv_at hl 1 rfl) ?_
        refine lv_iload_n hx hb dX4_learnNear_54 rfl (lv_at hl 2 rfl) ?_
        obtain ⟨g31, h⟩ := bq_gd h
        obtain ⟨x30, hx30, h⟩ := bq_b h
        refine bq_iast (x1 := x30) (q0 := 21) (t0 := 0) S hK hD hP hS rfl rfl g31 (by rw [hx30]; rfl) dX4_learnNear_55 (fun H locs hP hS => ?_)
        obtain ⟨v32, hv32, h⟩ := bq_b h
        refine lv_iinc (v := v32) (lv' := [(1, .int v32), (0, .ref (a 15)), (2, .int v27)]) hx hb dX4_learnNear_56 hl (k := 1) rfl (by rw [hv32]; rfl) (by decide) rfl (fun ls hl => ?_)
        refine lv_goto (tgt := 2) hx hb dX4_learnNear_59 (by decide) ?_
        cases h
        exact ih _ _ _ _ _ _ hw hP hS (lv_sub hl [1, 0] rfl) kx
  obtain ⟨e33, he33, h⟩ := Option.bind_eq_some_iff.mp h
  refine hl2 n _ _ e33 _ _ _ he33 hP hS (lv_sub hl [1, 0] rfl) (fun H locs ls v34 x35 hz hP hS hl => ?_)
  subst hz
  replace h := un2_e h
  have e2 := hret _ h
  exact hR _ _ _ _ rfl (by rw [e2]; exact hP) hS dX4_learnNear_62
set_option maxHeartbeats 4000000 in
set_option maxRecDepth 100000 in
theorem cX4_add_k_15 {l : Launch} {D : va_G} {a : Nat → Nat} {k : Nat → ClassId} {n : Nat} {p1 : Int32} {x0 xz : bq_S} {rz : Int32} (h : fX4_add n 15 p1 x0 = some (rz, xz)) : bq_M l D bq_cl (bq_ty k) (bq_wC a k) yX4_add cX4_add 2 (some .int) { frames := 3, cells := 0, slots := 0, locals := 67 } [.ref (a 15), .int p1] x0 (some rz) xz := by
  refine bq_ofW RX4 [(0, .ref (a 15)), (1, .int p1)] (by decide +kernel) rfl (Nat.le_of_ble_eq_true rfl) rfl (bq_adC a k) ?_
  intro p e s m below meth c A Q ls S hK hD hA hR hS hP hl
  have hx := S.1; have hb := S.2.1; have hml := S.2.2.1; have hown := S.2.2.2.1; have hts := S.2.2.2.2
  have hret : ∀ z, some z = some (rz, xz) → (rz, xz) = z := fun z h => (Option.some.inj h).symm
  unfold fX4_add at h
  refine lv_aload_n hx hb dX4_add_0 rfl (lv_at hl 0 rfl) ?_
  refine bq_get (q0 := 15) S hK hP fl_X4_21_X4_3 rfl rfl rfl dX4_add_1 ?_
  refine lv_aload_n hx hb dX4_add_4 rfl (lv_at hl 0 rfl) ?_
  refine bq_get (q0 := 15) S hK hP fl_X4_9_X4_0 rfl rfl rfl dX4_add_5 ?_
  refine lv_iload_n hx hb dX4_add_8 rfl (lv_at hl 1 rfl) ?_
  obtain ⟨g2, h⟩ := bq_gd h
  obtain ⟨x1, hx1, h⟩ := bq_b h
  refine bq_iast (x1 := x1) (q0 := 16) (t0 := 0) S hK hD hP hS rfl rfl g2 (by rw [hx1]; rfl) dX4_add_9 (fun H locs hP hS => ?_)
  refine lv_aload_n hx hb dX4_add_10 rfl (lv_at hl 0 rfl) ?_
  refine lv_dup hx hb dX4_add_11 rfl ?_
  refine bq_get (q0 := 15) S hK hP fl_X4_9_X4_0 rfl rfl rfl dX4_add_12 ?_
  refine lv_iconst (v := (1 : Int32)) hx hb dX4_add_15 (by decide) ?_
  refine lv_iadd hx hb dX4_add_16 ?_
  obtain ⟨x3, hx3, h⟩ := bq_b h
  refine bq_put (x1 := x3) (q0 := 15) (ty := .int) S hK hD hP hS fl_X4_9_X4_0 bt_X4 rfl (by decide +kernel) rfl rfl (Nat.le_of_ble_eq_true rfl) rfl rfl (by rw [hx3]; rfl) dX4_add_17 (fun H locs hP hS => ?_)
  refine lv_aload_n hx hb dX4_add_20 rfl (lv_at hl 0 rfl) ?_
  obtain ⟨x5, ho4, h⟩ := Option.bind_eq_some_iff.mp h
  refine bq_callVv (q0 := 15) (As := []) S hK hD hA hP hS (cX4_learnNear_k_15 ho4) hd_yX4_learnNear ml_X4_54 in_yX4_learnNear (hts _ sl_X4_X4_yX4_learnNear) ⟨rfl, rfl⟩ ⟨by decide, by decide⟩ rfl rfl rfl hl.1 rfl (Nat.le_of_ble_eq_true rfl) ⟨Nat.zero_le _, Nat.zero_le _⟩ dX4_add_21 (fun H locs hP hS => ?_)
  refine lv_aload_n hx hb dX4_add_24 rfl (lv_at hl 0 rfl) ?_
  refine bq_get (q0 := 15) S hK hP fl_X4_9_X4_0 rfl rfl rfl dX4_add_25 ?_
  refine lv_iconst (v := (1 : Int32)) hx hb dX4_add_28 (by decide) ?_
  refine lv_isub hx hb dX4_add_29 ?_
  obtain ⟨e1, e2⟩ := Prod.mk.inj (hret _ h)
  exact hR _ _ _ _ _ (congrArg some e1) rfl (by rw [e2]; exact hP) hS dX4_add_30
def fX7_readQuoted_j45 (n : Nat) (v15 : Int32) (x16 : bq_S) : Option ((Int32 × Int32 × bq_S) ⊕ ((Int32 × Int32 × bq_S) ⊕ (Int32 × bq_S))) :=
  if v15 ≤ 0 then
  some (.inr (.inr ((0 : Int32), x16)))
  else
  some (.inr (.inr ((1 : Int32), x16)))
def fX7_readQuoted_b8 (n : Nat) (r4 : Nat) (v5 : Int32) (v : Int32 × Int32 × bq_S) : Option ((Int32 × Int32 × bq_S) ⊕ ((Int32 × Int32 × bq_S) ⊕ (Int32 × bq_S))) :=
  un3 v (fun v6 v7 x8 =>
  if (8 : Int32) ≤ v7 then
  some (.inr (.inl (v6, v7, x8)))
  else
  (fX7_look n  x8).bind (fun o10 => un2 o10 (fun v12 x11 =>
  bd (v12 - (48 : Int32)) (fun v13 =>
  if v13 < 0 then
  fX7_readQuoted_j45 n v7 x11
  else
  if (8 : Int32) ≤ v13 then
  fX7_readQuoted_j45 n v7 x11
  else
  (fX9_has v6 v13 x11).bind (fun o19 => un2 o19 (fun v21 x20 =>
  if v21 = 0 then
  (fX9_bit v13 x20).bind (fun o23 => un2 o23 (fun v25 x24 =>
  bd (v6 ||| v25) (fun v26 =>
  if ok_i v5 8 then
  (fX9_bit v13 x24).bind (fun o28 => un2 o28 (fun v30 x29 =>
  if ok_i v5 8 then
  bd (bq_sI x29 (r4 + 2) v5.toNatClampNeg ((x24.1 (r4 + 2) v5.toNatClampNeg) ||| v30)) (fun x31 =>
  if ok_i v13 8 then
  if ok_i v13 8 then
  bd (bq_sI x31 24 v13.toNatClampNeg (if (x31.1 22 3) < (x31.1 24 v13.toNatClampNeg) then (x31.1 22 3) else (x31.1 24 v13.toNatClampNeg))) (fun x34 =>
  bd (bq_sI x34 22 3 ((x34.1 22 3) + (1 : Int32))) (fun x36 =>
  bd (v7 + (1 : Int32)) (fun v37 =>
  some (.inl (v26, v37, x36)))))
  else none
  else none)
  else none))
  else none)))
  else
  fX7_readQuoted_j45 n v7 x20))))))
def fX7_readQuoted (n : Nat) (q1 : Nat) (p2 : Int32) (x0 : bq_S) : Option (Int32 × bq_S) :=
  (fX9_bit p2 x0).bind (fun o1 => un2 o1 (fun v3 x2 =>
  (wh n (fX7_readQuoted_b8 n q1 p2) (v3, (0 : Int32), x2)).bind (fun e38 =>
  Sum.elim (fun z => un3 z (fun v39 v40 x41 =>
  some ((1 : Int32), x41))) (fun z => some z) e38)))
theorem dX7_readQuoted_0 : decode cX7_readQuoted 0 = .ok (.iload_n 2, 1) := by decide +kernel
theorem dX7_readQuoted_1 : decode cX7_readQuoted 1 = .ok (.invokestatic 66, 3) := by decide +kernel
theorem dX7_readQuoted_4 : decode cX7_readQuoted 4 = .ok (.istore_n 3, 1) := by decide +kernel
theorem dX7_readQuoted_5 : decode cX7_readQuoted 5 = .ok (.iconst 0, 1) := by decide +kernel
theorem dX7_readQuoted_6 : decode cX7_readQuoted 6 = .ok (.istore 4, 2) := by decide +kernel
theorem dX7_readQuoted_8 : decode cX7_readQuoted 8 = .ok (.iload 4, 2) := by decide +kernel
theorem dX7_readQuoted_10 : decode cX7_readQuoted 10 = .ok (.bipush 8, 2) := by decide +kernel
theorem dX7_readQuoted_12 : decode cX7_readQuoted 12 = .ok (.if_icmp .ge 103, 3) := by decide +kernel
theorem dX7_readQuoted_15 : decode cX7_readQuoted 15 = .ok (.aload_n 0, 1) := by decide +kernel
theorem dX7_readQuoted_16 : decode cX7_readQuoted 16 = .ok (.invokevirtual 45, 3) := by decide +kernel
theorem dX7_readQuoted_19 : decode cX7_readQuoted 19 = .ok (.bipush 48, 2) := by decide +kernel
theorem dX7_readQuoted_21 : decode cX7_readQuoted 21 = .ok (.isub, 1) := by decide +kernel
theorem dX7_readQuoted_22 : decode cX7_readQuoted 22 = .ok (.istore 5, 2) := by decide +kernel
theorem dX7_readQuoted_24 : decode cX7_readQuoted 24 = .ok (.iload 5, 2) := by decide +kernel
theorem dX7_readQuoted_26 : decode cX7_readQuoted 26 = .ok (.ifCond .lt 19, 3) := by decide +kernel
theorem dX7_readQuoted_29 : decode cX7_readQuoted 29 = .ok (.iload 5, 2) := by decide +kernel
theorem dX7_readQuoted_31 : decode cX7_readQuoted 31 = .ok (.bipush 8, 2) := by decide +kernel
theorem dX7_readQuoted_33 : decode cX7_readQuoted 33 = .ok (.if_icmp .ge 12, 3) := by decide +kernel
theorem dX7_readQuoted_36 : decode cX7_readQuoted 36 = .ok (.iload_n 3, 1) := by decide +kernel
theorem dX7_readQuoted_37 : decode cX7_readQuoted 37 = .ok (.iload 5, 2) := by decide +kernel
theorem dX7_readQuoted_39 : decode cX7_readQuoted 39 = .ok (.invokestatic 69, 3) := by decide +kernel
theorem dX7_readQuoted_42 : decode cX7_readQuoted 42 = .ok (.ifCond .eq 14, 3) := by decide +kernel
theorem dX7_readQuoted_45 : decode cX7_readQuoted 45 = .ok (.iload 4, 2) := by decide +kernel
theorem dX7_readQuoted_47 : decode cX7_readQuoted 47 = .ok (.ifCond .le 7, 3) := by decide +kernel
theorem dX7_readQuoted_50 : decode cX7_readQuoted 50 = .ok (.iconst 1, 1) := by decide +kernel
theorem dX7_readQuoted_51 : decode cX7_readQuoted 51 = .ok (.goto 4, 3) := by decide +kernel
theorem dX7_readQuoted_54 : decode cX7_readQuoted 54 = .ok (.iconst 0, 1) := by decide +kernel
theorem dX7_readQuoted_55 : decode cX7_readQuoted 55 = .ok (.ireturn, 1) := by decide +kernel
theorem dX7_readQuoted_56 : decode cX7_readQuoted 56 = .ok (.iload_n 3, 1) := by decide +kernel
theorem dX7_readQuoted_57 : decode cX7_readQuoted 57 = .ok (.iload 5, 2) := by decide +kernel
theorem dX7_readQuoted_59 : decode cX7_readQuoted 59 = .ok (.invokestatic 66, 3) := by decide +kernel
theorem dX7_readQuoted_62 : decode cX7_readQuoted 62 = .ok (.ior, 1) := by decide +kernel
theorem dX7_readQuoted_63 : decode cX7_readQuoted 63 = .ok (.istore_n 3, 1) := by decide +kernel
theorem dX7_readQuoted_64 : decode cX7_readQuoted 64 = .ok (.aload_n 1, 1) := by decide +kernel
theorem dX7_readQuoted_65 : decode cX7_readQuoted 65 = .ok (.getfield 73, 3) := by decide +kernel
theorem dX7_readQuoted_68 : decode cX7_readQuoted 68 = .ok (.iload_n 2, 1) := by decide +kernel
theorem dX7_readQuoted_69 : decode cX7_readQuoted 69 = .ok (.dup2, 1) := by decide +kernel
theorem dX7_readQuoted_70 : decode cX7_readQuoted 70 = .ok (.iaload, 1) := by decide +kernel
theorem dX7_readQuoted_71 : decode cX7_readQuoted 71 = .ok (.iload 5, 2) := by decide +kernel
theorem dX7_readQuoted_73 : decode cX7_readQuoted 73 = .ok (.invokestatic 66, 3) := by decide +kernel
theorem dX7_readQuoted_76 : decode cX7_readQuoted 76 = .ok (.ior, 1) := by decide +kernel
theorem dX7_readQuoted_77 : decode cX7_readQuoted 77 = .ok (.iastore, 1) := by decide +kernel
theorem dX7_readQuoted_78 : decode cX7_readQuoted 78 = .ok (.aload_n 0, 1) := by decide +kernel
theorem dX7_readQuoted_79 : decode cX7_readQuoted 79 = .ok (.getfield 15, 3) := by decide +kernel
theorem dX7_readQuoted_82 : decode cX7_readQuoted 82 = .ok (.iload 5, 2) := by decide +kernel
theorem dX7_readQuoted_84 : decode cX7_readQuoted 84 = .ok (.aload_n 0, 1) := by decide +kernel
theorem dX7_readQuoted_85 : decode cX7_readQuoted 85 = .ok (.getfield 15, 3) := by decide +kernel
theorem dX7_readQuoted_88 : decode cX7_readQuoted 88 = .ok (.iload 5, 2) := by decide +kernel
theorem dX7_readQuoted_90 : decode cX7_readQuoted 90 = .ok (.iaload, 1) := by decide +kernel
theorem dX7_readQuoted_91 : decode cX7_readQuoted 91 = .ok (.aload_n 0, 1) := by decide +kernel
theorem dX7_readQuoted_92 : decode cX7_readQuoted 92 = .ok (.getfield 23, 3) := by decide +kernel
theorem dX7_readQuoted_95 : decode cX7_readQuoted 95 = .ok (.invokestatic 76, 3) := by decide +kernel
theorem dX7_readQuoted_98 : decode cX7_readQuoted 98 = .ok (.iastore, 1) := by decide +kernel
theorem dX7_readQuoted_99 : decode cX7_readQuoted 99 = .ok (.aload_n 0, 1) := by decide +kernel
theorem dX7_readQuoted_100 : decode cX7_readQuoted 100 = .ok (.dup, 1) := by decide +kernel
theorem dX7_readQuoted_101 : decode cX7_readQuoted 101 = .ok (.getfield 23, 3) := by decide +kernel
theorem dX7_readQuoted_104 : decode cX7_readQuoted 104 = .ok (.iconst 1, 1) := by decide +kernel
theorem dX7_readQuoted_105 : decode cX7_readQuoted 105 = .ok (.iadd, 1) := by decide +kernel
theorem dX7_readQuoted_106 : decode cX7_readQuoted 106 = .ok (.putfield 23, 3) := by decide +kernel
theorem dX7_readQuoted_109 : decode cX7_readQuoted 109 = .ok (.iinc 4 1, 3) := by decide +kernel
theorem dX7_readQuoted_112 : decode cX7_readQuoted 112 = .ok (.goto (-104), 3) := by decide +kernel
theorem dX7_readQuoted_115 : decode cX7_readQuoted 115 = .ok (.iconst 1, 1) := by decide +kernel
theorem dX7_readQuoted_116 : decode cX7_readQuoted 116 = .ok (.ireturn, 1) := by decide +kernel
set_option maxHeartbeats 4000000 in
set_option maxRecDepth 100000 in
theorem cX7_readQuoted_k_22_15 {l : Launch} {D : va_G} {a : Nat → Nat} {k : Nat → ClassId} {n : Nat} {p2 : Int32} {x0 xz : bq_S} {rz : Int32} (h : fX7_readQuoted n 15 p2 x0 = some (rz, xz)) : bq_M l D bq_cl (bq_ty k) (bq_wC a k) yX7_readQuoted cX7_readQuoted 6 (some .boolean) { frames := 1, cells := 0, slots := 0, locals := 21 } [.ref (a 22), .ref (a 15), .int p2] x0 (some rz) xz := by
  refine bq_ofW RX7 [(0, .ref (a 22)), (1, .ref (a 15)), (2, .int p2)] (by decide +kernel) rfl (Nat.le_of_ble_eq_true rfl) rfl (bq_adC a k) ?_
  intro p e s m below meth c A Q ls S hK hD hA hR hS hP hl
  have hx := S.1; have hb := S.2.1; have hml := S.2.2.1; have hown := S.2.2.2.1; have hts := S.2.2.2.2
  have hret : ∀ z, some z = some (rz, xz) → (rz, xz) = z := fun z h => (Option.some.inj h).symm
  unfold fX7_readQuoted at h
  refine lv_iload_n hx hb dX7_readQuoted_0 rfl (lv_at hl 2 rfl) ?_
  obtain ⟨o1, ho1, h⟩ := Option.bind_eq_some_iff.mp h
  obtain ⟨v3, x2⟩ := o1
  replace h := un2_e h
  refine bq_callSNi (As := [.int _]) S hK hD hA hP hS (cX9_bit_k ho1) hd_yX9_bit mn_X7_66 st_yX9_bit ⟨rfl, rfl⟩ ⟨by decide, by decide⟩ rfl hl.1 rfl (Nat.le_of_ble_eq_true rfl) ⟨Nat.zero_le _, Nat.zero_le _⟩ dX7_readQuoted_1 (fun H locs hP hS => ?_)
  refine lv_istore_n (lv' := [(3, .int v3), (0, .ref (a 22)), (1, .ref (a 15)), (2, .int p2)]) hx hb dX7_readQuoted_4 rfl hl (by decide) rfl (fun ls hl => ?_)
  refine lv_iconst (v := (0 : Int32)) hx hb dX7_readQuoted_5 (by decide) ?_
  refine lv_istore (lv' := [(4, .int (0 : Int32)), (3, .int v3), (0, .ref (a 22)), (1, .ref (a 15)), (2, .int p2)]) hx hb dX7_readQuoted_6 hl (by decide) rfl (fun ls hl => ?_)
  have hl8 : ∀ (v5 : Int32) (kf : Nat) (v6 : Int32) (v7 : Int32) (x8 : bq_S) (eo : (Int32 × Int32 × bq_S) ⊕ (Int32 × bq_S)) (H : Heap) (locs : List Loc) (ls : Array Slot), wh kf (fX7_readQuoted_b8 n 15 v5) (v6, v7, x8) = some eo → va_P D bq_cl (bq_wC a k x8) H → va_S A s.heap H locs → lv_has ls 6 [(0, .ref (a 22)), (1, .ref (a 15)), (2, .int v5), (3, .int v6), (4, .int v7)] → (∀ (H : Heap) (locs : List Loc) (ls : Array Slot) (v39 : Int32) (v40 : Int32) (x41 : bq_S), eo = .inl (v39, v40, x41) → va_P D bq_cl (bq_wC a k x41) H → va_S A s.heap H locs → lv_has ls 6 [] → W p l e { frames := 1, cells := 0, slots := 0, locals := 21 } s m [.ref (a 22), .ref (a 15), .int p2].toArray below meth c H locs 0 0 Q (F0 m 115 ls [])) → (∀ z, eo = .inr z → (rz, xz) = z) → W p l e { frames := 1, cells := 0, slots := 0, locals := 21 } s m [.ref (a 22), .ref (a 15), .int p2].toArray below meth c H locs 0 0 Q (F0 m 8 ls []) := by
    intro v5 kf
    induction kf with
    | zero => intro v6 v7 x8 eo H locs ls h; cases h
    | succ kf ih =>
      intro v6 v7 x8 eo H locs ls h hP hS hl kx kr
      obtain ⟨out, h, hw⟩ := wh_s h
      have hret : ∀ z, (some (.inr (.inr z)) : Option ((Int32 × Int32 × bq_S) ⊕ ((Int32 × Int32 × bq_S) ⊕ (Int32 × bq_S)))) = some out → (rz, xz) = z := fun z h => kr z (by cases h; exact (Option.some.inj hw).symm)
      unfold fX7_readQuoted_b8 at h
      replace h := un3_e h
      have hj45 : ∀ (v15 : Int32) (x16 : bq_S) (H : Heap) (locs : List Loc) (ls : Array Slot), fX7_readQuoted_j45 n v15 x16 = some out → va_P D bq_cl (bq_wC a k x16) H → va_S A s.heap H locs → lv_has ls 6 [(4, .int v15)] → W p l e { frames := 1, cells := 0, slots := 0, locals := 21 } s m [.ref (a 22), .ref (a 15), .int p2].toArray below meth c H locs 0 0 Q (F0 m 45 ls []) := by
        intro v15 x16 H locs ls h hP hS hl
        unfold fX7_readQuoted_j45 at h
        refine lv_iload hx hb dX7_readQuoted_45 (lv_at hl 0 rfl) ?_
        refine lv_if_le (tgt := 54) hx hb dX7_readQuoted_47 (by decide) (fun c17 => ?_) (fun c17 => ?_)
        · replace h := (if_pos c17).symm.trans h
          refine lv_iconst (v := (0 : Int32)) hx hb dX7_readQuoted_54 (by decide) ?_
          obtain ⟨e1, e2⟩ := Prod.mk.inj (hret _ h)
          exact hR _ _ _ _ _ (congrArg some e1) rfl (by rw [e2]; exact hP) hS dX7_readQuoted_55
        · replace h := (if_neg c17).symm.trans h
          refine lv_iconst (v := (1 : Int32)) hx hb dX7_readQuoted_50 (by decide) ?_
          refine lv_goto (tgt := 55) hx hb dX7_readQuoted_51 (by decide) ?_
          obtain ⟨e1, e2⟩ := Prod.mk.inj (hret _ h)
          exact hR _ _ _ _ _ (congrArg some e1) rfl (by rw [e2]; exact hP) hS dX7_readQuoted_55
      refine lv_iload hx hb dX7_readQuoted_8 (lv_at hl 4 rfl) ?_
      refine lv_bipush (v := (8 : Int32)) hx hb dX7_readQuoted_10 (by decide) ?_
      refine lv_icmp_ge (tgt := 115) hx hb dX7_readQuoted_12 (by decide) (fun c9 => ?_) (fun c9 => ?_)
      · replace h := (if_pos c9).symm.trans h
        cases h
        exact kx _ _ _ _ _ _ (Option.some.inj hw).symm hP hS (lv_sub hl [] rfl)
      · replace h := (if_neg c9).symm.trans h
        refine lv_aload_n hx hb dX7_readQuoted_15 rfl (lv_at hl 0 rfl) ?_
        obtain ⟨o10, ho10, h⟩ := Option.bind_eq_some_iff.mp h
        obtain ⟨v12, x11⟩ := o10
        replace h := un2_e h
        refine bq_callVi (q0 := 22) (As := []) S hK hD hA hP hS (cX7_look_k_22 ho10) hd_yX7_look ml_X7_45 in_yX7_look (hts _ sl_X7_X7_yX7_look) ⟨rfl, rfl⟩ ⟨by decide, by decide⟩ rfl rfl rfl hl.1 rfl (Nat.le_of_ble_eq_true rfl) ⟨Nat.zero_le _, Nat.zero_le _⟩ dX7_readQuoted_16 (fun H locs hP hS => ?_)
        refine lv_bipush (v := (48 : Int32)) hx hb dX7_readQuoted_19 (by decide) ?_
        refine lv_isub hx hb dX7_readQuoted_21 ?_
        refine lv_topi (fun v13 hv13 => ?_)
        replace h := bq_bv h hv13
        refine lv_istore (lv' := [(5, .int v13), (0, .ref (a 22)), (1, .ref (a 15)), (2, .int v5), (3, .int v6), (4, .int v7)]) hx hb dX7_readQuoted_22 hl (by decide) rfl (fun ls hl => ?_)
        refine lv_iload hx hb dX7_readQuoted_24 (lv_at hl 0 rfl) ?_
        refine lv_if_lt (tgt := 45) hx hb dX7_readQuoted_26 (by decide) (fun c14 => ?_) (fun c14 => ?_)
        · replace h := (if_pos c14).symm.trans h
          exact hj45 _ _ _ _ _ h hP hS (lv_sub hl [5] rfl)
        · replace h := (if_neg c14).symm.trans h
          refine lv_iload hx hb dX7_readQuoted_29 (lv_at hl 0 rfl) ?_
          refine lv_bipush (v := (8 : Int32)) hx hb dX7_readQuoted_31 (by decide) ?_
          refine lv_icmp_ge (tgt := 45) hx hb dX7_readQuoted_33 (by decide) (fun c18 => ?_) (fun c18 => ?_)
          · replace h := (if_pos c18).symm.trans h
            exact hj45 _ _ _ _ _ h hP hS (lv_sub hl [5] rfl)
          · replace h := (if_neg c18).symm.trans h
            refine lv_iload_n hx hb dX7_readQuoted_36 rfl (lv_at hl 4 rfl) ?_
            refine lv_iload hx hb dX7_readQuoted_37 (lv_at hl 0 rfl) ?_
            obtain ⟨o19, ho19, h⟩ := Option.bind_eq_some_iff.mp h
            obtain ⟨v21, x20⟩ := o19
            replace h := un2_e h
            refine bq_callSNi (As := [.int _, .int _]) S hK hD hA hP hS (cX9_has_k ho19) hd_yX9_has mn_X7_69 st_yX9_has ⟨rfl, rfl⟩ ⟨by decide, by decide⟩ rfl hl.1 rfl (Nat.le_of_ble_eq_true rfl) ⟨Nat.zero_le _, Nat.zero_le _⟩ dX7_readQuoted_39 (fun H locs hP hS => ?_)
            refine lv_if_eq (tgt := 56) hx hb dX7_readQuoted_42 (by decide) (fun c22 => ?_) (fun c22 => ?_)
            · replace h := (if_pos c22).symm.trans h
              refine lv_iload_n hx hb dX7_readQuoted_56 rfl (lv_at hl 4 rfl) ?_
              refine lv_iload hx hb dX7_readQuoted_57 (lv_at hl 0 rfl) ?_
              obtain ⟨o23, ho23, h⟩ := Option.bind_eq_some_iff.mp h
              obtain ⟨v25, x24⟩ := o23
              replace h := un2_e h
              refine bq_callSNi (As := [.int _]) S hK hD hA hP hS (cX9_bit_k ho23) hd_yX9_bit mn_X7_66 st_yX9_bit ⟨rfl, rfl⟩ ⟨by decide, by decide⟩ rfl hl.1 rfl (Nat.le_of_ble_eq_true rfl) ⟨Nat.zero_le _, Nat.zero_le _⟩ dX7_readQuoted_59 (fun H locs hP hS => ?_)
              refine lv_ior hx hb dX7_readQuoted_62 ?_
              refine lv_topi (fun v26 hv26 => ?_)
              replace h := bq_bv h hv26
              refine lv_istore_n (lv' := [(3, .int v26), (5, .int v13), (0, .ref (a 22)), (1, .ref (a 15)), (2, .int v5), (4, .int v7)]) hx hb dX7_readQuoted_63 rfl hl (by decide) rfl (fun ls hl => ?_)
              refine lv_aload_n hx hb dX7_readQuoted_64 rfl (lv_at hl 3 rfl) ?_
              refine bq_get (q0 := 15) S hK hP fl_X7_73_X4_4 rfl rfl rfl dX7_readQuoted_65 ?_
              refine lv_iload_n hx hb dX7_readQuoted_68 rfl (lv_at hl 4 rfl) ?_
              refine lv_dup2_11 hx hb dX7_readQuoted_69 rfl rfl ?_
              obtain ⟨g27, h⟩ := bq_gd h
              refine va_iald (D := D) hx hb hK hP 17 0 rfl rfl g27 dX7_readQuoted_70 ?_
              refine lv_iload hx hb dX7_readQuoted_71 (lv_at hl 1 rfl) ?_
              obtain ⟨o28, ho28, h⟩ := Option.bind_eq_some_iff.mp h
              obtain ⟨v30, x29⟩ := o28
              replace h := un2_e h
              refine bq_callSNi (As := [.int _]) S hK hD hA hP hS (cX9_bit_k ho28) hd_yX9_bit mn_X7_66 st_yX9_bit ⟨rfl, rfl⟩ ⟨by decide, by decide⟩ rfl hl.1 rfl (Nat.le_of_ble_eq_true rfl) ⟨Nat.zero_le _, Nat.zero_le _⟩ dX7_readQuoted_73 (fun H locs hP hS => ?_)
              refine lv_ior hx hb dX7_readQuoted_76 ?_
              obtain ⟨g32, h⟩ := bq_gd h
              obtain ⟨x31, hx31, h⟩ := bq_b h
              refine bq_iast (x1 := x31) (q0 := 17) (t0 := 0) S hK hD hP hS rfl rfl g32 (by rw [hx31]; rfl) dX7_readQuoted_77 (fun H locs hP hS => ?_)
              refine lv_aload_n hx hb dX7_readQuoted_78 rfl (lv_at hl 2 rfl) ?_
              refine bq_get (q0 := 22) S hK hP fl_X7_15_X7_1 rfl rfl rfl dX7_readQuoted_79 ?_
              refine lv_iload hx hb dX7_readQuoted_82 (lv_at hl 1 rfl) ?_
              refine lv_aload_n hx hb dX7_readQuoted_84 rfl (lv_at hl 2 rfl) ?_
              refine bq_get (q0 := 22) S hK hP fl_X7_15_X7_1 rfl rfl rfl dX7_readQuoted_85 ?_
              refine lv_iload hx hb dX7_readQuoted_88 (lv_at hl 1 rfl) ?_
              obtain ⟨g33, h⟩ := bq_gd h
              refine va_iald (D := D) hx hb hK hP 24 0 rfl rfl g33 dX7_readQuoted_90 ?_
              refine lv_aload_n hx hb dX7_readQuoted_91 rfl (lv_at hl 2 rfl) ?_
              refine bq_get (q0 := 22) S hK hP fl_X7_23_X7_3 rfl rfl rfl dX7_readQuoted_92 ?_
              refine va_mmin hx hb (hml.trans hl.1.symm) hown (hts _ ml_X7_76) (hts _ st_yJ9_min_7cf53) (hts _ ini_Math) (hts _ cd_Math_min) (by decide) (Nat.le_of_ble_eq_true rfl) (Nat.zero_le _) (Nat.zero_le _) dX7_readQuoted_95 ?_
              obtain ⟨g35, h⟩ := bq_gd h
              obtain ⟨x34, hx34, h⟩ := bq_b h
              refine bq_iast (x1 := x34) (q0 := 24) (t0 := 0) S hK hD hP hS rfl rfl g35 (by rw [hx34]; rfl) dX7_readQuoted_98 (fun H locs hP hS => ?_)
              refine lv_aload_n hx hb dX7_readQuoted_99 rfl (lv_at hl 2 rfl) ?_
              refine lv_dup hx hb dX7_readQuoted_100 rfl ?_
              refine bq_get (q0 := 22) S hK hP fl_X7_23_X7_3 rfl rfl rfl dX7_readQuoted_101 ?_
              refine lv_iconst (v := (1 : Int32)) hx hb dX7_readQuoted_104 (by decide) ?_
              refine lv_iadd hx hb dX7_readQuoted_105 ?_
              obtain ⟨x36, hx36, h⟩ := bq_b h
              refine bq_put (x1 := x36) (q0 := 22) (ty := .int) S hK hD hP hS fl_X7_23_X7_3 bt_X7 rfl (by decide +kernel) rfl rfl (Nat.le_of_ble_eq_true rfl) rfl rfl (by rw [hx36]; rfl) dX7_readQuoted_106 (fun H locs hP hS => ?_)
              obtain ⟨v37, hv37, h⟩ := bq_b h
              refine lv_iinc (v := v37) (lv' := [(4, .int v37), (3, .int v26), (5, .int v13), (0, .ref (a 22)), (1, .ref (a 15)), (2, .int v5)]) hx hb dX7_readQuoted_109 hl (k := 5) rfl (by rw [hv37]; rfl) (by decide) rfl (fun ls hl => ?_)
              refine lv_goto (tgt := 8) hx hb dX7_readQuoted_112 (by decide) ?_
              cases h
              exact ih _ _ _ _ _ _ _ hw hP hS (lv_sub hl [3, 4, 5, 1, 0] rfl) kx kr
            · replace h := (if_neg c22).symm.trans h
              exact hj45 _ _ _ _ _ h hP hS (lv_sub hl [5] rfl)
  obtain ⟨e38, he38, h⟩ := Option.bind_eq_some_iff.mp h
  refine hl8 _ n _ _ _ e38 _ _ _ he38 hP hS (lv_sub hl [2, 3, 4, 1, 0] rfl) (fun H locs ls v39 v40 x41 hz hP hS hl => ?_) (fun z hz => hret z (bq_ir h hz :))
  replace h := bq_il h hz
  replace h := un3_e h
  refine lv_iconst (v := (1 : Int32)) hx hb dX7_readQuoted_115 (by decide) ?_
  obtain ⟨e1, e2⟩ := Prod.mk.inj (hret _ h)
  exact hR _ _ _ _ _ (congrArg some e1) rfl (by rw [e2]; exact hP) hS dX7_readQuoted_116
set_option maxHeartbeats 4000000 in
set_option maxRecDepth 100000 in
theorem cX4_setProp_k_15 {l : Launch} {D : va_G} {a : Nat → Nat} {k : Nat → ClassId} {n : Nat} {p1 : Int32} {p2 : Int32} {x0 xz : bq_S} {rz : Int32} (h : fX4_setProp n 15 p1 p2 x0 = some (rz, xz)) : bq_M l D bq_cl (bq_ty k) (bq_wC a k) yX4_setProp cX4_setProp 4 (some .boolean) { frames := 3, cells := 0, slots := 0, locals := 67 } [.ref (a 15), .int p1, .int p2] x0 (some rz) xz := by
  refine bq_ofW RX4 [(0, .ref (a 15)), (1, .int p1), (2, .int p2)] (by decide +kernel) rfl (Nat.le_of_ble_eq_true rfl) rfl (bq_adC a k) ?_
  intro p e s m below meth c A Q ls S hK hD hA hR hS hP hl
  have hx := S.1; have hb := S.2.1; have hml := S.2.2.1; have hown := S.2.2.2.1; have hts := S.2.2.2.2
  have hret : ∀ z, some z = some (rz, xz) → (rz, xz) = z := fun z h => (Option.some.inj h).symm
  unfold fX4_setProp at h
  refine lv_aload_n hx hb dX4_setProp_0 rfl (lv_at hl 0 rfl) ?_
  refine bq_get (q0 := 15) S hK hP fl_X4_15_X4_1 rfl rfl rfl dX4_setProp_1 ?_
  refine lv_iload_n hx hb dX4_setProp_4 rfl (lv_at hl 1 rfl) ?_
  obtain ⟨o1, ho1, h⟩ := Option.bind_eq_some_iff.mp h
  obtain ⟨v3, x2⟩ := o1
  replace h := un2_e h
  refine bq_callSNi (As := [.int _, .int _]) S hK hD hA hP hS (cX9_has_k ho1) hd_yX9_has mn_X4_62 st_yX9_has ⟨rfl, rfl⟩ ⟨by decide, by decide⟩ rfl hl.1 rfl (Nat.le_of_ble_eq_true rfl) ⟨Nat.zero_le _, Nat.zero_le _⟩ dX4_setProp_5 (fun H locs hP hS => ?_)
  refine lv_istore_n (lv' := [(3, .int v3), (0, .ref (a 15)), (1, .int p1), (2, .int p2)]) hx hb dX4_setProp_8 rfl hl (by decide) rfl (fun ls hl => ?_)
  refine lv_aload_n hx hb dX4_setProp_9 rfl (lv_at hl 1 rfl) ?_
  refine lv_aload_n hx hb dX4_setProp_10 rfl (lv_at hl 1 rfl) ?_
  refine bq_get (q0 := 15) S hK hP fl_X4_15_X4_1 rfl rfl rfl dX4_setProp_11 ?_
  refine lv_iload_n hx hb dX4_setProp_14 rfl (lv_at hl 2 rfl) ?_
  refine lv_iload_n hx hb dX4_setProp_15 rfl (lv_at hl 3 rfl) ?_
  obtain ⟨o4, ho4, h⟩ := Option.bind_eq_some_iff.mp h
  obtain ⟨v6, x5⟩ := o4
  replace h := un2_e h
  refine bq_callSi (As := [.int _, .int _, .int _]) S hK hD hA hP hS (cX4_with_k ho4) hd_yX4_with ml_X4_66 st_yX4_with ⟨rfl, rfl⟩ ⟨by decide, by decide⟩ rfl hl.1 rfl (Nat.le_of_ble_eq_true rfl) ⟨Nat.zero_le _, Nat.zero_le _⟩ dX4_setProp_16 (fun H locs hP hS => ?_)
  obtain ⟨x7, hx7, h⟩ := bq_b h
  refine bq_put (x1 := x7) (q0 := 15) (ty := .int) S hK hD hP hS fl_X4_15_X4_1 bt_X4 rfl (by decide +kernel) rfl rfl (Nat.le_of_ble_eq_true rfl) rfl rfl (by rw [hx7]; rfl) dX4_setProp_19 (fun H locs hP hS => ?_)
  refine lv_aload_n hx hb dX4_setProp_22 rfl (lv_at hl 1 rfl) ?_
  obtain ⟨x9, ho8, h⟩ := Option.bind_eq_some_iff.mp h
  refine bq_callVv (q0 := 15) (As := []) S hK hD hA hP hS (cX4_learnNear_k_15 ho8) hd_yX4_learnNear ml_X4_54 in_yX4_learnNear (hts _ sl_X4_X4_yX4_learnNear) ⟨rfl, rfl⟩ ⟨by decide, by decide⟩ rfl rfl rfl hl.1 rfl (Nat.le_of_ble_eq_true rfl) ⟨Nat.zero_le _, Nat.zero_le _⟩ dX4_setProp_23 (fun H locs hP hS => ?_)
  refine lv_iload_n hx hb dX4_setProp_26 rfl (lv_at hl 0 rfl) ?_
  obtain ⟨g10, h⟩ := bq_gp h
  obtain ⟨e1, e2⟩ := Prod.mk.inj (hret _ h)
  exact hR _ _ _ _ _ (congrArg some e1) (bq_z g10) (by rw [e2]; exact hP) hS dX4_setProp_27
def fX7_readBook_j64 (n : Nat) (r14 : Nat) (v15 : Int32) (x16 : bq_S) : Option (Int32 × bq_S) :=
  (fX7_look n  x16).bind (fun o17 => un2 o17 (fun v19 x18 =>
  if v19 = (58 : Int32) then
  bd (bq_sI x18 22 3 ((x18.1 22 3) + (1 : Int32))) (fun x21 =>
  (fX7_readQuoted n r14 v15 x21).bind (fun o22 => un2 o22 (fun v24 x23 =>
  if v24 = 0 ∨ v24 = 1 then
  some (v24, x23)
  else none)))
  else
  some ((1 : Int32), x18)))
def fX7_readBook (n : Nat) (q1 : Nat) (p2 : Int32) (x0 : bq_S) : Option (Int32 × bq_S) :=
  (fX7_look n  x0).bind (fun o1 => un2 o1 (fun v3 x2 =>
  if v3 < (49 : Int32) then
  some ((0 : Int32), x2)
  else
  if v3 ≤ (57 : Int32) then
  (fX4_add n q1 (v3 - (48 : Int32)) x2).bind (fun o6 => un2 o6 (fun v8 x7 =>
  bd (bq_sI x7 22 3 ((x7.1 22 3) + (1 : Int32))) (fun x9 =>
  (fX7_look n  x9).bind (fun o10 => un2 o10 (fun v12 x11 =>
  if v12 = (112 : Int32) then
  (fX4_setProp n q1 p2 (1 : Int32) x11).bind (fun o26 => un2 o26 (fun v28 x27 =>
  bd (bq_sI x27 22 3 ((x27.1 22 3) + (1 : Int32))) (fun x29 =>
  fX7_readBook_j64 n q1 p2 x29)))
  else
  fX7_readBook_j64 n q1 p2 x11)))))
  else
  some ((0 : Int32), x2)))
theorem dX7_readBook_0 : decode cX7_readBook 0 = .ok (.aload_n 0, 1) := by decide +kernel
theorem dX7_readBook_1 : decode cX7_readBook 1 = .ok (.invokevirtual 45, 3) := by decide +kernel
theorem dX7_readBook_4 : decode cX7_readBook 4 = .ok (.istore_n 3, 1) := by decide +kernel
theorem dX7_readBook_5 : decode cX7_readBook 5 = .ok (.iload_n 3, 1) := by decide +kernel
theorem dX7_readBook_6 : decode cX7_readBook 6 = .ok (.bipush 49, 2) := by decide +kernel
theorem dX7_readBook_8 : decode cX7_readBook 8 = .ok (.if_icmp .lt 9, 3) := by decide +kernel
theorem dX7_readBook_11 : decode cX7_readBook 11 = .ok (.iload_n 3, 1) := by decide +kernel
theorem dX7_readBook_12 : decode cX7_readBook 12 = .ok (.bipush 57, 2) := by decide +kernel
theorem dX7_readBook_14 : decode cX7_readBook 14 = .ok (.if_icmp .le 5, 3) := by decide +kernel
theorem dX7_readBook_17 : decode cX7_readBook 17 = .ok (.iconst 0, 1) := by decide +kernel
theorem dX7_readBook_18 : decode cX7_readBook 18 = .ok (.ireturn, 1) := by decide +kernel
theorem dX7_readBook_19 : decode cX7_readBook 19 = .ok (.aload_n 1, 1) := by decide +kernel
theorem dX7_readBook_20 : decode cX7_readBook 20 = .ok (.iload_n 3, 1) := by decide +kernel
theorem dX7_readBook_21 : decode cX7_readBook 21 = .ok (.bipush 48, 2) := by decide +kernel
theorem dX7_readBook_23 : decode cX7_readBook 23 = .ok (.isub, 1) := by decide +kernel
theorem dX7_readBook_24 : decode cX7_readBook 24 = .ok (.invokevirtual 56, 3) := by decide +kernel
theorem dX7_readBook_27 : decode cX7_readBook 27 = .ok (.pop, 1) := by decide +kernel
theorem dX7_readBook_28 : decode cX7_readBook 28 = .ok (.aload_n 0, 1) := by decide +kernel
theorem dX7_readBook_29 : decode cX7_readBook 29 = .ok (.dup, 1) := by decide +kernel
theorem dX7_readBook_30 : decode cX7_readBook 30 = .ok (.getfield 23, 3) := by decide +kernel
theorem dX7_readBook_33 : decode cX7_readBook 33 = .ok (.iconst 1, 1) := by decide +kernel
theorem dX7_readBook_34 : decode cX7_readBook 34 = .ok (.iadd, 1) := by decide +kernel
theorem dX7_readBook_35 : decode cX7_readBook 35 = .ok (.putfield 23, 3) := by decide +kernel
theorem dX7_readBook_38 : decode cX7_readBook 38 = .ok (.aload_n 0, 1) := by decide +kernel
theorem dX7_readBook_39 : decode cX7_readBook 39 = .ok (.invokevirtual 45, 3) := by decide +kernel
theorem dX7_readBook_42 : decode cX7_readBook 42 = .ok (.bipush 112, 2) := by decide +kernel
theorem dX7_readBook_44 : decode cX7_readBook 44 = .ok (.if_icmp .ne 20, 3) := by decide +kernel
theorem dX7_readBook_47 : decode cX7_readBook 47 = .ok (.aload_n 1, 1) := by decide +kernel
theorem dX7_readBook_48 : decode cX7_readBook 48 = .ok (.iload_n 2, 1) := by decide +kernel
theorem dX7_readBook_49 : decode cX7_readBook 49 = .ok (.iconst 1, 1) := by decide +kernel
theorem dX7_readBook_50 : decode cX7_readBook 50 = .ok (.invokevirtual 59, 3) := by decide +kernel
theorem dX7_readBook_53 : decode cX7_readBook 53 = .ok (.pop, 1) := by decide +kernel
theorem dX7_readBook_54 : decode cX7_readBook 54 = .ok (.aload_n 0, 1) := by decide +kernel
theorem dX7_readBook_55 : decode cX7_readBook 55 = .ok (.dup, 1) := by decide +kernel
theorem dX7_readBook_56 : decode cX7_readBook 56 = .ok (.getfield 23, 3) := by decide +kernel
theorem dX7_readBook_59 : decode cX7_readBook 59 = .ok (.iconst 1, 1) := by decide +kernel
theorem dX7_readBook_60 : decode cX7_readBook 60 = .ok (.iadd, 1) := by decide +kernel
theorem dX7_readBook_61 : decode cX7_readBook 61 = .ok (.putfield 23, 3) := by decide +kernel
theorem dX7_readBook_64 : decode cX7_readBook 64 = .ok (.aload_n 0, 1) := by decide +kernel
theorem dX7_readBook_65 : decode cX7_readBook 65 = .ok (.invokevirtual 45, 3) := by decide +kernel
theorem dX7_readBook_68 : decode cX7_readBook 68 = .ok (.bipush 58, 2) := by decide +kernel
theorem dX7_readBook_70 : decode cX7_readBook 70 = .ok (.if_icmp .eq 5, 3) := by decide +kernel
theorem dX7_readBook_73 : decode cX7_readBook 73 = .ok (.iconst 1, 1) := by decide +kernel
theorem dX7_readBook_74 : decode cX7_readBook 74 = .ok (.ireturn, 1) := by decide +kernel
theorem dX7_readBook_75 : decode cX7_readBook 75 = .ok (.aload_n 0, 1) := by decide +kernel
theorem dX7_readBook_76 : decode cX7_readBook 76 = .ok (.dup, 1) := by decide +kernel
theorem dX7_readBook_77 : decode cX7_readBook 77 = .ok (.getfield 23, 3) := by decide +kernel
theorem dX7_readBook_80 : decode cX7_readBook 80 = .ok (.iconst 1, 1) := by decide +kernel
theorem dX7_readBook_81 : decode cX7_readBook 81 = .ok (.iadd, 1) := by decide +kernel
theorem dX7_readBook_82 : decode cX7_readBook 82 = .ok (.putfield 23, 3) := by decide +kernel
theorem dX7_readBook_85 : decode cX7_readBook 85 = .ok (.aload_n 0, 1) := by decide +kernel
theorem dX7_readBook_86 : decode cX7_readBook 86 = .ok (.aload_n 1, 1) := by decide +kernel
theorem dX7_readBook_87 : decode cX7_readBook 87 = .ok (.iload_n 2, 1) := by decide +kernel
theorem dX7_readBook_88 : decode cX7_readBook 88 = .ok (.invokevirtual 63, 3) := by decide +kernel
theorem dX7_readBook_91 : decode cX7_readBook 91 = .ok (.ireturn, 1) := by decide +kernel
set_option maxHeartbeats 4000000 in
set_option maxRecDepth 100000 in
theorem cX7_readBook_k_22_15 {l : Launch} {D : va_G} {a : Nat → Nat} {k : Nat → ClassId} {n : Nat} {p2 : Int32} {x0 xz : bq_S} {rz : Int32} (h : fX7_readBook n 15 p2 x0 = some (rz, xz)) : bq_M l D bq_cl (bq_ty k) (bq_wC a k) yX7_readBook cX7_readBook 4 (some .boolean) { frames := 4, cells := 0, slots := 0, locals := 90 } [.ref (a 22), .ref (a 15), .int p2] x0 (some rz) xz := by
  refine bq_ofW RX7 [(0, .ref (a 22)), (1, .ref (a 15)), (2, .int p2)] (by decide +kernel) rfl (Nat.le_of_ble_eq_true rfl) rfl (bq_adC a k) ?_
  intro p e s m below meth c A Q ls S hK hD hA hR hS hP hl
  have hx := S.1; have hb := S.2.1; have hml := S.2.2.1; have hown := S.2.2.2.1; have hts := S.2.2.2.2
  have hret : ∀ z, some z = some (rz, xz) → (rz, xz) = z := fun z h => (Option.some.inj h).symm
  unfold fX7_readBook at h
  have hj64 : ∀ (v15 : Int32) (x16 : bq_S) (H : Heap) (locs : List Loc) (ls : Array Slot), fX7_readBook_j64 n 15 v15 x16 = some (rz, xz) → va_P D bq_cl (bq_wC a k x16) H → va_S A s.heap H locs → lv_has ls 4 [(0, .ref (a 22)), (1, .ref (a 15)), (2, .int v15)] → W p l e { frames := 4, cells := 0, slots := 0, locals := 90 } s m [.ref (a 22), .ref (a 15), .int p2].toArray below meth c H locs 0 0 Q (F0 m 64 ls []) := by
    intro v15 x16 H locs ls h hP hS hl
    unfold fX7_readBook_j64 at h
    refine lv_aload_n hx hb dX7_readBook_64 rfl (lv_at hl 0 rfl) ?_
    obtain ⟨o17, ho17, h⟩ := Option.bind_eq_some_iff.mp h
    obtain ⟨v19, x18⟩ := o17
    replace h := un2_e h
    refine bq_callVi (q0 := 22) (As := []) S hK hD hA hP hS (cX7_look_k_22 ho17) hd_yX7_look ml_X7_45 in_yX7_look (hts _ sl_X7_X7_yX7_look) ⟨rfl, rfl⟩ ⟨by decide, by decide⟩ rfl rfl rfl hl.1 rfl (Nat.le_of_ble_eq_true rfl) ⟨Nat.zero_le _, Nat.zero_le _⟩ dX7_readBook_65 (fun H locs hP hS => ?_)
    refine lv_bipush (v := (58 : Int32)) hx hb dX7_readBook_68 (by decide) ?_
    refine lv_icmp_eq (tgt := 75) hx hb dX7_readBook_70 (by decide) (fun c20 => ?_) (fun c20 => ?_)
    · replace h := (if_pos c20).symm.trans h
      refine lv_aload_n hx hb dX7_readBook_75 rfl (lv_at hl 0 rfl) ?_
      refine lv_dup hx hb dX7_readBook_76 rfl ?_
      refine bq_get (q0 := 22) S hK hP fl_X7_23_X7_3 rfl rfl rfl dX7_readBook_77 ?_
      refine lv_iconst (v := (1 : Int32)) hx hb dX7_readBook_80 (by decide) ?_
      refine lv_iadd hx hb dX7_readBook_81 ?_
      obtain ⟨x21, hx21, h⟩ := bq_b h
      refine bq_put (x1 := x21) (q0 := 22) (ty := .int) S hK hD hP hS fl_X7_23_X7_3 bt_X7 rfl (by decide +kernel) rfl rfl (Nat.le_of_ble_eq_true rfl) rfl rfl (by rw [hx21]; rfl) dX7_readBook_82 (fun H locs hP hS => ?_)
      refine lv_aload_n hx hb dX7_readBook_85 rfl (lv_at hl 0 rfl) ?_
      refine lv_aload_n hx hb dX7_readBook_86 rfl (lv_at hl 1 rfl) ?_
      refine lv_iload_n hx hb dX7_readBook_87 rfl (lv_at hl 2 rfl) ?_
      obtain ⟨o22, ho22, h⟩ := Option.bind_eq_some_iff.mp h
      obtain ⟨v24, x23⟩ := o22
      replace h := un2_e h
      refine bq_callVi (q0 := 22) (As := [.ref (a 15), .int _]) S hK hD hA hP hS (cX7_readQuoted_k_22_15 ho22) hd_yX7_readQuoted ml_X7_63 in_yX7_readQuoted (hts _ sl_X7_X7_yX7_readQuoted) ⟨rfl, rfl⟩ ⟨by decide, by decide⟩ rfl rfl rfl hl.1 rfl (Nat.le_of_ble_eq_true rfl) ⟨Nat.zero_le _, Nat.zero_le _⟩ dX7_readBook_88 (fun H locs hP hS => ?_)
      obtain ⟨g25, h⟩ := bq_gp h
      obtain ⟨e1, e2⟩ := Prod.mk.inj (hret _ h)
      exact hR _ _ _ _ _ (congrArg some e1) (bq_z g25) (by rw [e2]; exact hP) hS dX7_readBook_91
    · replace h := (if_neg c20).symm.trans h
      refine lv_iconst (v := (1 : Int32)) hx hb dX7_readBook_73 (by decide) ?_
      obtain ⟨e1, e2⟩ := Prod.mk.inj (hret _ h)
      exact hR _ _ _ _ _ (congrArg some e1) rfl (by rw [e2]; exact hP) hS dX7_readBook_74
  refine lv_aload_n hx hb dX7_readBook_0 rfl (lv_at hl 0 rfl) ?_
  obtain ⟨o1, ho1, h⟩ := Option.bind_eq_some_iff.mp h
  obtain ⟨v3, x2⟩ := o1
  replace h := un2_e h
  refine bq_callVi (q0 := 22) (As := []) S hK hD hA hP hS (cX7_look_k_22 ho1) hd_yX7_look ml_X7_45 in_yX7_look (hts _ sl_X7_X7_yX7_look) ⟨rfl, rfl⟩ ⟨by decide, by decide⟩ rfl rfl rfl hl.1 rfl (Nat.le_of_ble_eq_true rfl) ⟨Nat.zero_le _, Nat.zero_le _⟩ dX7_readBook_1 (fun H locs hP hS => ?_)
  refine lv_istore_n (lv' := [(3, .int v3), (0, .ref (a 22)), (1, .ref (a 15)), (2, .int p2)]) hx hb dX7_readBook_4 rfl hl (by decide) rfl (fun ls hl => ?_)
  refine lv_iload_n hx hb dX7_readBook_5 rfl (lv_at hl 0 rfl) ?_
  refine lv_bipush (v := (49 : Int32)) hx hb dX7_readBook_6 (by decide) ?_
  refine lv_icmp_lt (tgt := 17) hx hb dX7_readBook_8 (by decide) (fun c4 => ?_) (fun c4 => ?_)
  · replace h := (if_pos c4).symm.trans h
    refine lv_iconst (v := (0 : Int32)) hx hb dX7_readBook_17 (by decide) ?_
    obtain ⟨e1, e2⟩ := Prod.mk.inj (hret _ h)
    exact hR _ _ _ _ _ (congrArg some e1) rfl (by rw [e2]; exact hP) hS dX7_readBook_18
  · replace h := (if_neg c4).symm.trans h
    refine lv_iload_n hx hb dX7_readBook_11 rfl (lv_at hl 0 rfl) ?_
    refine lv_bipush (v := (57 : Int32)) hx hb dX7_readBook_12 (by decide) ?_
    refine lv_icmp_le (tgt := 19) hx hb dX7_readBook_14 (by decide) (fun c5 => ?_) (fun c5 => ?_)
    · replace h := (if_pos c5).symm.trans h
      refine lv_aload_n hx hb dX7_readBook_19 rfl (lv_at hl 2 rfl) ?_
      refine lv_iload_n hx hb dX7_readBook_20 rfl (lv_at hl 0 rfl) ?_
      refine lv_bipush (v := (48 : Int32)) hx hb dX7_readBook_21 (by decide) ?_
      refine lv_isub hx hb dX7_readBook_23 ?_
      obtain ⟨o6, ho6, h⟩ := Option.bind_eq_some_iff.mp h
      obtain ⟨v8, x7⟩ := o6
      replace h := un2_e h
      refine bq_callVi (q0 := 15) (As := [.int _]) S hK hD hA hP hS (cX4_add_k_15 ho6) hd_yX4_add ml_X7_56 in_yX4_add (hts _ sl_X4_X4_yX4_add) ⟨rfl, rfl⟩ ⟨by decide, by decide⟩ rfl rfl rfl hl.1 rfl (Nat.le_of_ble_eq_true rfl) ⟨Nat.zero_le _, Nat.zero_le _⟩ dX7_readBook_24 (fun H locs hP hS => ?_)
      refine lv_pop hx hb dX7_readBook_27 rfl ?_
      refine lv_aload_n hx hb dX7_readBook_28 rfl (lv_at hl 1 rfl) ?_
      refine lv_dup hx hb dX7_readBook_29 rfl ?_
      refine bq_get (q0 := 22) S hK hP fl_X7_23_X7_3 rfl rfl rfl dX7_readBook_30 ?_
      refine lv_iconst (v := (1 : Int32)) hx hb dX7_readBook_33 (by decide) ?_
      refine lv_iadd hx hb dX7_readBook_34 ?_
      obtain ⟨x9, hx9, h⟩ := bq_b h
      refine bq_put (x1 := x9) (q0 := 22) (ty := .int) S hK hD hP hS fl_X7_23_X7_3 bt_X7 rfl (by decide +kernel) rfl rfl (Nat.le_of_ble_eq_true rfl) rfl rfl (by rw [hx9]; rfl) dX7_readBook_35 (fun H locs hP hS => ?_)
      refine lv_aload_n hx hb dX7_readBook_38 rfl (lv_at hl 1 rfl) ?_
      obtain ⟨o10, ho10, h⟩ := Option.bind_eq_some_iff.mp h
      obtain ⟨v12, x11⟩ := o10
      replace h := un2_e h
      refine bq_callVi (q0 := 22) (As := []) S hK hD hA hP hS (cX7_look_k_22 ho10) hd_yX7_look ml_X7_45 in_yX7_look (hts _ sl_X7_X7_yX7_look) ⟨rfl, rfl⟩ ⟨by decide, by decide⟩ rfl rfl rfl hl.1 rfl (Nat.le_of_ble_eq_true rfl) ⟨Nat.zero_le _, Nat.zero_le _⟩ dX7_readBook_39 (fun H locs hP hS => ?_)
      refine lv_bipush (v := (112 : Int32)) hx hb dX7_readBook_42 (by decide) ?_
      refine lv_icmp_ne (tgt := 64) hx hb dX7_readBook_44 (by decide) (fun c13 => ?_) (fun c13 => ?_)
      · replace h := (if_neg c13).symm.trans h
        exact hj64 _ _ _ _ _ h hP hS (lv_sub hl [1, 2, 3] rfl)
      · replace h := (if_pos c13).symm.trans h
        refine lv_aload_n hx hb dX7_readBook_47 rfl (lv_at hl 2 rfl) ?_
        refine lv_iload_n hx hb dX7_readBook_48 rfl (lv_at hl 3 rfl) ?_
        refine lv_iconst (v := (1 : Int32)) hx hb dX7_readBook_49 (by decide) ?_
        obtain ⟨o26, ho26, h⟩ := Option.bind_eq_some_iff.mp h
        obtain ⟨v28, x27⟩ := o26
        replace h := un2_e h
        refine bq_callVi (q0 := 15) (As := [.int _, .int _]) S hK hD hA hP hS (cX4_setProp_k_15 ho26) hd_yX4_setProp ml_X7_59 in_yX4_setProp (hts _ sl_X4_X4_yX4_setProp) ⟨rfl, rfl⟩ ⟨by decide, by decide⟩ rfl rfl rfl hl.1 rfl (Nat.le_of_ble_eq_true rfl) ⟨Nat.zero_le _, Nat.zero_le _⟩ dX7_readBook_50 (fun H locs hP hS => ?_)
        refine lv_pop hx hb dX7_readBook_53 rfl ?_
        refine lv_aload_n hx hb dX7_readBook_54 rfl (lv_at hl 1 rfl) ?_
        refine lv_dup hx hb dX7_readBook_55 rfl ?_
        refine bq_get (q0 := 22) S hK hP fl_X7_23_X7_3 rfl rfl rfl dX7_readBook_56 ?_
        refine lv_iconst (v := (1 : Int32)) hx hb dX7_readBook_59 (by decide) ?_
        refine lv_iadd hx hb dX7_readBook_60 ?_
        obtain ⟨x29, hx29, h⟩ := bq_b h
        refine bq_put (x1 := x29) (q0 := 22) (ty := .int) S hK hD hP hS fl_X7_23_X7_3 bt_X7 rfl (by decide +kernel) rfl rfl (Nat.le_of_ble_eq_true rfl) rfl rfl (by rw [hx29]; rfl) dX7_readBook_61 (fun H locs hP hS => ?_)
        exact hj64 _ _ _ _ _ h hP hS (lv_sub hl [1, 2, 3] rfl)
    · replace h := (if_neg c5).symm.trans h
      refine lv_iconst (v := (0 : Int32)) hx hb dX7_readBook_17 (by decide) ?_
      obtain ⟨e1, e2⟩ := Prod.mk.inj (hret _ h)
      exact hR _ _ _ _ _ (congrArg some e1) rfl (by rw [e2]; exact hP) hS dX7_readBook_18
def fX7_missingOf_b5 (n : Nat) (v1 : Int32) (v : Int32 × Int32 × bq_S) : Option ((Int32 × Int32 × bq_S) ⊕ (Int32 × Int32 × bq_S)) :=
  un3 v (fun v2 v3 x4 =>
  if (8 : Int32) ≤ v3 then
  some (.inr (v2, v3, x4))
  else
  if ok_i v3 8 then
  bd (if (x4.1 24 v3.toNatClampNeg) < v2 then (x4.1 24 v3.toNatClampNeg) else v2) (fun v7 =>
  bd (v3 + (1 : Int32)) (fun v8 =>
  some (.inl (v7, v8, x4))))
  else none)
def fX7_missingOf (n : Nat) (p1 : Int32) (x0 : bq_S) : Option (Int32 × bq_S) :=
  (wh n (fX7_missingOf_b5 n p1) ((60 : Int32), p1, x0)).bind (fun e9 => un3 e9 (fun v10 v11 x12 =>
  if v10 = (60 : Int32) then
  some (p1, x12)
  else
  some (((-20 : Int32) - v10), x12)))
theorem dX7_missingOf_0 : decode cX7_missingOf 0 = .ok (.bipush 60, 2) := by decide +kernel
theorem dX7_missingOf_2 : decode cX7_missingOf 2 = .ok (.istore_n 2, 1) := by decide +kernel
theorem dX7_missingOf_3 : decode cX7_missingOf 3 = .ok (.iload_n 1, 1) := by decide +kernel
theorem dX7_missingOf_4 : decode cX7_missingOf 4 = .ok (.istore_n 3, 1) := by decide +kernel
theorem dX7_missingOf_5 : decode cX7_missingOf 5 = .ok (.iload_n 3, 1) := by decide +kernel
theorem dX7_missingOf_6 : decode cX7_missingOf 6 = .ok (.bipush 8, 2) := by decide +kernel
theorem dX7_missingOf_8 : decode cX7_missingOf 8 = .ok (.if_icmp .ge 20, 3) := by decide +kernel
theorem dX7_missingOf_11 : decode cX7_missingOf 11 = .ok (.iload_n 2, 1) := by decide +kernel
theorem dX7_missingOf_12 : decode cX7_missingOf 12 = .ok (.aload_n 0, 1) := by decide +kernel
theorem dX7_missingOf_13 : decode cX7_missingOf 13 = .ok (.getfield 15, 3) := by decide +kernel
theorem dX7_missingOf_16 : decode cX7_missingOf 16 = .ok (.iload_n 3, 1) := by decide +kernel
theorem dX7_missingOf_17 : decode cX7_missingOf 17 = .ok (.iaload, 1) := by decide +kernel
theorem dX7_missingOf_18 : decode cX7_missingOf 18 = .ok (.invokestatic 76, 3) := by decide +kernel
theorem dX7_missingOf_21 : decode cX7_missingOf 21 = .ok (.istore_n 2, 1) := by decide +kernel
theorem dX7_missingOf_22 : decode cX7_missingOf 22 = .ok (.iinc 3 1, 3) := by decide +kernel
theorem dX7_missingOf_25 : decode cX7_missingOf 25 = .ok (.goto (-20), 3) := by decide +kernel
theorem dX7_missingOf_28 : decode cX7_missingOf 28 = .ok (.iload_n 2, 1) := by decide +kernel
theorem dX7_missingOf_29 : decode cX7_missingOf 29 = .ok (.bipush 60, 2) := by decide +kernel
theorem dX7_missingOf_31 : decode cX7_missingOf 31 = .ok (.if_icmp .ne 7, 3) := by decide +kernel
theorem dX7_missingOf_34 : decode cX7_missingOf 34 = .ok (.iload_n 1, 1) := by decide +kernel
theorem dX7_missingOf_35 : decode cX7_missingOf 35 = .ok (.goto 7, 3) := by decide +kernel
theorem dX7_missingOf_38 : decode cX7_missingOf 38 = .ok (.bipush (-20), 2) := by decide +kernel
theorem dX7_missingOf_40 : decode cX7_missingOf 40 = .ok (.iload_n 2, 1) := by decide +kernel
theorem dX7_missingOf_41 : decode cX7_missingOf 41 = .ok (.isub, 1) := by decide +kernel
theorem dX7_missingOf_42 : decode cX7_missingOf 42 = .ok (.ireturn, 1) := by decide +kernel
set_option maxHeartbeats 4000000 in
set_option maxRecDepth 100000 in
theorem cX7_missingOf_k_22 {l : Launch} {D : va_G} {a : Nat → Nat} {k : Nat → ClassId} {n : Nat} {p1 : Int32} {x0 xz : bq_S} {rz : Int32} (h : fX7_missingOf n p1 x0 = some (rz, xz)) : bq_M l D bq_cl (bq_ty k) (bq_wC a k) yX7_missingOf cX7_missingOf 4 (some .int) { frames := 1, cells := 0, slots := 0, locals := 21 } [.ref (a 22), .int p1] x0 (some rz) xz := by
  refine bq_ofW RX7 [(0, .ref (a 22)), (1, .int p1)] (by decide +kernel) rfl (Nat.le_of_ble_eq_true rfl) rfl (bq_adC a k) ?_
  intro p e s m below meth c A Q ls S hK hD hA hR hS hP hl
  have hx := S.1; have hb := S.2.1; have hml := S.2.2.1; have hown := S.2.2.2.1; have hts := S.2.2.2.2
  have hret : ∀ z, some z = some (rz, xz) → (rz, xz) = z := fun z h => (Option.some.inj h).symm
  unfold fX7_missingOf at h
  refine lv_bipush (v := (60 : Int32)) hx hb dX7_missingOf_0 (by decide) ?_
  refine lv_istore_n (lv' := [(2, .int (60 : Int32)), (0, .ref (a 22)), (1, .int p1)]) hx hb dX7_missingOf_2 rfl hl (by decide) rfl (fun ls hl => ?_)
  refine lv_iload_n hx hb dX7_missingOf_3 rfl (lv_at hl 2 rfl) ?_
  refine lv_istore_n (lv' := [(3, .int p1), (2, .int (60 : Int32)), (0, .ref (a 22)), (1, .int p1)]) hx hb dX7_missingOf_4 rfl hl (by decide) rfl (fun ls hl => ?_)
  have hl5 : ∀ (v1 : Int32) (kf : Nat) (v2 : Int32) (v3 : Int32) (x4 : bq_S) (eo : Int32 × Int32 × bq_S) (H : Heap) (locs : List Loc) (ls : Array Slot), wh kf (fX7_missingOf_b5 n v1) (v2, v3, x4) = some eo → va_P D bq_cl (bq_wC a k x4) H → va_S A s.heap H locs → lv_has ls 4 [(0, .ref (a 22)), (1, .int v1), (2, .int v2), (3, .int v3)] → (∀ (H : Heap) (locs : List Loc) (ls : Array Slot) (v10 : Int32) (v11 : Int32) (x12 : bq_S), eo = (v10, v11, x12) → va_P D bq_cl (bq_wC a k x12) H → va_S A s.heap H locs → lv_has ls 4 [(1, .int v1), (2, .int v10)] → W p l e { frames := 1, cells := 0, slots := 0, locals := 21 } s m [.ref (a 22), .int p1].toArray below meth c H locs 0 0 Q (F0 m 28 ls [])) → W p l e { frames := 1, cells := 0, slots := 0, locals := 21 } s m [.ref (a 22), .int p1].toArray below meth c H locs 0 0 Q (F0 m 5 ls []) := by
    intro v1 kf
    induction kf with
    | zero => intro v2 v3 x4 eo H locs ls h; cases h
    | succ kf ih =>
      intro v2 v3 x4 eo H locs ls h hP hS hl kx
      obtain ⟨out, h, hw⟩ := wh_s h
      unfold fX7_missingOf_b5 at h
      replace h := un3_e h
      refine lv_iload_n hx hb dX7_missingOf_5 rfl (lv_at hl 3 rfl) ?_
      refine lv_bipush (v := (8 : Int32)) hx hb dX7_missingOf_6 (by decide) ?_
      refine lv_icmp_ge (tgt := 28) hx hb dX7_missingOf_8 (by decide) (fun c5 => ?_) (fun c5 => ?_)
      · replace h := (if_pos c5).symm.trans h
        cases h
        exact kx _ _ _ _ _ _ (Option.some.inj hw).symm hP hS (lv_sub hl [1, 2] rfl)
      · replace h := (if_neg c5).symm.trans h
        refine lv_iload_n hx hb dX7_missingOf_11 rfl (lv_at hl 2 rfl) ?_
        refine lv_aload_n hx hb dX7_missingOf_12 rfl (lv_at hl 0 rfl) ?_
        refine bq_get (q0 := 22) S hK hP fl_X7_15_X7_1 rfl rfl rfl dX7_missingOf_13 ?_
        refine lv_iload_n hx hb dX7_missingOf_16 rfl (lv_at hl 3 rfl) ?_
        obtain ⟨g6, h⟩ := bq_gd h
        refine va_iald (D := D) hx hb hK hP 24 0 rfl rfl g6 dX7_missingOf_17 ?_
        refine va_mmin hx hb (hml.trans hl.1.symm) hown (hts _ ml_X7_76) (hts _ st_yJ9_min_7cf53) (hts _ ini_Math) (hts _ cd_Math_min) (by decide) (Nat.le_of_ble_eq_true rfl) (Nat.zero_le _) (Nat.zero_le _) dX7_missingOf_18 ?_
        refine lv_topi (fun v7 hv7 => ?_)
        replace h := bq_bv h hv7
        refine lv_istore_n (lv' := [(2, .int v7), (0, .ref (a 22)), (1, .int v1), (3, .int v3)]) hx hb dX7_missingOf_21 rfl hl (by decide) rfl (fun ls hl => ?_)
        obtain ⟨v8, hv8, h⟩ := bq_b h
        refine lv_iinc (v := v8) (lv' := [(3, .int v8), (2, .int v7), (0, .ref (a 22)), (1, .int v1)]) hx hb dX7_missingOf_22 hl (k := 3) rfl (by rw [hv8]; rfl) (by decide) rfl (fun ls hl => ?_)
        refine lv_goto (tgt := 5) hx hb dX7_missingOf_25 (by decide) ?_
        cases h
        exact ih _ _ _ _ _ _ _ hw hP hS (lv_sub hl [2, 3, 1, 0] rfl) kx
  obtain ⟨e9, he9, h⟩ := Option.bind_eq_some_iff.mp h
  refine hl5 _ n _ _ _ e9 _ _ _ he9 hP hS (lv_sub hl [2, 3, 1, 0] rfl) (fun H locs ls v10 v11 x12 hz hP hS hl => ?_)
  subst hz
  replace h := un3_e h
  refine lv_iload_n hx hb dX7_missingOf_28 rfl (lv_at hl 1 rfl) ?_
  refine lv_bipush (v := (60 : Int32)) hx hb dX7_missingOf_29 (by decide) ?_
  refine lv_icmp_ne (tgt := 38) hx hb dX7_missingOf_31 (by decide) (fun c13 => ?_) (fun c13 => ?_)
  · replace h := (if_neg c13).symm.trans h
    refine lv_bipush (v := (-20 : Int32)) hx hb dX7_missingOf_38 (by decide) ?_
    refine lv_iload_n hx hb dX7_missingOf_40 rfl (lv_at hl 1 rfl) ?_
    refine lv_isub hx hb dX7_missingOf_41 ?_
    obtain ⟨e1, e2⟩ := Prod.mk.inj (hret _ h)
    exact hR _ _ _ _ _ (congrArg some e1) rfl (by rw [e2]; exact hP) hS dX7_missingOf_42
  · replace h := (if_pos c13).symm.trans h
    refine lv_iload_n hx hb dX7_missingOf_34 rfl (lv_at hl 0 rfl) ?_
    refine lv_goto (tgt := 42) hx hb dX7_missingOf_35 (by decide) ?_
    obtain ⟨e1, e2⟩ := Prod.mk.inj (hret _ h)
    exact hR _ _ _ _ _ (congrArg some e1) rfl (by rw [e2]; exact hP) hS dX7_missingOf_42
def fX7_readBooks_j76 (n : Nat) (x19 : bq_S) : Option ((Int32 × bq_S) ⊕ ((Int32 × bq_S) ⊕ (Int32 × bq_S))) :=
  some (.inr (.inr (((-20 : Int32) - (x19.1 22 3)), x19)))
def fX7_readBooks_b20 (n : Nat) (r6 : Nat) (v : Int32 × bq_S) : Option ((Int32 × bq_S) ⊕ ((Int32 × bq_S) ⊕ (Int32 × bq_S))) :=
  un2 v (fun v7 x8 =>
  if (8 : Int32) ≤ v7 then
  some (.inr (.inl (v7, x8)))
  else
  (fX7_readBook n r6 v7 x8).bind (fun o10 => un2 o10 (fun v12 x11 =>
  if v12 = 0 then
  some (.inr (.inr (((-20 : Int32) - (x11.1 22 3)), x11)))
  else
  (fX7_look n  x11).bind (fun o14 => un2 o14 (fun v16 x15 =>
  if v16 = (-1 : Int32) then
  (fX7_missingOf n (x15.1 r6 0) x15).bind (fun o23 => un2 o23 (fun v25 x24 =>
  some (.inr (.inr (v25, x24)))))
  else
  if v16 = (59 : Int32) then
  if (v7 + (1 : Int32)) = (8 : Int32) then
  fX7_readBooks_j76 n x15
  else
  bd (bq_sI x15 22 3 ((x15.1 22 3) + (1 : Int32))) (fun x21 =>
  bd (v7 + (1 : Int32)) (fun v22 =>
  some (.inl (v22, x21))))
  else
  fX7_readBooks_j76 n x15)))))
def fX7_readBooks (n : Nat) (q1 : Nat) (x0 : bq_S) : Option (Int32 × bq_S) :=
  (fX4_clearBooks n q1 x0).bind (fun x2 =>
  (fJ7_fill n 24 8 (60 : Int32) x2).bind (fun x4 =>
  bd (bq_sI x4 22 3 (0 : Int32)) (fun x5 =>
  (wh n (fX7_readBooks_b20 n q1) ((0 : Int32), x5)).bind (fun e26 =>
  Sum.elim (fun z => un2 z (fun v27 x28 =>
  some (((-20 : Int32) - (x28.1 22 3)), x28))) (fun z => some z) e26))))
theorem dX7_readBooks_0 : decode cX7_readBooks 0 = .ok (.aload_n 1, 1) := by decide +kernel
theorem dX7_readBooks_1 : decode cX7_readBooks 1 = .ok (.invokevirtual 30, 3) := by decide +kernel
theorem dX7_readBooks_4 : decode cX7_readBooks 4 = .ok (.aload_n 0, 1) := by decide +kernel
theorem dX7_readBooks_5 : decode cX7_readBooks 5 = .ok (.getfield 15, 3) := by decide +kernel
theorem dX7_readBooks_8 : decode cX7_readBooks 8 = .ok (.bipush 60, 2) := by decide +kernel
theorem dX7_readBooks_10 : decode cX7_readBooks 10 = .ok (.invokestatic 35, 3) := by decide +kernel
theorem dX7_readBooks_13 : decode cX7_readBooks 13 = .ok (.aload_n 0, 1) := by decide +kernel
theorem dX7_readBooks_14 : decode cX7_readBooks 14 = .ok (.iconst 0, 1) := by decide +kernel
theorem dX7_readBooks_15 : decode cX7_readBooks 15 = .ok (.putfield 23, 3) := by decide +kernel
theorem dX7_readBooks_18 : decode cX7_readBooks 18 = .ok (.iconst 0, 1) := by decide +kernel
theorem dX7_readBooks_19 : decode cX7_readBooks 19 = .ok (.istore_n 2, 1) := by decide +kernel
theorem dX7_readBooks_20 : decode cX7_readBooks 20 = .ok (.iload_n 2, 1) := by decide +kernel
theorem dX7_readBooks_21 : decode cX7_readBooks 21 = .ok (.bipush 8, 2) := by decide +kernel
theorem dX7_readBooks_23 : decode cX7_readBooks 23 = .ok (.if_icmp .ge 77, 3) := by decide +kernel
theorem dX7_readBooks_26 : decode cX7_readBooks 26 = .ok (.aload_n 0, 1) := by decide +kernel
theorem dX7_readBooks_27 : decode cX7_readBooks 27 = .ok (.aload_n 1, 1) := by decide +kernel
theorem dX7_readBooks_28 : decode cX7_readBooks 28 = .ok (.iload_n 2, 1) := by decide +kernel
theorem dX7_readBooks_29 : decode cX7_readBooks 29 = .ok (.invokevirtual 41, 3) := by decide +kernel
theorem dX7_readBooks_32 : decode cX7_readBooks 32 = .ok (.ifCond .ne 11, 3) := by decide +kernel
theorem dX7_readBooks_35 : decode cX7_readBooks 35 = .ok (.bipush (-20), 2) := by decide +kernel
theorem dX7_readBooks_37 : decode cX7_readBooks 37 = .ok (.aload_n 0, 1) := by decide +kernel
theorem dX7_readBooks_38 : decode cX7_readBooks 38 = .ok (.getfield 23, 3) := by decide +kernel
theorem dX7_readBooks_41 : decode cX7_readBooks 41 = .ok (.isub, 1) := by decide +kernel
theorem dX7_readBooks_42 : decode cX7_readBooks 42 = .ok (.ireturn, 1) := by decide +kernel
theorem dX7_readBooks_43 : decode cX7_readBooks 43 = .ok (.aload_n 0, 1) := by decide +kernel
theorem dX7_readBooks_44 : decode cX7_readBooks 44 = .ok (.invokevirtual 45, 3) := by decide +kernel
theorem dX7_readBooks_47 : decode cX7_readBooks 47 = .ok (.istore_n 3, 1) := by decide +kernel
theorem dX7_readBooks_48 : decode cX7_readBooks 48 = .ok (.iload_n 3, 1) := by decide +kernel
theorem dX7_readBooks_49 : decode cX7_readBooks 49 = .ok (.iconst (-1), 1) := by decide +kernel
theorem dX7_readBooks_50 : decode cX7_readBooks 50 = .ok (.if_icmp .ne 12, 3) := by decide +kernel
theorem dX7_readBooks_53 : decode cX7_readBooks 53 = .ok (.aload_n 0, 1) := by decide +kernel
theorem dX7_readBooks_54 : decode cX7_readBooks 54 = .ok (.aload_n 1, 1) := by decide +kernel
theorem dX7_readBooks_55 : decode cX7_readBooks 55 = .ok (.getfield 49, 3) := by decide +kernel
theorem dX7_readBooks_58 : decode cX7_readBooks 58 = .ok (.invokevirtual 52, 3) := by decide +kernel
theorem dX7_readBooks_61 : decode cX7_readBooks 61 = .ok (.ireturn, 1) := by decide +kernel
theorem dX7_readBooks_62 : decode cX7_readBooks 62 = .ok (.iload_n 3, 1) := by decide +kernel
theorem dX7_readBooks_63 : decode cX7_readBooks 63 = .ok (.bipush 59, 2) := by decide +kernel
theorem dX7_readBooks_65 : decode cX7_readBooks 65 = .ok (.if_icmp .ne 11, 3) := by decide +kernel
theorem dX7_readBooks_68 : decode cX7_readBooks 68 = .ok (.iload_n 2, 1) := by decide +kernel
theorem dX7_readBooks_69 : decode cX7_readBooks 69 = .ok (.iconst 1, 1) := by decide +kernel
theorem dX7_readBooks_70 : decode cX7_readBooks 70 = .ok (.iadd, 1) := by decide +kernel
theorem dX7_readBooks_71 : decode cX7_readBooks 71 = .ok (.bipush 8, 2) := by decide +kernel
theorem dX7_readBooks_73 : decode cX7_readBooks 73 = .ok (.if_icmp .ne 11, 3) := by decide +kernel
theorem dX7_readBooks_76 : decode cX7_readBooks 76 = .ok (.bipush (-20), 2) := by decide +kernel
theorem dX7_readBooks_78 : decode cX7_readBooks 78 = .ok (.aload_n 0, 1) := by decide +kernel
theorem dX7_readBooks_79 : decode cX7_readBooks 79 = .ok (.getfield 23, 3) := by decide +kernel
theorem dX7_readBooks_82 : decode cX7_readBooks 82 = .ok (.isub, 1) := by decide +kernel
theorem dX7_readBooks_83 : decode cX7_readBooks 83 = .ok (.ireturn, 1) := by decide +kernel
theorem dX7_readBooks_84 : decode cX7_readBooks 84 = .ok (.aload_n 0, 1) := by decide +kernel
theorem dX7_readBooks_85 : decode cX7_readBooks 85 = .ok (.dup, 1) := by decide +kernel
theorem dX7_readBooks_86 : decode cX7_readBooks 86 = .ok (.getfield 23, 3) := by decide +kernel
theorem dX7_readBooks_89 : decode cX7_readBooks 89 = .ok (.iconst 1, 1) := by decide +kernel
theorem dX7_readBooks_90 : decode cX7_readBooks 90 = .ok (.iadd, 1) := by decide +kernel
theorem dX7_readBooks_91 : decode cX7_readBooks 91 = .ok (.putfield 23, 3) := by decide +kernel
theorem dX7_readBooks_94 : decode cX7_readBooks 94 = .ok (.iinc 2 1, 3) := by decide +kernel
theorem dX7_readBooks_97 : decode cX7_readBooks 97 = .ok (.goto (-77), 3) := by decide +kernel
theorem dX7_readBooks_100 : decode cX7_readBooks 100 = .ok (.bipush (-20), 2) := by decide +kernel
theorem dX7_readBooks_102 : decode cX7_readBooks 102 = .ok (.aload_n 0, 1) := by decide +kernel
theorem dX7_readBooks_103 : decode cX7_readBooks 103 = .ok (.getfield 23, 3) := by decide +kernel
theorem dX7_readBooks_106 : decode cX7_readBooks 106 = .ok (.isub, 1) := by decide +kernel
theorem dX7_readBooks_107 : decode cX7_readBooks 107 = .ok (.ireturn, 1) := by decide +kernel
set_option maxHeartbeats 4000000 in
set_option maxRecDepth 100000 in
theorem cX7_readBooks_k_22_15 {l : Launch} {D : va_G} {a : Nat → Nat} {k : Nat → ClassId} {n : Nat} {x0 xz : bq_S} {rz : Int32} (h : fX7_readBooks n 15 x0 = some (rz, xz)) : bq_M l D bq_cl (bq_ty k) (bq_wC a k) yX7_readBooks cX7_readBooks 4 (some .int) { frames := 5, cells := 0, slots := 0, locals := 113 } [.ref (a 22), .ref (a 15)] x0 (some rz) xz := by
  refine bq_ofW RX7 [(0, .ref (a 22)), (1, .ref (a 15))] (by decide +kernel) rfl (Nat.le_of_ble_eq_true rfl) rfl (bq_adC a k) ?_
  intro p e s m below meth c A Q ls S hK hD hA hR hS hP hl
  have hx := S.1; have hb := S.2.1; have hml := S.2.2.1; have hown := S.2.2.2.1; have hts := S.2.2.2.2
  have hret : ∀ z, some z = some (rz, xz) → (rz, xz) = z := fun z h => (Option.some.inj h).symm
  unfold fX7_readBooks at h
  refine lv_aload_n hx hb dX7_readBooks_0 rfl (lv_at hl 1 rfl) ?_
  obtain ⟨x2, ho1, h⟩ := Option.bind_eq_some_iff.mp h
  refine bq_callVv (q0 := 15) (As := []) S hK hD hA hP hS (cX4_clearBooks_k_15 ho1) hd_yX4_clearBooks ml_X7_30 in_yX4_clearBooks (hts _ sl_X4_X4_yX4_clearBooks) ⟨rfl, rfl⟩ ⟨by decide, by decide⟩ rfl rfl rfl hl.1 rfl (Nat.le_of_ble_eq_true rfl) ⟨Nat.zero_le _, Nat.zero_le _⟩ dX7_readBooks_1 (fun H locs hP hS => ?_)
  refine lv_aload_n hx hb dX7_readBooks_4 rfl (lv_at hl 0 rfl) ?_
  refine bq_get (q0 := 22) S hK hP fl_X7_15_X7_1 rfl rfl rfl dX7_readBooks_5 ?_
  refine lv_bipush (v := (60 : Int32)) hx hb dX7_readBooks_8 (by decide) ?_
  obtain ⟨x4, ho3, h⟩ := Option.bind_eq_some_iff.mp h
  refine bq_callSv (As := [.ref (a 24), .int _]) S hK hD hA hP hS (cJ7_fill_k_24 ho3) hd_yJ7_fill_53178 ml_X7_35 st_yJ7_fill_53178 ⟨rfl, rfl⟩ ⟨by decide, by decide⟩ rfl hl.1 rfl (Nat.le_of_ble_eq_true rfl) ⟨Nat.zero_le _, Nat.zero_le _⟩ dX7_readBooks_10 (fun H locs hP hS => ?_)
  refine lv_aload_n hx hb dX7_readBooks_13 rfl (lv_at hl 0 rfl) ?_
  refine lv_iconst (v := (0 : Int32)) hx hb dX7_readBooks_14 (by decide) ?_
  obtain ⟨x5, hx5, h⟩ := bq_b h
  refine bq_put (x1 := x5) (q0 := 22) (ty := .int) S hK hD hP hS fl_X7_23_X7_3 bt_X7 rfl (by decide +kernel) rfl rfl (Nat.le_of_ble_eq_true rfl) rfl rfl (by rw [hx5]; rfl) dX7_readBooks_15 (fun H locs hP hS => ?_)
  refine lv_iconst (v := (0 : Int32)) hx hb dX7_readBooks_18 (by decide) ?_
  refine lv_istore_n (lv' := [(2, .int (0 : Int32)), (0, .ref (a 22)), (1, .ref (a 15))]) hx hb dX7_readBooks_19 rfl hl (by decide) rfl (fun ls hl => ?_)
  have hl20 : ∀ (kf : Nat) (v7 : Int32) (x8 : bq_S) (eo : (Int32 × bq_S) ⊕ (Int32 × bq_S)) (H : Heap) (locs : List Loc) (ls : Array Slot), wh kf (fX7_readBooks_b20 n 15) (v7, x8) = some eo → va_P D bq_cl (bq_wC a k x8) H → va_S A s.heap H locs → lv_has ls 4 [(0, .ref (a 22)), (1, .ref (a 15)), (2, .int v7)] → (∀ (H : Heap) (locs : List Loc) (ls : Array Slot) (v27 : Int32) (x28 : bq_S), eo = .inl (v27, x28) → va_P D bq_cl (bq_wC a k x28) H → va_S A s.heap H locs → lv_has ls 4 [(0, .ref (a 22))] → W p l e { frames := 5, cells := 0, slots := 0, locals := 113 } s m [.ref (a 22), .ref (a 15)].toArray below meth c H locs 0 0 Q (F0 m 100 ls [])) → (∀ z, eo = .inr z → (rz, xz) = z) → W p l e { frames := 5, cells := 0, slots := 0, locals := 113 } s m [.ref (a 22), .ref (a 15)].toArray below meth c H locs 0 0 Q (F0 m 20 ls []) := by
    intro  kf
    induction kf with
    | zero => intro v7 x8 eo H locs ls h; cases h
    | succ kf ih =>
      intro v7 x8 eo H locs ls h hP hS hl kx kr
      obtain ⟨out, h, hw⟩ := wh_s h
      have hret : ∀ z, (some (.inr (.inr z)) : Option ((Int32 × bq_S) ⊕ ((Int32 × bq_S) ⊕ (Int32 × bq_S)))) = some out → (rz, xz) = z := fun z h => kr z (by cases h; exact (Option.some.inj hw).symm)
      unfold fX7_readBooks_b20 at h
      replace h := un2_e h
      have hj76 : ∀ (x19 : bq_S) (H : Heap) (locs : List Loc) (ls : Array Slot), fX7_readBooks_j76 n x19 = some out → va_P D bq_cl (bq_wC a k x19) H → va_S A s.heap H locs → lv_has ls 4 [(0, .ref (a 22))] → W p l e { frames := 5, cells := 0, slots := 0, locals := 113 } s m [.ref (a 22), .ref (a 15)].toArray below meth c H locs 0 0 Q (F0 m 76 ls []) := by
        intro  x19 H locs ls h hP hS hl
        unfold fX7_readBooks_j76 at h
        refine lv_bipush (v := (-20 : Int32)) hx hb dX7_readBooks_76 (by decide) ?_
        refine lv_aload_n hx hb dX7_readBooks_78 rfl (lv_at hl 0 rfl) ?_
        refine bq_get (q0 := 22) S hK hP fl_X7_23_X7_3 rfl rfl rfl dX7_readBooks_79 ?_
        refine lv_isub hx hb dX7_readBooks_82 ?_
        obtain ⟨e1, e2⟩ := Prod.mk.inj (hret _ h)
        exact hR _ _ _ _ _ (congrArg some e1) rfl (by rw [e2]; exact hP) hS dX7_readBooks_83
      refine lv_iload_n hx hb dX7_readBooks_20 rfl (lv_at hl 2 rfl) ?_
      refine lv_bipush (v := (8 : Int32)) hx hb dX7_readBooks_21 (by decide) ?_
      refine lv_icmp_ge (tgt := 100) hx hb dX7_readBooks_23 (by decide) (fun c9 => ?_) (fun c9 => ?_)
      · replace h := (if_pos c9).symm.trans h
        cases h
        exact kx _ _ _ _ _ (Option.some.inj hw).symm hP hS (lv_sub hl [0] rfl)
      · replace h := (if_neg c9).symm.trans h
        refine lv_aload_n hx hb dX7_readBooks_26 rfl (lv_at hl 0 rfl) ?_
        refine lv_aload_n hx hb dX7_readBooks_27 rfl (lv_at hl 1 rfl) ?_
        refine lv_iload_n hx hb dX7_readBooks_28 rfl (lv_at hl 2 rfl) ?_
        obtain ⟨o10, ho10, h⟩ := Option.bind_eq_some_iff.mp h
        obtain ⟨v12, x11⟩ := o10
        replace h := un2_e h
        refine bq_callVi (q0 := 22) (As := [.ref (a 15), .int _]) S hK hD hA hP hS (cX7_readBook_k_22_15 ho10) hd_yX7_readBook ml_X7_41 in_yX7_readBook (hts _ sl_X7_X7_yX7_readBook) ⟨rfl, rfl⟩ ⟨by decide, by decide⟩ rfl rfl rfl hl.1 rfl (Nat.le_of_ble_eq_true rfl) ⟨Nat.zero_le _, Nat.zero_le _⟩ dX7_readBooks_29 (fun H locs hP hS => ?_)
        refine lv_if_ne (tgt := 43) hx hb dX7_readBooks_32 (by decide) (fun c13 => ?_) (fun c13 => ?_)
        · replace h := (if_neg c13).symm.trans h
          refine lv_aload_n hx hb dX7_readBooks_43 rfl (lv_at hl 0 rfl) ?_
          obtain ⟨o14, ho14, h⟩ := Option.bind_eq_some_iff.mp h
          obtain ⟨v16, x15⟩ := o14
          replace h := un2_e h
          refine bq_callVi (q0 := 22) (As := []) S hK hD hA hP hS (cX7_look_k_22 ho14) hd_yX7_look ml_X7_45 in_yX7_look (hts _ sl_X7_X7_yX7_look) ⟨rfl, rfl⟩ ⟨by decide, by decide⟩ rfl rfl rfl hl.1 rfl (Nat.le_of_ble_eq_true rfl) ⟨Nat.zero_le _, Nat.zero_le _⟩ dX7_readBooks_44 (fun H locs hP hS => ?_)
          refine lv_istore_n (lv' := [(3, .int v16), (0, .ref (a 22)), (1, .ref (a 15)), (2, .int v7)]) hx hb dX7_readBooks_47 rfl hl (by decide) rfl (fun ls hl => ?_)
          refine lv_iload_n hx hb dX7_readBooks_48 rfl (lv_at hl 0 rfl) ?_
          refine lv_iconst (v := (-1 : Int32)) hx hb dX7_readBooks_49 (by decide) ?_
          refine lv_icmp_ne (tgt := 62) hx hb dX7_readBooks_50 (by decide) (fun c17 => ?_) (fun c17 => ?_)
          · replace h := (if_neg c17).symm.trans h
            refine lv_iload_n hx hb dX7_readBooks_62 rfl (lv_at hl 0 rfl) ?_
            refine lv_bipush (v := (59 : Int32)) hx hb dX7_readBooks_63 (by decide) ?_
            refine lv_icmp_ne (tgt := 76) hx hb dX7_readBooks_65 (by decide) (fun c18 => ?_) (fun c18 => ?_)
            · replace h := (if_neg c18).symm.trans h
              exact hj76  _ _ _ _ h hP hS (lv_sub hl [1] rfl)
            · replace h := (if_pos c18).symm.trans h
              refine lv_iload_n hx hb dX7_readBooks_68 rfl (lv_at hl 3 rfl) ?_
              refine lv_iconst (v := (1 : Int32)) hx hb dX7_readBooks_69 (by decide) ?_
              refine lv_iadd hx hb dX7_readBooks_70 ?_
              refine lv_bipush (v := (8 : Int32)) hx hb dX7_readBooks_71 (by decide) ?_
              refine lv_icmp_ne (tgt := 84) hx hb dX7_readBooks_73 (by decide) (fun c20 => ?_) (fun c20 => ?_)
              · replace h := (if_neg c20).symm.trans h
                refine lv_aload_n hx hb dX7_readBooks_84 rfl (lv_at hl 1 rfl) ?_
                refine lv_dup hx hb dX7_readBooks_85 rfl ?_
                refine bq_get (q0 := 22) S hK hP fl_X7_23_X7_3 rfl rfl rfl dX7_readBooks_86 ?_
                refine lv_iconst (v := (1 : Int32)) hx hb dX7_readBooks_89 (by decide) ?_
                refine lv_iadd hx hb dX7_readBooks_90 ?_
                obtain ⟨x21, hx21, h⟩ := bq_b h
                refine bq_put (x1 := x21) (q0 := 22) (ty := .int) S hK hD hP hS fl_X7_23_X7_3 bt_X7 rfl (by decide +kernel) rfl rfl (Nat.le_of_ble_eq_true rfl) rfl rfl (by rw [hx21]; rfl) dX7_readBooks_91 (fun H locs hP hS => ?_)
                obtain ⟨v22, hv22, h⟩ := bq_b h
                refine lv_iinc (v := v22) (lv' := [(2, .int v22), (3, .int v16), (0, .ref (a 22)), (1, .ref (a 15))]) hx hb dX7_readBooks_94 hl (k := 3) rfl (by rw [hv22]; rfl) (by decide) rfl (fun ls hl => ?_)
                refine lv_goto (tgt := 20) hx hb dX7_readBooks_97 (by decide) ?_
                cases h
                exact ih _ _ _ _ _ _ hw hP hS (lv_sub hl [2, 3, 0] rfl) kx kr
              · replace h := (if_pos c20).symm.trans h
                exact hj76  _ _ _ _ h hP hS (lv_sub hl [1] rfl)
          · replace h := (if_pos c17).symm.trans h
            refine lv_aload_n hx hb dX7_readBooks_53 rfl (lv_at hl 1 rfl) ?_
            refine lv_aload_n hx hb dX7_readBooks_54 rfl (lv_at hl 2 rfl) ?_
            refine bq_get (q0 := 15) S hK hP fl_X7_49_X4_0 rfl rfl rfl dX7_readBooks_55 ?_
            obtain ⟨o23, ho23, h⟩ := Option.bind_eq_some_iff.mp h
            obtain ⟨v25, x24⟩ := o23
            replace h := un2_e h
            refine bq_callVi (q0 := 22) (As := [.int _]) S hK hD hA hP hS (cX7_missingOf_k_22 ho23) hd_yX7_missingOf ml_X7_52 in_yX7_missingOf (hts _ sl_X7_X7_yX7_missingOf) ⟨rfl, rfl⟩ ⟨by decide, by decide⟩ rfl rfl rfl hl.1 rfl (Nat.le_of_ble_eq_true rfl) ⟨Nat.zero_le _, Nat.zero_le _⟩ dX7_readBooks_58 (fun H locs hP hS => ?_)
            obtain ⟨e1, e2⟩ := Prod.mk.inj (hret _ h)
            exact hR _ _ _ _ _ (congrArg some e1) rfl (by rw [e2]; exact hP) hS dX7_readBooks_61
        · replace h := (if_pos c13).symm.trans h
          refine lv_bipush (v := (-20 : Int32)) hx hb dX7_readBooks_35 (by decide) ?_
          refine lv_aload_n hx hb dX7_readBooks_37 rfl (lv_at hl 0 rfl) ?_
          refine bq_get (q0 := 22) S hK hP fl_X7_23_X7_3 rfl rfl rfl dX7_readBooks_38 ?_
          refine lv_isub hx hb dX7_readBooks_41 ?_
          obtain ⟨e1, e2⟩ := Prod.mk.inj (hret _ h)
          exact hR _ _ _ _ _ (congrArg some e1) rfl (by rw [e2]; exact hP) hS dX7_readBooks_42
  obtain ⟨e26, he26, h⟩ := Option.bind_eq_some_iff.mp h
  refine hl20 n _ _ e26 _ _ _ he26 hP hS (lv_sub hl [1, 2, 0] rfl) (fun H locs ls v27 x28 hz hP hS hl => ?_) (fun z hz => hret z (bq_ir h hz :))
  replace h := bq_il h hz
  replace h := un2_e h
  refine lv_bipush (v := (-20 : Int32)) hx hb dX7_readBooks_100 (by decide) ?_
  refine lv_aload_n hx hb dX7_readBooks_102 rfl (lv_at hl 0 rfl) ?_
  refine bq_get (q0 := 22) S hK hP fl_X7_23_X7_3 rfl rfl rfl dX7_readBooks_103 ?_
  refine lv_isub hx hb dX7_readBooks_106 ?_
  obtain ⟨e1, e2⟩ := Prod.mk.inj (hret _ h)
  exact hR _ _ _ _ _ (congrArg some e1) rfl (by rw [e2]; exact hP) hS dX7_readBooks_107
def fX7_clear (x0 : bq_S) : Option (bq_S) :=
  bd (bq_sI x0 22 2 (0 : Int32)) (fun x1 =>
  some x1)
theorem dX7_clear_0 : decode cX7_clear 0 = .ok (.aload_n 0, 1) := by decide +kernel
theorem dX7_clear_1 : decode cX7_clear 1 = .ok (.iconst 0, 1) := by decide +kernel
theorem dX7_clear_2 : decode cX7_clear 2 = .ok (.putfield 19, 3) := by decide +kernel
theorem dX7_clear_5 : decode cX7_clear 5 = .ok (.return_, 1) := by decide +kernel
set_option maxHeartbeats 4000000 in
set_option maxRecDepth 100000 in
theorem cX7_clear_k_22 {l : Launch} {D : va_G} {a : Nat → Nat} {k : Nat → ClassId} {x0 xz : bq_S} (h : fX7_clear   x0 = some xz) : bq_M l D bq_cl (bq_ty k) (bq_wC a k) yX7_clear cX7_clear 1 none { frames := 0, cells := 0, slots := 0, locals := 0 } [.ref (a 22)] x0 none xz := by
  refine bq_ofWv RX7 [(0, .ref (a 22))] (by decide +kernel) rfl (Nat.le_of_ble_eq_true rfl) rfl (bq_adC a k) ?_
  intro p e s m below meth c A Q ls S hK hD hA hR hS hP hl
  have hx := S.1; have hb := S.2.1; have hml := S.2.2.1; have hown := S.2.2.2.1; have hts := S.2.2.2.2
  have hret : ∀ z, some z = some xz → xz = z := fun z h => (Option.some.inj h).symm
  unfold fX7_clear at h
  refine lv_aload_n hx hb dX7_clear_0 rfl (lv_at hl 0 rfl) ?_
  refine lv_iconst (v := (0 : Int32)) hx hb dX7_clear_1 (by decide) ?_
  obtain ⟨x1, hx1, h⟩ := bq_b h
  refine bq_put (x1 := x1) (q0 := 22) (ty := .int) S hK hD hP hS fl_X7_19_X7_2 bt_X7 rfl (by decide +kernel) rfl rfl (Nat.le_of_ble_eq_true rfl) rfl rfl (by rw [hx1]; rfl) dX7_clear_2 (fun H locs hP hS => ?_)
  have e2 := hret _ h
  exact hR _ _ _ _ rfl (by rw [e2]; exact hP) hS dX7_clear_5
set_option maxHeartbeats 4000000 in
set_option maxRecDepth 100000 in
theorem cJ7_fill_k_4 {l : Launch} {D : va_G} {a : Nat → Nat} {k : Nat → ClassId} {n : Nat} {p1 : Int32} {x0 xz : bq_S} (h : fJ7_fill n 4 8 p1 x0 = some xz) : bq_M l D bq_cl (bq_ty k) (bq_wC a k) yJ7_fill_53178 cJ7_fill_53178 4 none { frames := 0, cells := 0, slots := 0, locals := 0 } [.ref (a 4), .int p1] x0 none xz := by
  refine bq_ofWv RJ7 [(0, .ref (a 4)), (1, .int p1)] (by decide +kernel) rfl (Nat.le_of_ble_eq_true rfl) rfl (bq_adC a k) ?_
  intro p e s m below meth c A Q ls S hK hD hA hR hS hP hl
  have hx := S.1; have hb := S.2.1; have hml := S.2.2.1; have hown := S.2.2.2.1; have hts := S.2.2.2.2
  have hret : ∀ z, some z = some xz → xz = z := fun z h => (Option.some.inj h).symm
  unfold fJ7_fill at h
  refine lv_iconst (v := (0 : Int32)) hx hb dJ7_fill_53178_0 (by decide) ?_
  refine lv_istore_n (lv' := [(2, .int (0 : Int32)), (0, .ref (a 4)), (1, .int p1)]) hx hb dJ7_fill_53178_1 rfl hl (by decide) rfl (fun ls hl => ?_)
  refine lv_aload_n hx hb dJ7_fill_53178_2 rfl (lv_at hl 1 rfl) ?_
  refine va_alen (D := D) (v := (8 : Int32)) hx hb hK hP 4 0 rfl rfl rfl dJ7_fill_53178_3 ?_
  refine lv_topi (fun v1 hv1 => ?_)
  replace h := bq_bv h hv1
  refine lv_istore_n (lv' := [(3, .int v1), (2, .int (0 : Int32)), (0, .ref (a 4)), (1, .int p1)]) hx hb dJ7_fill_53178_4 rfl hl (by decide) rfl (fun ls hl => ?_)
  have hl5 : ∀ (v4 : Int32) (v6 : Int32) (kf : Nat) (v5 : Int32) (x7 : bq_S) (eo : Int32 × bq_S) (H : Heap) (locs : List Loc) (ls : Array Slot), wh kf (fJ7_fill_b5 n 4 8 v4 v6) (v5, x7) = some eo → va_P D bq_cl (bq_wC a k x7) H → va_S A s.heap H locs → lv_has ls 4 [(0, .ref (a 4)), (1, .int v4), (2, .int v5), (3, .int v6)] → (∀ (H : Heap) (locs : List Loc) (ls : Array Slot) (v13 : Int32) (x14 : bq_S), eo = (v13, x14) → va_P D bq_cl (bq_wC a k x14) H → va_S A s.heap H locs → lv_has ls 4 [] → W p l e { frames := 0, cells := 0, slots := 0, locals := 0 } s m [.ref (a 4), .int p1].toArray below meth c H locs 0 0 Q (F0 m 20 ls [])) → W p l e { frames := 0, cells := 0, slots := 0, locals := 0 } s m [.ref (a 4), .int p1].toArray below meth c H locs 0 0 Q (F0 m 5 ls []) := by
    intro v4 v6 kf
    induction kf with
    | zero => intro v5 x7 eo H locs ls h; cases h
    | succ kf ih =>
      intro v5 x7 eo H locs ls h hP hS hl kx
      obtain ⟨out, h, hw⟩ := wh_s h
      unfold fJ7_fill_b5 at h
      replace h := un2_e h
      refine lv_iload_n hx hb dJ7_fill_53178_5 rfl (lv_at hl 2 rfl) ?_
      refine lv_iload_n hx hb dJ7_fill_53178_6 rfl (lv_at hl 3 rfl) ?_
      refine lv_icmp_ge (tgt := 20) hx hb dJ7_fill_53178_7 (by decide) (fun c8 => ?_) (fun c8 => ?_)
      · replace h := (if_pos c8).symm.trans h
        cases h
        exact kx _ _ _ _ _ (Option.some.inj hw).symm hP hS (lv_sub hl [] rfl)
      · replace h := (if_neg c8).symm.trans h
        refine lv_aload_n hx hb dJ7_fill_53178_10 rfl (lv_at hl 0 rfl) ?_
        refine lv_iload_n hx hb dJ7_fill_53178_11 rfl (lv_at hl 2 rfl) ?_
        refine lv_iload_n hx hb dJ7_fill_53178_12 rfl (lv_at hl 1 rfl) ?_
        obtain ⟨g10, h⟩ := bq_gd h
        obtain ⟨x9, hx9, h⟩ := bq_b h
        refine bq_iast (x1 := x9) (q0 := 4) (t0 := 0) S hK hD hP hS rfl rfl g10 (by rw [hx9]; rfl) dJ7_fill_53178_13 (fun H locs hP hS => ?_)
        obtain ⟨v11, hv11, h⟩ := bq_b h
        refine lv_iinc (v := v11) (lv' := [(2, .int v11), (0, .ref (a 4)), (1, .int v4), (3, .int v6)]) hx hb dJ7_fill_53178_14 hl (k := 2) rfl (by rw [hv11]; rfl) (by decide) rfl (fun ls hl => ?_)
        refine lv_goto (tgt := 5) hx hb dJ7_fill_53178_17 (by decide) ?_
        cases h
        exact ih _ _ _ _ _ _ hw hP hS (lv_sub hl [1, 2, 0, 3] rfl) kx
  obtain ⟨e12, he12, h⟩ := Option.bind_eq_some_iff.mp h
  refine hl5 _ _ n _ _ e12 _ _ _ he12 hP hS (lv_sub hl [2, 3, 1, 0] rfl) (fun H locs ls v13 x14 hz hP hS hl => ?_)
  subst hz
  replace h := un2_e h
  have e2 := hret _ h
  exact hR _ _ _ _ rfl (by rw [e2]; exact hP) hS dJ7_fill_53178_20
def fX4_takeBooks (n : Nat) (q0 : Nat) (q1 : Nat) (x0 : bq_S) : Option (bq_S) :=
  bd (bq_sI x0 q0 0 (x0.1 q1 0)) (fun x1 =>
  bd (bq_sI x1 q0 1 (x1.1 q1 1)) (fun x2 =>
  bd (bq_sI x2 q0 2 (0 : Int32)) (fun x3 =>
  if ¬ (0 : Int32) < 0 ∧ ¬ (0 : Int32) < 0 ∧ ¬ (8 : Int32) < 0 ∧ (0 : Int32).toNatClampNeg + (8 : Int32).toNatClampNeg ≤ 8 ∧ (0 : Int32).toNatClampNeg + (8 : Int32).toNatClampNeg ≤ 8 then
  bd (bq_cI x3 (q1 + 1) (q0 + 1) (0 : Int32).toNatClampNeg (0 : Int32).toNatClampNeg (8 : Int32).toNatClampNeg) (fun x5 =>
  if ¬ (0 : Int32) < 0 ∧ ¬ (0 : Int32) < 0 ∧ ¬ (8 : Int32) < 0 ∧ (0 : Int32).toNatClampNeg + (8 : Int32).toNatClampNeg ≤ 8 ∧ (0 : Int32).toNatClampNeg + (8 : Int32).toNatClampNeg ≤ 8 then
  bd (bq_cI x5 (q1 + 2) (q0 + 2) (0 : Int32).toNatClampNeg (0 : Int32).toNatClampNeg (8 : Int32).toNatClampNeg) (fun x7 =>
  (fJ7_fill n (q0 + 3) 8 (0 : Int32) x7).bind (fun x9 =>
  (fX4_learnNear n q0 x9).bind (fun x11 =>
  some x11)))
  else none)
  else none)))
theorem dX4_takeBooks_0 : decode cX4_takeBooks 0 = .ok (.aload_n 0, 1) := by decide +kernel
theorem dX4_takeBooks_1 : decode cX4_takeBooks 1 = .ok (.aload_n 1, 1) := by decide +kernel
theorem dX4_takeBooks_2 : decode cX4_takeBooks 2 = .ok (.getfield 9, 3) := by decide +kernel
theorem dX4_takeBooks_5 : decode cX4_takeBooks 5 = .ok (.putfield 9, 3) := by decide +kernel
theorem dX4_takeBooks_8 : decode cX4_takeBooks 8 = .ok (.aload_n 0, 1) := by decide +kernel
theorem dX4_takeBooks_9 : decode cX4_takeBooks 9 = .ok (.aload_n 1, 1) := by decide +kernel
theorem dX4_takeBooks_10 : decode cX4_takeBooks 10 = .ok (.getfield 15, 3) := by decide +kernel
theorem dX4_takeBooks_13 : decode cX4_takeBooks 13 = .ok (.putfield 15, 3) := by decide +kernel
theorem dX4_takeBooks_16 : decode cX4_takeBooks 16 = .ok (.aload_n 0, 1) := by decide +kernel
theorem dX4_takeBooks_17 : decode cX4_takeBooks 17 = .ok (.iconst 0, 1) := by decide +kernel
theorem dX4_takeBooks_18 : decode cX4_takeBooks 18 = .ok (.putfield 18, 3) := by decide +kernel
theorem dX4_takeBooks_21 : decode cX4_takeBooks 21 = .ok (.aload_n 1, 1) := by decide +kernel
theorem dX4_takeBooks_22 : decode cX4_takeBooks 22 = .ok (.getfield 21, 3) := by decide +kernel
theorem dX4_takeBooks_25 : decode cX4_takeBooks 25 = .ok (.iconst 0, 1) := by decide +kernel
theorem dX4_takeBooks_26 : decode cX4_takeBooks 26 = .ok (.aload_n 0, 1) := by decide +kernel
theorem dX4_takeBooks_27 : decode cX4_takeBooks 27 = .ok (.getfield 21, 3) := by decide +kernel
theorem dX4_takeBooks_30 : decode cX4_takeBooks 30 = .ok (.iconst 0, 1) := by decide +kernel
theorem dX4_takeBooks_31 : decode cX4_takeBooks 31 = .ok (.bipush 8, 2) := by decide +kernel
theorem dX4_takeBooks_33 : decode cX4_takeBooks 33 = .ok (.invokestatic 44, 3) := by decide +kernel
theorem dX4_takeBooks_36 : decode cX4_takeBooks 36 = .ok (.aload_n 1, 1) := by decide +kernel
theorem dX4_takeBooks_37 : decode cX4_takeBooks 37 = .ok (.getfield 25, 3) := by decide +kernel
theorem dX4_takeBooks_40 : decode cX4_takeBooks 40 = .ok (.iconst 0, 1) := by decide +kernel
theorem dX4_takeBooks_41 : decode cX4_takeBooks 41 = .ok (.aload_n 0, 1) := by decide +kernel
theorem dX4_takeBooks_42 : decode cX4_takeBooks 42 = .ok (.getfield 25, 3) := by decide +kernel
theorem dX4_takeBooks_45 : decode cX4_takeBooks 45 = .ok (.iconst 0, 1) := by decide +kernel
theorem dX4_takeBooks_46 : decode cX4_takeBooks 46 = .ok (.bipush 8, 2) := by decide +kernel
theorem dX4_takeBooks_48 : decode cX4_takeBooks 48 = .ok (.invokestatic 44, 3) := by decide +kernel
theorem dX4_takeBooks_51 : decode cX4_takeBooks 51 = .ok (.aload_n 0, 1) := by decide +kernel
theorem dX4_takeBooks_52 : decode cX4_takeBooks 52 = .ok (.getfield 28, 3) := by decide +kernel
theorem dX4_takeBooks_55 : decode cX4_takeBooks 55 = .ok (.iconst 0, 1) := by decide +kernel
theorem dX4_takeBooks_56 : decode cX4_takeBooks 56 = .ok (.invokestatic 57, 3) := by decide +kernel
theorem dX4_takeBooks_59 : decode cX4_takeBooks 59 = .ok (.aload_n 0, 1) := by decide +kernel
theorem dX4_takeBooks_60 : decode cX4_takeBooks 60 = .ok (.invokevirtual 54, 3) := by decide +kernel
theorem dX4_takeBooks_63 : decode cX4_takeBooks 63 = .ok (.return_, 1) := by decide +kernel
set_option maxHeartbeats 4000000 in
set_option maxRecDepth 100000 in
theorem cX4_takeBooks_k_1_15 {l : Launch} {D : va_G} {a : Nat → Nat} {k : Nat → ClassId} {n : Nat} {x0 xz : bq_S} (h : fX4_takeBooks n 1 15 x0 = some xz) : bq_M l D bq_cl (bq_ty k) (bq_wC a k) yX4_takeBooks cX4_takeBooks 2 none { frames := 3, cells := 0, slots := 0, locals := 67 } [.ref (a 1), .ref (a 15)] x0 none xz := by
  refine bq_ofWv RX4 [(0, .ref (a 1)), (1, .ref (a 15))] (by decide +kernel) rfl (Nat.le_of_ble_eq_true rfl) rfl (bq_adC a k) ?_
  intro p e s m below meth c A Q ls S hK hD hA hR hS hP hl
  have hx := S.1; have hb := S.2.1; have hml := S.2.2.1; have hown := S.2.2.2.1; have hts := S.2.2.2.2
  have hret : ∀ z, some z = some xz → xz = z := fun z h => (Option.some.inj h).symm
  unfold fX4_takeBooks at h
  refine lv_aload_n hx hb dX4_takeBooks_0 rfl (lv_at hl 0 rfl) ?_
  refine lv_aload_n hx hb dX4_takeBooks_1 rfl (lv_at hl 1 rfl) ?_
  refine bq_get (q0 := 15) S hK hP fl_X4_9_X4_0 rfl rfl rfl dX4_takeBooks_2 ?_
  obtain ⟨x1, hx1, h⟩ := bq_b h
  refine bq_put (x1 := x1) (q0 := 1) (ty := .int) S hK hD hP hS fl_X4_9_X4_0 bt_X4 rfl (by decide +kernel) rfl rfl (Nat.le_of_ble_eq_true rfl) rfl rfl (by rw [hx1]; rfl) dX4_takeBooks_5 (fun H locs hP hS => ?_)
  refine lv_aload_n hx hb dX4_takeBooks_8 rfl (lv_at hl 0 rfl) ?_
  refine lv_aload_n hx hb dX4_takeBooks_9 rfl (lv_at hl 1 rfl) ?_
  refine bq_get (q0 := 15) S hK hP fl_X4_15_X4_1 rfl rfl rfl dX4_takeBooks_10 ?_
  obtain ⟨x2, hx2, h⟩ := bq_b h
  refine bq_put (x1 := x2) (q0 := 1) (ty := .int) S hK hD hP hS fl_X4_15_X4_1 bt_X4 rfl (by decide +kernel) rfl rfl (Nat.le_of_ble_eq_true rfl) rfl rfl (by rw [hx2]; rfl) dX4_takeBooks_13 (fun H locs hP hS => ?_)
  refine lv_aload_n hx hb dX4_takeBooks_16 rfl (lv_at hl 0 rfl) ?_
  refine lv_iconst (v := (0 : Int32)) hx hb dX4_takeBooks_17 (by decide) ?_
  obtain ⟨x3, hx3, h⟩ := bq_b h
  refine bq_put (x1 := x3) (q0 := 1) (ty := .int) S hK hD hP hS fl_X4_18_X4_2 bt_X4 rfl (by decide +kernel) rfl rfl (Nat.le_of_ble_eq_true rfl) rfl rfl (by rw [hx3]; rfl) dX4_takeBooks_18 (fun H locs hP hS => ?_)
  refine lv_aload_n hx hb dX4_takeBooks_21 rfl (lv_at hl 1 rfl) ?_
  refine bq_get (q0 := 15) S hK hP fl_X4_21_X4_3 rfl rfl rfl dX4_takeBooks_22 ?_
  refine lv_iconst (v := (0 : Int32)) hx hb dX4_takeBooks_25 (by decide) ?_
  refine lv_aload_n hx hb dX4_takeBooks_26 rfl (lv_at hl 0 rfl) ?_
  refine bq_get (q0 := 1) S hK hP fl_X4_21_X4_3 rfl rfl rfl dX4_takeBooks_27 ?_
  refine lv_iconst (v := (0 : Int32)) hx hb dX4_takeBooks_30 (by decide) ?_
  refine lv_bipush (v := (8 : Int32)) hx hb dX4_takeBooks_31 (by decide) ?_
  obtain ⟨⟨g41, g42, g43, g44, g45⟩, h⟩ := bq_gp h
  obtain ⟨x5, hx5, h⟩ := bq_b h
  refine va_copyi (D := D) hx hb (hml.trans hl.1.symm) hown (hts _ ml_X4_44) (hts _ acn) (hts _ acs) (hts _ aci) hK hP (hD _) hS 16 2 0 0 rfl rfl rfl rfl rfl g41 g42 g43 g44 g45 (fun _ _ => rfl) (by decide) (by decide +kernel) dX4_takeBooks_33 (fun H locs hP _ hS => ?_)
  replace hP : va_P D bq_cl (bq_wC a k x5) H := by rw [hx5]; exact hP
  refine lv_aload_n hx hb dX4_takeBooks_36 rfl (lv_at hl 1 rfl) ?_
  refine bq_get (q0 := 15) S hK hP fl_X4_25_X4_4 rfl rfl rfl dX4_takeBooks_37 ?_
  refine lv_iconst (v := (0 : Int32)) hx hb dX4_takeBooks_40 (by decide) ?_
  refine lv_aload_n hx hb dX4_takeBooks_41 rfl (lv_at hl 0 rfl) ?_
  refine bq_get (q0 := 1) S hK hP fl_X4_25_X4_4 rfl rfl rfl dX4_takeBooks_42 ?_
  refine lv_iconst (v := (0 : Int32)) hx hb dX4_takeBooks_45 (by decide) ?_
  refine lv_bipush (v := (8 : Int32)) hx hb dX4_takeBooks_46 (by decide) ?_
  obtain ⟨⟨g61, g62, g63, g64, g65⟩, h⟩ := bq_gp h
  obtain ⟨x7, hx7, h⟩ := bq_b h
  refine va_copyi (D := D) hx hb (hml.trans hl.1.symm) hown (hts _ ml_X4_44) (hts _ acn) (hts _ acs) (hts _ aci) hK hP (hD _) hS 17 3 0 0 rfl rfl rfl rfl rfl g61 g62 g63 g64 g65 (fun _ _ => rfl) (by decide) (by decide +kernel) dX4_takeBooks_48 (fun H locs hP _ hS => ?_)
  replace hP : va_P D bq_cl (bq_wC a k x7) H := by rw [hx7]; exact hP
  refine lv_aload_n hx hb dX4_takeBooks_51 rfl (lv_at hl 0 rfl) ?_
  refine bq_get (q0 := 1) S hK hP fl_X4_28_X4_5 rfl rfl rfl dX4_takeBooks_52 ?_
  refine lv_iconst (v := (0 : Int32)) hx hb dX4_takeBooks_55 (by decide) ?_
  obtain ⟨x9, ho8, h⟩ := Option.bind_eq_some_iff.mp h
  refine bq_callSv (As := [.ref (a 4), .int _]) S hK hD hA hP hS (cJ7_fill_k_4 ho8) hd_yJ7_fill_53178 ml_X4_57 st_yJ7_fill_53178 ⟨rfl, rfl⟩ ⟨by decide, by decide⟩ rfl hl.1 rfl (Nat.le_of_ble_eq_true rfl) ⟨Nat.zero_le _, Nat.zero_le _⟩ dX4_takeBooks_56 (fun H locs hP hS => ?_)
  refine lv_aload_n hx hb dX4_takeBooks_59 rfl (lv_at hl 0 rfl) ?_
  obtain ⟨x11, ho10, h⟩ := Option.bind_eq_some_iff.mp h
  refine bq_callVv (q0 := 1) (As := []) S hK hD hA hP hS (cX4_learnNear_k_1 ho10) hd_yX4_learnNear ml_X4_54 in_yX4_learnNear (hts _ sl_X4_X4_yX4_learnNear) ⟨rfl, rfl⟩ ⟨by decide, by decide⟩ rfl rfl rfl hl.1 rfl (Nat.le_of_ble_eq_true rfl) ⟨Nat.zero_le _, Nat.zero_le _⟩ dX4_takeBooks_60 (fun H locs hP hS => ?_)
  have e2 := hret _ h
  exact hR _ _ _ _ rfl (by rw [e2]; exact hP) hS dX4_takeBooks_63
def fX9_books (n : Nat) (x0 : bq_S) : Option (Int32 × bq_S) :=
  (fX7_readBooks n 15 x0).bind (fun o1 => un2 o1 (fun v3 x2 =>
  (fX7_clear  x2).bind (fun x5 =>
  if v3 < 0 then
  some (v3, x5)
  else
  (fX4_takeBooks n 1 15 x5).bind (fun x8 =>
  some (v3, x8)))))
theorem dX9_books_0 : decode cX9_books 0 = .ok (.aload_n 0, 1) := by decide +kernel
theorem dX9_books_1 : decode cX9_books 1 = .ok (.getfield 25, 3) := by decide +kernel
theorem dX9_books_4 : decode cX9_books 4 = .ok (.aload_n 0, 1) := by decide +kernel
theorem dX9_books_5 : decode cX9_books 5 = .ok (.getfield 19, 3) := by decide +kernel
theorem dX9_books_8 : decode cX9_books 8 = .ok (.invokevirtual 135, 3) := by decide +kernel
theorem dX9_books_11 : decode cX9_books 11 = .ok (.istore_n 1, 1) := by decide +kernel
theorem dX9_books_12 : decode cX9_books 12 = .ok (.aload_n 0, 1) := by decide +kernel
theorem dX9_books_13 : decode cX9_books 13 = .ok (.getfield 25, 3) := by decide +kernel
theorem dX9_books_16 : decode cX9_books 16 = .ok (.invokevirtual 139, 3) := by decide +kernel
theorem dX9_books_19 : decode cX9_books 19 = .ok (.iload_n 1, 1) := by decide +kernel
theorem dX9_books_20 : decode cX9_books 20 = .ok (.ifCond .lt 14, 3) := by decide +kernel
theorem dX9_books_23 : decode cX9_books 23 = .ok (.aload_n 0, 1) := by decide +kernel
theorem dX9_books_24 : decode cX9_books 24 = .ok (.getfield 10, 3) := by decide +kernel
theorem dX9_books_27 : decode cX9_books 27 = .ok (.aload_n 0, 1) := by decide +kernel
theorem dX9_books_28 : decode cX9_books 28 = .ok (.getfield 19, 3) := by decide +kernel
theorem dX9_books_31 : decode cX9_books 31 = .ok (.invokevirtual 142, 3) := by decide +kernel
theorem dX9_books_34 : decode cX9_books 34 = .ok (.iload_n 1, 1) := by decide +kernel
theorem dX9_books_35 : decode cX9_books 35 = .ok (.ireturn, 1) := by decide +kernel
set_option maxHeartbeats 4000000 in
set_option maxRecDepth 100000 in
theorem cX9_books_k_0 {l : Launch} {D : va_G} {a : Nat → Nat} {k : Nat → ClassId} {n : Nat} {x0 xz : bq_S} {rz : Int32} (h : fX9_books n  x0 = some (rz, xz)) : bq_M l D bq_cl (bq_ty k) (bq_wC a k) yX9_books cX9_books 2 (some .int) { frames := 6, cells := 0, slots := 0, locals := 136 } [.ref (a 0)] x0 (some rz) xz := by
  refine bq_ofW RX9 [(0, .ref (a 0))] (by decide +kernel) rfl (Nat.le_of_ble_eq_true rfl) rfl (bq_adC a k) ?_
  intro p e s m below meth c A Q ls S hK hD hA hR hS hP hl
  have hx := S.1; have hb := S.2.1; have hml := S.2.2.1; have hown := S.2.2.2.1; have hts := S.2.2.2.2
  have hret : ∀ z, some z = some (rz, xz) → (rz, xz) = z := fun z h => (Option.some.inj h).symm
  unfold fX9_books at h
  refine lv_aload_n hx hb dX9_books_0 rfl (lv_at hl 0 rfl) ?_
  refine bq_get (q0 := 0) S hK hP fl_X9_25_X9_3 rfl rfl rfl dX9_books_1 ?_
  refine lv_aload_n hx hb dX9_books_4 rfl (lv_at hl 0 rfl) ?_
  refine bq_get (q0 := 0) S hK hP fl_X9_19_X9_2 rfl rfl rfl dX9_books_5 ?_
  obtain ⟨o1, ho1, h⟩ := Option.bind_eq_some_iff.mp h
  obtain ⟨v3, x2⟩ := o1
  replace h := un2_e h
  refine bq_callVi (q0 := 22) (As := [.ref (a 15)]) S hK hD hA hP hS (cX7_readBooks_k_22_15 ho1) hd_yX7_readBooks ml_X9_135 in_yX7_readBooks (hts _ sl_X7_X7_yX7_readBooks) ⟨rfl, rfl⟩ ⟨by decide, by decide⟩ rfl rfl rfl hl.1 rfl (Nat.le_of_ble_eq_true rfl) ⟨Nat.zero_le _, Nat.zero_le _⟩ dX9_books_8 (fun H locs hP hS => ?_)
  refine lv_istore_n (lv' := [(1, .int v3), (0, .ref (a 0))]) hx hb dX9_books_11 rfl hl (by decide) rfl (fun ls hl => ?_)
  refine lv_aload_n hx hb dX9_books_12 rfl (lv_at hl 1 rfl) ?_
  refine bq_get (q0 := 0) S hK hP fl_X9_25_X9_3 rfl rfl rfl dX9_books_13 ?_
  obtain ⟨x5, ho4, h⟩ := Option.bind_eq_some_iff.mp h
  refine bq_callVv (q0 := 22) (As := []) S hK hD hA hP hS (cX7_clear_k_22 ho4) hd_yX7_clear ml_X9_139 in_yX7_clear (hts _ sl_X7_X7_yX7_clear) ⟨rfl, rfl⟩ ⟨by decide, by decide⟩ rfl rfl rfl hl.1 rfl (Nat.le_of_ble_eq_true rfl) ⟨Nat.zero_le _, Nat.zero_le _⟩ dX9_books_16 (fun H locs hP hS => ?_)
  refine lv_iload_n hx hb dX9_books_19 rfl (lv_at hl 0 rfl) ?_
  refine lv_if_lt (tgt := 34) hx hb dX9_books_20 (by decide) (fun c6 => ?_) (fun c6 => ?_)
  · replace h := (if_pos c6).symm.trans h
    refine lv_iload_n hx hb dX9_books_34 rfl (lv_at hl 0 rfl) ?_
    obtain ⟨e1, e2⟩ := Prod.mk.inj (hret _ h)
    exact hR _ _ _ _ _ (congrArg some e1) rfl (by rw [e2]; exact hP) hS dX9_books_35
  · replace h := (if_neg c6).symm.trans h
    refine lv_aload_n hx hb dX9_books_23 rfl (lv_at hl 1 rfl) ?_
    refine bq_get (q0 := 0) S hK hP fl_X9_10_X9_0 rfl rfl rfl dX9_books_24 ?_
    refine lv_aload_n hx hb dX9_books_27 rfl (lv_at hl 1 rfl) ?_
    refine bq_get (q0 := 0) S hK hP fl_X9_19_X9_2 rfl rfl rfl dX9_books_28 ?_
    obtain ⟨x8, ho7, h⟩ := Option.bind_eq_some_iff.mp h
    refine bq_callVv (q0 := 1) (As := [.ref (a 15)]) S hK hD hA hP hS (cX4_takeBooks_k_1_15 ho7) hd_yX4_takeBooks ml_X9_142 in_yX4_takeBooks (hts _ sl_X4_X4_yX4_takeBooks) ⟨rfl, rfl⟩ ⟨by decide, by decide⟩ rfl rfl rfl hl.1 rfl (Nat.le_of_ble_eq_true rfl) ⟨Nat.zero_le _, Nat.zero_le _⟩ dX9_books_31 (fun H locs hP hS => ?_)
    refine lv_iload_n hx hb dX9_books_34 rfl (lv_at hl 0 rfl) ?_
    obtain ⟨e1, e2⟩ := Prod.mk.inj (hret _ h)
    exact hR _ _ _ _ _ (congrArg some e1) rfl (by rw [e2]; exact hP) hS dX9_books_35
