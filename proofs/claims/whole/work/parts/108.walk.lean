def fX9_isLawfulJoined_b12 (n : Nat) (r2 : Nat) (lb3 : Nat) (v4 : Int32) (v5 : Int32) (v6 : Int32) (v7 : Int32) (v : Int32 × bq_S) : Option ((Int32 × bq_S) ⊕ (Int32 × bq_S)) :=
  un2 v (fun v8 x9 =>
  if v7 ≤ v8 then
  some (.inr (v8, x9))
  else
  (fX9_has v6 (1 : Int32) x9).bind (fun o11 => un2 o11 (fun v13 x12 =>
  if v13 = 0 then
  if ok_i v8 8 then
  if ok_i v8 8 then
  bd (bq_sI x12 42 v8.toNatClampNeg (x12.1 6 v8.toNatClampNeg)) (fun x16 =>
  bd (v8 + (1 : Int32)) (fun v18 =>
  some (.inl (v18, x16))))
  else none
  else none
  else
  if ok_i ((v7 - (1 : Int32)) - v8) 8 then
  if ok_i v8 8 then
  bd (bq_sI x12 42 v8.toNatClampNeg (x12.1 6 ((v7 - (1 : Int32)) - v8).toNatClampNeg)) (fun x20 =>
  bd (v8 + (1 : Int32)) (fun v22 =>
  some (.inl (v22, x20))))
  else none
  else none)))
def fX9_isLawfulJoined_j101 (n : Nat) (r26 : Nat) (lb27 : Nat) (v28 : Int32) (v29 : Int32) (v30 : Int32) (v31 : Int32) (v39 : Int32) (v40 : Int32) (r41 : Nat) (lb42 : Nat) (v43 : Int32) (v44 : Int32) (x45 : bq_S) : Option ((Int32 × bq_S) ⊕ (Int32 × bq_S)) :=
  if ok_i (v43 + v44) lb42 then
  if ok_i v40 8 then
  bd (bq_sI x45 42 v40.toNatClampNeg (x45.2 r41 (v43 + v44).toNatClampNeg).toInt32) (fun x47 =>
  bd (v39 + (1 : Int32)) (fun v49 =>
  some (.inl (v49, x47))))
  else none
  else none
def fX9_isLawfulJoined_b64 (n : Nat) (r26 : Nat) (lb27 : Nat) (v28 : Int32) (v29 : Int32) (v30 : Int32) (v31 : Int32) (v : Int32 × bq_S) : Option ((Int32 × bq_S) ⊕ (Int32 × bq_S)) :=
  un2 v (fun v32 x33 =>
  if v29 ≤ v32 then
  some (.inr (v32, x33))
  else
  (fX9_has v30 (0 : Int32) x33).bind (fun o35 => un2 o35 (fun v37 x36 =>
  if v37 = 0 then
  fX9_isLawfulJoined_j101 n r26 lb27 v28 v29 v30 v31 v32 (v31 + v32) r26 lb27 v28 v32 x36
  else
  fX9_isLawfulJoined_j101 n r26 lb27 v28 v29 v30 v31 v32 (v31 + v32) r26 lb27 v28 ((v29 - (1 : Int32)) - v32) x36)))
def fX9_isLawfulJoined (n : Nat) (q1 : Nat) (la1 : Nat) (p2 : Int32) (p3 : Int32) (p4 : Int32) (x0 : bq_S) : Option (Int32 × bq_S) :=
  bd (x0.1 1 2) (fun v1 =>
  (wh n (fX9_isLawfulJoined_b12 n q1 la1 p2 p3 p4 v1) ((0 : Int32), x0)).bind (fun e23 => un2 e23 (fun v24 x25 =>
  (wh n (fX9_isLawfulJoined_b64 n q1 la1 p2 p3 p4 v1) ((0 : Int32), x25)).bind (fun e50 => un2 e50 (fun v51 x52 =>
  (fX4_isLawful n 1 42 8 (v1 + p3) x52).bind (fun o53 => un2 o53 (fun v55 x54 =>
  if v55 = 0 ∨ v55 = 1 then
  some (v55, x54)
  else none)))))))
theorem dX9_isLawfulJoined_0 : decode cX9_isLawfulJoined 0 = .ok (.aload_n 0, 1) := by decide +kernel
theorem dX9_isLawfulJoined_1 : decode cX9_isLawfulJoined 1 = .ok (.getfield 10, 3) := by decide +kernel
theorem dX9_isLawfulJoined_4 : decode cX9_isLawfulJoined 4 = .ok (.getfield 159, 3) := by decide +kernel
theorem dX9_isLawfulJoined_7 : decode cX9_isLawfulJoined 7 = .ok (.istore 5, 2) := by decide +kernel
theorem dX9_isLawfulJoined_9 : decode cX9_isLawfulJoined 9 = .ok (.iconst 0, 1) := by decide +kernel
theorem dX9_isLawfulJoined_10 : decode cX9_isLawfulJoined 10 = .ok (.istore 6, 2) := by decide +kernel
theorem dX9_isLawfulJoined_12 : decode cX9_isLawfulJoined 12 = .ok (.iload 6, 2) := by decide +kernel
theorem dX9_isLawfulJoined_14 : decode cX9_isLawfulJoined 14 = .ok (.iload 5, 2) := by decide +kernel
theorem dX9_isLawfulJoined_16 : decode cX9_isLawfulJoined 16 = .ok (.if_icmp .ge 45, 3) := by decide +kernel
theorem dX9_isLawfulJoined_19 : decode cX9_isLawfulJoined 19 = .ok (.aload_n 0, 1) := by decide +kernel
theorem dX9_isLawfulJoined_20 : decode cX9_isLawfulJoined 20 = .ok (.getfield 75, 3) := by decide +kernel
theorem dX9_isLawfulJoined_23 : decode cX9_isLawfulJoined 23 = .ok (.iload 6, 2) := by decide +kernel
theorem dX9_isLawfulJoined_25 : decode cX9_isLawfulJoined 25 = .ok (.aload_n 0, 1) := by decide +kernel
theorem dX9_isLawfulJoined_26 : decode cX9_isLawfulJoined 26 = .ok (.getfield 10, 3) := by decide +kernel
theorem dX9_isLawfulJoined_29 : decode cX9_isLawfulJoined 29 = .ok (.getfield 156, 3) := by decide +kernel
theorem dX9_isLawfulJoined_32 : decode cX9_isLawfulJoined 32 = .ok (.iload 4, 2) := by decide +kernel
theorem dX9_isLawfulJoined_34 : decode cX9_isLawfulJoined 34 = .ok (.iconst 1, 1) := by decide +kernel
theorem dX9_isLawfulJoined_35 : decode cX9_isLawfulJoined 35 = .ok (.invokestatic 208, 3) := by decide +kernel
theorem dX9_isLawfulJoined_38 : decode cX9_isLawfulJoined 38 = .ok (.ifCond .eq 13, 3) := by decide +kernel
theorem dX9_isLawfulJoined_41 : decode cX9_isLawfulJoined 41 = .ok (.iload 5, 2) := by decide +kernel
theorem dX9_isLawfulJoined_43 : decode cX9_isLawfulJoined 43 = .ok (.iconst 1, 1) := by decide +kernel
theorem dX9_isLawfulJoined_44 : decode cX9_isLawfulJoined 44 = .ok (.isub, 1) := by decide +kernel
theorem dX9_isLawfulJoined_45 : decode cX9_isLawfulJoined 45 = .ok (.iload 6, 2) := by decide +kernel
theorem dX9_isLawfulJoined_47 : decode cX9_isLawfulJoined 47 = .ok (.isub, 1) := by decide +kernel
theorem dX9_isLawfulJoined_48 : decode cX9_isLawfulJoined 48 = .ok (.goto 5, 3) := by decide +kernel
theorem dX9_isLawfulJoined_51 : decode cX9_isLawfulJoined 51 = .ok (.iload 6, 2) := by decide +kernel
theorem dX9_isLawfulJoined_53 : decode cX9_isLawfulJoined 53 = .ok (.iaload, 1) := by decide +kernel
theorem dX9_isLawfulJoined_54 : decode cX9_isLawfulJoined 54 = .ok (.iastore, 1) := by decide +kernel
theorem dX9_isLawfulJoined_55 : decode cX9_isLawfulJoined 55 = .ok (.iinc 6 1, 3) := by decide +kernel
theorem dX9_isLawfulJoined_58 : decode cX9_isLawfulJoined 58 = .ok (.goto (-46), 3) := by decide +kernel
theorem dX9_isLawfulJoined_61 : decode cX9_isLawfulJoined 61 = .ok (.iconst 0, 1) := by decide +kernel
theorem dX9_isLawfulJoined_62 : decode cX9_isLawfulJoined 62 = .ok (.istore 6, 2) := by decide +kernel
theorem dX9_isLawfulJoined_64 : decode cX9_isLawfulJoined 64 = .ok (.iload 6, 2) := by decide +kernel
theorem dX9_isLawfulJoined_66 : decode cX9_isLawfulJoined 66 = .ok (.iload_n 3, 1) := by decide +kernel
theorem dX9_isLawfulJoined_67 : decode cX9_isLawfulJoined 67 = .ok (.if_icmp .ge 44, 3) := by decide +kernel
theorem dX9_isLawfulJoined_70 : decode cX9_isLawfulJoined 70 = .ok (.aload_n 0, 1) := by decide +kernel
theorem dX9_isLawfulJoined_71 : decode cX9_isLawfulJoined 71 = .ok (.getfield 75, 3) := by decide +kernel
theorem dX9_isLawfulJoined_74 : decode cX9_isLawfulJoined 74 = .ok (.iload 5, 2) := by decide +kernel
theorem dX9_isLawfulJoined_76 : decode cX9_isLawfulJoined 76 = .ok (.iload 6, 2) := by decide +kernel
theorem dX9_isLawfulJoined_78 : decode cX9_isLawfulJoined 78 = .ok (.iadd, 1) := by decide +kernel
theorem dX9_isLawfulJoined_79 : decode cX9_isLawfulJoined 79 = .ok (.aload_n 1, 1) := by decide +kernel
theorem dX9_isLawfulJoined_80 : decode cX9_isLawfulJoined 80 = .ok (.iload_n 2, 1) := by decide +kernel
theorem dX9_isLawfulJoined_81 : decode cX9_isLawfulJoined 81 = .ok (.iload 4, 2) := by decide +kernel
theorem dX9_isLawfulJoined_83 : decode cX9_isLawfulJoined 83 = .ok (.iconst 0, 1) := by decide +kernel
theorem dX9_isLawfulJoined_84 : decode cX9_isLawfulJoined 84 = .ok (.invokestatic 208, 3) := by decide +kernel
theorem dX9_isLawfulJoined_87 : decode cX9_isLawfulJoined 87 = .ok (.ifCond .eq 12, 3) := by decide +kernel
theorem dX9_isLawfulJoined_90 : decode cX9_isLawfulJoined 90 = .ok (.iload_n 3, 1) := by decide +kernel
theorem dX9_isLawfulJoined_91 : decode cX9_isLawfulJoined 91 = .ok (.iconst 1, 1) := by decide +kernel
theorem dX9_isLawfulJoined_92 : decode cX9_isLawfulJoined 92 = .ok (.isub, 1) := by decide +kernel
theorem dX9_isLawfulJoined_93 : decode cX9_isLawfulJoined 93 = .ok (.iload 6, 2) := by decide +kernel
theorem dX9_isLawfulJoined_95 : decode cX9_isLawfulJoined 95 = .ok (.isub, 1) := by decide +kernel
theorem dX9_isLawfulJoined_96 : decode cX9_isLawfulJoined 96 = .ok (.goto 5, 3) := by decide +kernel
theorem dX9_isLawfulJoined_99 : decode cX9_isLawfulJoined 99 = .ok (.iload 6, 2) := by decide +kernel
theorem dX9_isLawfulJoined_101 : decode cX9_isLawfulJoined 101 = .ok (.iadd, 1) := by decide +kernel
theorem dX9_isLawfulJoined_102 : decode cX9_isLawfulJoined 102 = .ok (.laload, 1) := by decide +kernel
theorem dX9_isLawfulJoined_103 : decode cX9_isLawfulJoined 103 = .ok (.l2i, 1) := by decide +kernel
theorem dX9_isLawfulJoined_104 : decode cX9_isLawfulJoined 104 = .ok (.iastore, 1) := by decide +kernel
theorem dX9_isLawfulJoined_105 : decode cX9_isLawfulJoined 105 = .ok (.iinc 6 1, 3) := by decide +kernel
theorem dX9_isLawfulJoined_108 : decode cX9_isLawfulJoined 108 = .ok (.goto (-44), 3) := by decide +kernel
theorem dX9_isLawfulJoined_111 : decode cX9_isLawfulJoined 111 = .ok (.aload_n 0, 1) := by decide +kernel
theorem dX9_isLawfulJoined_112 : decode cX9_isLawfulJoined 112 = .ok (.getfield 10, 3) := by decide +kernel
theorem dX9_isLawfulJoined_115 : decode cX9_isLawfulJoined 115 = .ok (.aload_n 0, 1) := by decide +kernel
theorem dX9_isLawfulJoined_116 : decode cX9_isLawfulJoined 116 = .ok (.getfield 75, 3) := by decide +kernel
theorem dX9_isLawfulJoined_119 : decode cX9_isLawfulJoined 119 = .ok (.iload 5, 2) := by decide +kernel
theorem dX9_isLawfulJoined_121 : decode cX9_isLawfulJoined 121 = .ok (.iload_n 3, 1) := by decide +kernel
theorem dX9_isLawfulJoined_122 : decode cX9_isLawfulJoined 122 = .ok (.iadd, 1) := by decide +kernel
theorem dX9_isLawfulJoined_123 : decode cX9_isLawfulJoined 123 = .ok (.invokevirtual 284, 3) := by decide +kernel
theorem dX9_isLawfulJoined_126 : decode cX9_isLawfulJoined 126 = .ok (.ireturn, 1) := by decide +kernel
set_option maxHeartbeats 4000000 in
set_option maxRecDepth 100000 in
theorem cX9_isLawfulJoined_k_0_35 {l : Launch} {D : va_G} {a : Nat → Nat} {k : Nat → ClassId} {n : Nat} {p2 : Int32} {p3 : Int32} {p4 : Int32} {x0 xz : bq_S} {rz : Int32} (h : fX9_isLawfulJoined n 35 16 p2 p3 p4 x0 = some (rz, xz)) : bq_M l D bq_cl (bq_ty k) (bq_wC a k) yX9_isLawfulJoined cX9_isLawfulJoined 7 (some .boolean) { frames := 3, cells := 0, slots := 0, locals := 67 } [.ref (a 0), .ref (a 35), .int p2, .int p3, .int p4] x0 (some rz) xz := by
  refine bq_ofW RX9 [(0, .ref (a 0)), (1, .ref (a 35)), (2, .int p2), (3, .int p3), (4, .int p4)] (by decide +kernel) rfl (Nat.le_of_ble_eq_true rfl) rfl (bq_adC a k) ?_
  intro p e s m below meth c A Q ls S hK hD hA hR hS hP hl
  have hx := S.1; have hb := S.2.1; have hml := S.2.2.1; have hown := S.2.2.2.1; have hts := S.2.2.2.2
  have hret : ∀ z, some z = some (rz, xz) → (rz, xz) = z := fun z h => (Option.some.inj h).symm
  unfold fX9_isLawfulJoined at h
  refine lv_aload_n hx hb dX9_isLawfulJoined_0 rfl (lv_at hl 0 rfl) ?_
  refine bq_get (q0 := 0) S hK hP fl_X9_10_X9_0 rfl rfl rfl dX9_isLawfulJoined_1 ?_
  refine bq_get (q0 := 1) S hK hP fl_X9_159_X4_2 rfl rfl rfl dX9_isLawfulJoined_4 ?_
  refine lv_topi (fun v1 hv1 => ?_)
  replace h := bq_bv h hv1
  refine lv_istore (lv' := [(5, .int v1), (0, .ref (a 0)), (1, .ref (a 35)), (2, .int p2), (3, .int p3), (4, .int p4)]) hx hb dX9_isLawfulJoined_7 hl (by decide) rfl (fun ls hl => ?_)
  refine lv_iconst (v := (0 : Int32)) hx hb dX9_isLawfulJoined_9 (by decide) ?_
  refine lv_istore (lv' := [(6, .int (0 : Int32)), (5, .int v1), (0, .ref (a 0)), (1, .ref (a 35)), (2, .int p2), (3, .int p3), (4, .int p4)]) hx hb dX9_isLawfulJoined_10 hl (by decide) rfl (fun ls hl => ?_)
  have hl12 : ∀ (v4 : Int32) (v5 : Int32) (v6 : Int32) (v7 : Int32) (kf : Nat) (v8 : Int32) (x9 : bq_S) (eo : Int32 × bq_S) (H : Heap) (locs : List Loc) (ls : Array Slot), wh kf (fX9_isLawfulJoined_b12 n 35 16 v4 v5 v6 v7) (v8, x9) = some eo → va_P D bq_cl (bq_wC a k x9) H → va_S A s.heap H locs → lv_has ls 7 [(0, .ref (a 0)), (1, .ref (a 35)), (2, .int v4), (3, .int v5), (4, .int v6), (5, .int v7), (6, .int v8)] → (∀ (H : Heap) (locs : List Loc) (ls : Array Slot) (v24 : Int32) (x25 : bq_S), eo = (v24, x25) → va_P D bq_cl (bq_wC a k x25) H → va_S A s.heap H locs → lv_has ls 7 [(0, .ref (a 0)), (1, .ref (a 35)), (2, .int v4), (3, .int v5), (4, .int v6), (5, .int v7)] → W p l e { frames := 3, cells := 0, slots := 0, locals := 67 } s m [.ref (a 0), .ref (a 35), .int p2, .int p3, .int p4].toArray below meth c H locs 0 0 Q (F0 m 61 ls [])) → W p l e { frames := 3, cells := 0, slots := 0, locals := 67 } s m [.ref (a 0), .ref (a 35), .int p2, .int p3, .int p4].toArray below meth c H locs 0 0 Q (F0 m 12 ls []) := by
    intro v4 v5 v6 v7 kf
    induction kf with
    | zero => intro v8 x9 eo H locs ls h; cases h
    | succ kf ih =>
      intro v8 x9 eo H locs ls h hP hS hl kx
      obtain ⟨out, h, hw⟩ := wh_s h
      unfold fX9_isLawfulJoined_b12 at h
      replace h := un2_e h
      refine lv_iload hx hb dX9_isLawfulJoined_12 (lv_at hl 6 rfl) ?_
      refine lv_iload hx hb dX9_isLawfulJoined_14 (lv_at hl 5 rfl) ?_
      refine lv_icmp_ge (tgt := 61) hx hb dX9_isLawfulJoined_16 (by decide) (fun c10 => ?_) (fun c10 => ?_)
      · replace h := (if_pos c10).symm.trans h
        cases h
        exact kx _ _ _ _ _ (Option.some.inj hw).symm hP hS (lv_sub hl [0, 1, 2, 3, 4, 5] rfl)
      · replace h := (if_neg c10).symm.trans h
        refine lv_aload_n hx hb dX9_isLawfulJoined_19 rfl (lv_at hl 0 rfl) ?_
        refine bq_get (q0 := 0) S hK hP fl_X9_75_X9_10 rfl rfl rfl dX9_isLawfulJoined_20 ?_
        refine lv_iload hx hb dX9_isLawfulJoined_23 (lv_at hl 6 rfl) ?_
        refine lv_aload_n hx hb dX9_isLawfulJoined_25 rfl (lv_at hl 0 rfl) ?_
        refine bq_get (q0 := 0) S hK hP fl_X9_10_X9_0 rfl rfl rfl dX9_isLawfulJoined_26 ?_
        refine bq_get (q0 := 1) S hK hP fl_X9_156_X4_7 rfl rfl rfl dX9_isLawfulJoined_29 ?_
        refine lv_iload hx hb dX9_isLawfulJoined_32 (lv_at hl 4 rfl) ?_
        refine lv_iconst (v := (1 : Int32)) hx hb dX9_isLawfulJoined_34 (by decide) ?_
        obtain ⟨o11, ho11, h⟩ := Option.bind_eq_some_iff.mp h
        obtain ⟨v13, x12⟩ := o11
        replace h := un2_e h
        refine bq_callSi (As := [.int _, .int _]) S hK hD hA hP hS (cX9_has_k ho11) hd_yX9_has ml_X9_208 st_yX9_has ⟨rfl, rfl⟩ ⟨by decide, by decide⟩ rfl hl.1 rfl (Nat.le_of_ble_eq_true rfl) ⟨Nat.zero_le _, Nat.zero_le _⟩ dX9_isLawfulJoined_35 (fun H locs hP hS => ?_)
        refine lv_if_eq (tgt := 51) hx hb dX9_isLawfulJoined_38 (by decide) (fun c14 => ?_) (fun c14 => ?_)
        · replace h := (if_pos c14).symm.trans h
          refine lv_iload hx hb dX9_isLawfulJoined_51 (lv_at hl 6 rfl) ?_
          obtain ⟨g15, h⟩ := bq_gd h
          refine va_iald (D := D) hx hb hK hP 6 0 rfl rfl g15 dX9_isLawfulJoined_53 ?_
          obtain ⟨g17, h⟩ := bq_gd h
          obtain ⟨x16, hx16, h⟩ := bq_b h
          refine bq_iast (x1 := x16) (q0 := 42) (t0 := 0) S hK hD hP hS rfl rfl g17 (by rw [hx16]; rfl) dX9_isLawfulJoined_54 (fun H locs hP hS => ?_)
          obtain ⟨v18, hv18, h⟩ := bq_b h
          refine lv_iinc (v := v18) (lv' := [(6, .int v18), (0, .ref (a 0)), (1, .ref (a 35)), (2, .int v4), (3, .int v5), (4, .int v6), (5, .int v7)]) hx hb dX9_isLawfulJoined_55 hl (k := 6) rfl (by rw [hv18]; rfl) (by decide) rfl (fun ls hl => ?_)
          refine lv_goto (tgt := 12) hx hb dX9_isLawfulJoined_58 (by decide) ?_
          cases h
          exact ih _ _ _ _ _ _ hw hP hS (lv_sub hl [1, 2, 3, 4, 5, 6, 0] rfl) kx
        · replace h := (if_neg c14).symm.trans h
          refine lv_iload hx hb dX9_isLawfulJoined_41 (lv_at hl 5 rfl) ?_
          refine lv_iconst (v := (1 : Int32)) hx hb dX9_isLawfulJoined_43 (by decide) ?_
          refine lv_isub hx hb dX9_isLawfulJoined_44 ?_
          refine lv_iload hx hb dX9_isLawfulJoined_45 (lv_at hl 6 rfl) ?_
          refine lv_isub hx hb dX9_isLawfulJoined_47 ?_
          refine lv_goto (tgt := 53) hx hb dX9_isLawfulJoined_48 (by decide) ?_
          obtain ⟨g19, h⟩ := bq_gd h
          refine va_iald (D := D) hx hb hK hP 6 0 rfl rfl g19 dX9_isLawfulJoined_53 ?_
          obtain ⟨g21, h⟩ := bq_gd h
          obtain ⟨x20, hx20, h⟩ := bq_b h
          refine bq_iast (x1 := x20) (q0 := 42) (t0 := 0) S hK hD hP hS rfl rfl g21 (by rw [hx20]; rfl) dX9_isLawfulJoined_54 (fun H locs hP hS => ?_)
          obtain ⟨v22, hv22, h⟩ := bq_b h
          refine lv_iinc (v := v22) (lv' := [(6, .int v22), (0, .ref (a 0)), (1, .ref (a 35)), (2, .int v4), (3, .int v5), (4, .int v6), (5, .int v7)]) hx hb dX9_isLawfulJoined_55 hl (k := 6) rfl (by rw [hv22]; rfl) (by decide) rfl (fun ls hl => ?_)
          refine lv_goto (tgt := 12) hx hb dX9_isLawfulJoined_58 (by decide) ?_
          cases h
          exact ih _ _ _ _ _ _ hw hP hS (lv_sub hl [1, 2, 3, 4, 5, 6, 0] rfl) kx
  obtain ⟨e23, he23, h⟩ := Option.bind_eq_some_iff.mp h
  refine hl12 _ _ _ _ n _ _ e23 _ _ _ he23 hP hS (lv_sub hl [2, 3, 4, 5, 6, 1, 0] rfl) (fun H locs ls v24 x25 hz hP hS hl => ?_)
  subst hz
  replace h := un2_e h
  refine lv_iconst (v := (0 : Int32)) hx hb dX9_isLawfulJoined_61 (by decide) ?_
  refine lv_istore (lv' := [(6, .int (0 : Int32)), (0, .ref (a 0)), (1, .ref (a 35)), (2, .int p2), (3, .int p3), (4, .int p4), (5, .int v1)]) hx hb dX9_isLawfulJoined_62 hl (by decide) rfl (fun ls hl => ?_)
  have hl64 : ∀ (v28 : Int32) (v29 : Int32) (v30 : Int32) (v31 : Int32) (kf : Nat) (v32 : Int32) (x33 : bq_S) (eo : Int32 × bq_S) (H : Heap) (locs : List Loc) (ls : Array Slot), wh kf (fX9_isLawfulJoined_b64 n 35 16 v28 v29 v30 v31) (v32, x33) = some eo → va_P D bq_cl (bq_wC a k x33) H → va_S A s.heap H locs → lv_has ls 7 [(0, .ref (a 0)), (1, .ref (a 35)), (2, .int v28), (3, .int v29), (4, .int v30), (5, .int v31), (6, .int v32)] → (∀ (H : Heap) (locs : List Loc) (ls : Array Slot) (v51 : Int32) (x52 : bq_S), eo = (v51, x52) → va_P D bq_cl (bq_wC a k x52) H → va_S A s.heap H locs → lv_has ls 7 [(0, .ref (a 0)), (3, .int v29), (5, .int v31)] → W p l e { frames := 3, cells := 0, slots := 0, locals := 67 } s m [.ref (a 0), .ref (a 35), .int p2, .int p3, .int p4].toArray below meth c H locs 0 0 Q (F0 m 111 ls [])) → W p l e { frames := 3, cells := 0, slots := 0, locals := 67 } s m [.ref (a 0), .ref (a 35), .int p2, .int p3, .int p4].toArray below meth c H locs 0 0 Q (F0 m 64 ls []) := by
    intro v28 v29 v30 v31 kf
    induction kf with
    | zero => intro v32 x33 eo H locs ls h; cases h
    | succ kf ih =>
      intro v32 x33 eo H locs ls h hP hS hl kx
      obtain ⟨out, h, hw⟩ := wh_s h
      unfold fX9_isLawfulJoined_b64 at h
      replace h := un2_e h
      have hj101 : ∀ (v39 : Int32) (v40 : Int32) (v43 : Int32) (v44 : Int32) (x45 : bq_S) (H : Heap) (locs : List Loc) (ls : Array Slot), fX9_isLawfulJoined_j101 n 35 16 v28 v29 v30 v31 v39 v40 35 16 v43 v44 x45 = some out → va_P D bq_cl (bq_wC a k x45) H → va_S A s.heap H locs → lv_has ls 7 [(0, .ref (a 0)), (1, .ref (a 35)), (2, .int v28), (3, .int v29), (4, .int v30), (5, .int v31), (6, .int v39)] → W p l e { frames := 3, cells := 0, slots := 0, locals := 67 } s m [.ref (a 0), .ref (a 35), .int p2, .int p3, .int p4].toArray below meth c H locs 0 0 Q (F0 m 101 ls [.int v44, .int v43, .ref (a 35), .int v40, .ref (a 42)]) := by
        intro v39 v40 v43 v44 x45 H locs ls h hP hS hl
        unfold fX9_isLawfulJoined_j101 at h
        refine lv_iadd hx hb dX9_isLawfulJoined_101 ?_
        obtain ⟨g46, h⟩ := bq_gd h
        refine va_lald (D := D) hx hb hK hP 35 1 rfl rfl g46 dX9_isLawfulJoined_102 ?_
        refine lv_l2i hx hb dX9_isLawfulJoined_103 rfl ?_
        obtain ⟨g48, h⟩ := bq_gd h
        obtain ⟨x47, hx47, h⟩ := bq_b h
        refine bq_iast (x1 := x47) (q0 := 42) (t0 := 0) S hK hD hP hS rfl rfl g48 (by rw [hx47]; rfl) dX9_isLawfulJoined_104 (fun H locs hP hS => ?_)
        obtain ⟨v49, hv49, h⟩ := bq_b h
        refine lv_iinc (v := v49) (lv' := [(6, .int v49), (0, .ref (a 0)), (1, .ref (a 35)), (2, .int v28), (3, .int v29), (4, .int v30), (5, .int v31)]) hx hb dX9_isLawfulJoined_105 hl (k := 6) rfl (by rw [hv49]; rfl) (by decide) rfl (fun ls hl => ?_)
        refine lv_goto (tgt := 64) hx hb dX9_isLawfulJoined_108 (by decide) ?_
        cases h
        exact ih _ _ _ _ _ _ hw hP hS (lv_sub hl [1, 2, 3, 4, 5, 6, 0] rfl) kx
      refine lv_iload hx hb dX9_isLawfulJoined_64 (lv_at hl 6 rfl) ?_
      refine lv_iload_n hx hb dX9_isLawfulJoined_66 rfl (lv_at hl 3 rfl) ?_
      refine lv_icmp_ge (tgt := 111) hx hb dX9_isLawfulJoined_67 (by decide) (fun c34 => ?_) (fun c34 => ?_)
      · replace h := (if_pos c34).symm.trans h
        cases h
        exact kx _ _ _ _ _ (Option.some.inj hw).symm hP hS (lv_sub hl [0, 3, 5] rfl)
      · replace h := (if_neg c34).symm.trans h
        refine lv_aload_n hx hb dX9_isLawfulJoined_70 rfl (lv_at hl 0 rfl) ?_
        refine bq_get (q0 := 0) S hK hP fl_X9_75_X9_10 rfl rfl rfl dX9_isLawfulJoined_71 ?_
        refine lv_iload hx hb dX9_isLawfulJoined_74 (lv_at hl 5 rfl) ?_
        refine lv_iload hx hb dX9_isLawfulJoined_76 (lv_at hl 6 rfl) ?_
        refine lv_iadd hx hb dX9_isLawfulJoined_78 ?_
        refine lv_aload_n hx hb dX9_isLawfulJoined_79 rfl (lv_at hl 1 rfl) ?_
        refine lv_iload_n hx hb dX9_isLawfulJoined_80 rfl (lv_at hl 2 rfl) ?_
        refine lv_iload hx hb dX9_isLawfulJoined_81 (lv_at hl 4 rfl) ?_
        refine lv_iconst (v := (0 : Int32)) hx hb dX9_isLawfulJoined_83 (by decide) ?_
        obtain ⟨o35, ho35, h⟩ := Option.bind_eq_some_iff.mp h
        obtain ⟨v37, x36⟩ := o35
        replace h := un2_e h
        refine bq_callSi (As := [.int _, .int _]) S hK hD hA hP hS (cX9_has_k ho35) hd_yX9_has ml_X9_208 st_yX9_has ⟨rfl, rfl⟩ ⟨by decide, by decide⟩ rfl hl.1 rfl (Nat.le_of_ble_eq_true rfl) ⟨Nat.zero_le _, Nat.zero_le _⟩ dX9_isLawfulJoined_84 (fun H locs hP hS => ?_)
        refine lv_if_eq (tgt := 99) hx hb dX9_isLawfulJoined_87 (by decide) (fun c38 => ?_) (fun c38 => ?_)
        · replace h := (if_pos c38).symm.trans h
          refine lv_iload hx hb dX9_isLawfulJoined_99 (lv_at hl 6 rfl) ?_
          exact hj101 _ _ _ _ _ _ _ _ h hP hS (lv_sub hl [0, 1, 2, 3, 4, 5, 6] rfl)
        · replace h := (if_neg c38).symm.trans h
          refine lv_iload_n hx hb dX9_isLawfulJoined_90 rfl (lv_at hl 3 rfl) ?_
          refine lv_iconst (v := (1 : Int32)) hx hb dX9_isLawfulJoined_91 (by decide) ?_
          refine lv_isub hx hb dX9_isLawfulJoined_92 ?_
          refine lv_iload hx hb dX9_isLawfulJoined_93 (lv_at hl 6 rfl) ?_
          refine lv_isub hx hb dX9_isLawfulJoined_95 ?_
          refine lv_goto (tgt := 101) hx hb dX9_isLawfulJoined_96 (by decide) ?_
          exact hj101 _ _ _ _ _ _ _ _ h hP hS (lv_sub hl [0, 1, 2, 3, 4, 5, 6] rfl)
  obtain ⟨e50, he50, h⟩ := Option.bind_eq_some_iff.mp h
  refine hl64 _ _ _ _ n _ _ e50 _ _ _ he50 hP hS (lv_sub hl [1, 2, 3, 4, 5, 6, 0] rfl) (fun H locs ls v51 x52 hz hP hS hl => ?_)
  subst hz
  replace h := un2_e h
  refine lv_aload_n hx hb dX9_isLawfulJoined_111 rfl (lv_at hl 0 rfl) ?_
  refine bq_get (q0 := 0) S hK hP fl_X9_10_X9_0 rfl rfl rfl dX9_isLawfulJoined_112 ?_
  refine lv_aload_n hx hb dX9_isLawfulJoined_115 rfl (lv_at hl 0 rfl) ?_
  refine bq_get (q0 := 0) S hK hP fl_X9_75_X9_10 rfl rfl rfl dX9_isLawfulJoined_116 ?_
  refine lv_iload hx hb dX9_isLawfulJoined_119 (lv_at hl 2 rfl) ?_
  refine lv_iload_n hx hb dX9_isLawfulJoined_121 rfl (lv_at hl 1 rfl) ?_
  refine lv_iadd hx hb dX9_isLawfulJoined_122 ?_
  obtain ⟨o53, ho53, h⟩ := Option.bind_eq_some_iff.mp h
  obtain ⟨v55, x54⟩ := o53
  replace h := un2_e h
  refine bq_callVi (q0 := 1) (As := [.ref (a 42), .int _]) S hK hD hA hP hS (cX4_isLawful_k_1_42 ho53) hd_yX4_isLawful ml_X9_284 in_yX4_isLawful (hts _ sl_X4_X4_yX4_isLawful) ⟨rfl, rfl⟩ ⟨by decide, by decide⟩ rfl rfl rfl hl.1 rfl (Nat.le_of_ble_eq_true rfl) ⟨Nat.zero_le _, Nat.zero_le _⟩ dX9_isLawfulJoined_123 (fun H locs hP hS => ?_)
  obtain ⟨g56, h⟩ := bq_gp h
  obtain ⟨e1, e2⟩ := Prod.mk.inj (hret _ h)
  exact hR _ _ _ _ _ (congrArg some e1) (bq_z g56) (by rw [e2]; exact hP) hS dX9_isLawfulJoined_126
def fX9_joined_b63 (n : Nat) (v12 : Int32) (v13 : Int32) (r14 : Nat) (v : Int32 × bq_S) : Option ((Int32 × bq_S) ⊕ ((Int32 × bq_S) ⊕ (Int32 × bq_S))) :=
  un2 v (fun v15 x16 =>
  if (4 : Int32) ≤ v15 then
  some (.inr (.inl (v15, x16)))
  else
  (fX9_isLawfulJoined n r14 16 v12 v13 v15 x16).bind (fun o18 => un2 o18 (fun v20 x19 =>
  if v20 = 0 then
  bd (v15 + (1 : Int32)) (fun v22 =>
  some (.inl (v22, x19)))
  else
  some (.inr (.inr (v15, x19))))))
def fX9_joined (n : Nat) (p1 : Int32) (p2 : Int32) (p3 : Int32) (p4 : Int32) (x0 : bq_S) : Option (Int32 × bq_S) :=
  if p4 < (1 : Int32) then
  some ((-1 : Int32), x0)
  else
  if p4 ≤ (8 : Int32) then
  (fX9_refusalOf p1 p2 p3 p4 x0).bind (fun o3 => un2 o3 (fun v5 x4 =>
  if v5 = 0 then
  if ok_i p1 4 then
  (fX9_areOthers n ((34 + 2 * p1.toNatClampNeg) + 1) 16 p3 p4 x4).bind (fun o8 => un2 o8 (fun v10 x9 =>
  if v10 = 0 then
  some ((-2 : Int32), x9)
  else
  (wh n (fX9_joined_b63 n p3 p4 ((34 + 2 * p1.toNatClampNeg) + 1)) ((0 : Int32), x9)).bind (fun e23 =>
  Sum.elim (fun z => un2 z (fun v24 x25 =>
  some ((-4 : Int32), x25))) (fun z => some z) e23)))
  else none
  else
  some (v5, x4)))
  else
  some ((-1 : Int32), x0)
theorem dX9_joined_0 : decode cX9_joined 0 = .ok (.iload 4, 2) := by decide +kernel
theorem dX9_joined_2 : decode cX9_joined 2 = .ok (.iconst 1, 1) := by decide +kernel
theorem dX9_joined_3 : decode cX9_joined 3 = .ok (.if_icmp .lt 10, 3) := by decide +kernel
theorem dX9_joined_6 : decode cX9_joined 6 = .ok (.iload 4, 2) := by decide +kernel
theorem dX9_joined_8 : decode cX9_joined 8 = .ok (.bipush 8, 2) := by decide +kernel
theorem dX9_joined_10 : decode cX9_joined 10 = .ok (.if_icmp .le 5, 3) := by decide +kernel
theorem dX9_joined_13 : decode cX9_joined 13 = .ok (.iconst (-1), 1) := by decide +kernel
theorem dX9_joined_14 : decode cX9_joined 14 = .ok (.ireturn, 1) := by decide +kernel
theorem dX9_joined_15 : decode cX9_joined 15 = .ok (.aload_n 0, 1) := by decide +kernel
theorem dX9_joined_16 : decode cX9_joined 16 = .ok (.iload_n 1, 1) := by decide +kernel
theorem dX9_joined_17 : decode cX9_joined 17 = .ok (.iload_n 2, 1) := by decide +kernel
theorem dX9_joined_18 : decode cX9_joined 18 = .ok (.iload_n 3, 1) := by decide +kernel
theorem dX9_joined_19 : decode cX9_joined 19 = .ok (.iload 4, 2) := by decide +kernel
theorem dX9_joined_21 : decode cX9_joined 21 = .ok (.invokevirtual 233, 3) := by decide +kernel
theorem dX9_joined_24 : decode cX9_joined 24 = .ok (.istore 5, 2) := by decide +kernel
theorem dX9_joined_26 : decode cX9_joined 26 = .ok (.iload 5, 2) := by decide +kernel
theorem dX9_joined_28 : decode cX9_joined 28 = .ok (.ifCond .eq 6, 3) := by decide +kernel
theorem dX9_joined_31 : decode cX9_joined 31 = .ok (.iload 5, 2) := by decide +kernel
theorem dX9_joined_33 : decode cX9_joined 33 = .ok (.ireturn, 1) := by decide +kernel
theorem dX9_joined_34 : decode cX9_joined 34 = .ok (.aload_n 0, 1) := by decide +kernel
theorem dX9_joined_35 : decode cX9_joined 35 = .ok (.getfield 70, 3) := by decide +kernel
theorem dX9_joined_38 : decode cX9_joined 38 = .ok (.iload_n 1, 1) := by decide +kernel
theorem dX9_joined_39 : decode cX9_joined 39 = .ok (.aaload, 1) := by decide +kernel
theorem dX9_joined_40 : decode cX9_joined 40 = .ok (.getfield 237, 3) := by decide +kernel
theorem dX9_joined_43 : decode cX9_joined 43 = .ok (.astore 6, 2) := by decide +kernel
theorem dX9_joined_45 : decode cX9_joined 45 = .ok (.aload_n 0, 1) := by decide +kernel
theorem dX9_joined_46 : decode cX9_joined 46 = .ok (.aload 6, 2) := by decide +kernel
theorem dX9_joined_48 : decode cX9_joined 48 = .ok (.iload_n 3, 1) := by decide +kernel
theorem dX9_joined_49 : decode cX9_joined 49 = .ok (.iload 4, 2) := by decide +kernel
theorem dX9_joined_51 : decode cX9_joined 51 = .ok (.invokevirtual 244, 3) := by decide +kernel
theorem dX9_joined_54 : decode cX9_joined 54 = .ok (.ifCond .ne 6, 3) := by decide +kernel
theorem dX9_joined_57 : decode cX9_joined 57 = .ok (.bipush (-2), 2) := by decide +kernel
theorem dX9_joined_59 : decode cX9_joined 59 = .ok (.ireturn, 1) := by decide +kernel
theorem dX9_joined_60 : decode cX9_joined 60 = .ok (.iconst 0, 1) := by decide +kernel
theorem dX9_joined_61 : decode cX9_joined 61 = .ok (.istore 7, 2) := by decide +kernel
theorem dX9_joined_63 : decode cX9_joined 63 = .ok (.iload 7, 2) := by decide +kernel
theorem dX9_joined_65 : decode cX9_joined 65 = .ok (.iconst 4, 1) := by decide +kernel
theorem dX9_joined_66 : decode cX9_joined 66 = .ok (.if_icmp .ge 26, 3) := by decide +kernel
theorem dX9_joined_69 : decode cX9_joined 69 = .ok (.aload_n 0, 1) := by decide +kernel
theorem dX9_joined_70 : decode cX9_joined 70 = .ok (.aload 6, 2) := by decide +kernel
theorem dX9_joined_72 : decode cX9_joined 72 = .ok (.iload_n 3, 1) := by decide +kernel
theorem dX9_joined_73 : decode cX9_joined 73 = .ok (.iload 4, 2) := by decide +kernel
theorem dX9_joined_75 : decode cX9_joined 75 = .ok (.iload 7, 2) := by decide +kernel
theorem dX9_joined_77 : decode cX9_joined 77 = .ok (.invokevirtual 248, 3) := by decide +kernel
theorem dX9_joined_80 : decode cX9_joined 80 = .ok (.ifCond .eq 6, 3) := by decide +kernel
theorem dX9_joined_83 : decode cX9_joined 83 = .ok (.iload 7, 2) := by decide +kernel
theorem dX9_joined_85 : decode cX9_joined 85 = .ok (.ireturn, 1) := by decide +kernel
theorem dX9_joined_86 : decode cX9_joined 86 = .ok (.iinc 7 1, 3) := by decide +kernel
theorem dX9_joined_89 : decode cX9_joined 89 = .ok (.goto (-26), 3) := by decide +kernel
theorem dX9_joined_92 : decode cX9_joined 92 = .ok (.bipush (-4), 2) := by decide +kernel
theorem dX9_joined_94 : decode cX9_joined 94 = .ok (.ireturn, 1) := by decide +kernel
set_option maxHeartbeats 4000000 in
set_option maxRecDepth 100000 in
theorem cX9_joined_k_0_s0 {l : Launch} {D : va_G} {a : Nat → Nat} {k : Nat → ClassId} {n : Nat} {p1 : Int32} {p2 : Int32} {p3 : Int32} {p4 : Int32} {x0 xz : bq_S} {rz : Int32} (hkp1 : p1.toNatClampNeg = 0) (h : fX9_joined n p1 p2 p3 p4 x0 = some (rz, xz)) : bq_M l D bq_cl (bq_ty k) (bq_wC a k) yX9_joined cX9_joined 8 (some .int) { frames := 4, cells := 0, slots := 0, locals := 93 } [.ref (a 0), .int p1, .int p2, .int p3, .int p4] x0 (some rz) xz := by
  refine bq_ofW RX9 [(0, .ref (a 0)), (1, .int p1), (2, .int p2), (3, .int p3), (4, .int p4)] (by decide +kernel) rfl (Nat.le_of_ble_eq_true rfl) rfl (bq_adC a k) ?_
  intro p e s m below meth c A Q ls S hK hD hA hR hS hP hl
  have hx := S.1; have hb := S.2.1; have hml := S.2.2.1; have hown := S.2.2.2.1; have hts := S.2.2.2.2
  have hret : ∀ z, some z = some (rz, xz) → (rz, xz) = z := fun z h => (Option.some.inj h).symm
  unfold fX9_joined at h
  refine lv_iload hx hb dX9_joined_0 (lv_at hl 4 rfl) ?_
  refine lv_iconst (v := (1 : Int32)) hx hb dX9_joined_2 (by decide) ?_
  refine lv_icmp_lt (tgt := 13) hx hb dX9_joined_3 (by decide) (fun c1 => ?_) (fun c1 => ?_)
  · replace h := (if_pos c1).symm.trans h
    refine lv_iconst (v := (-1 : Int32)) hx hb dX9_joined_13 (by decide) ?_
    obtain ⟨e1, e2⟩ := Prod.mk.inj (hret _ h)
    exact hR _ _ _ _ _ (congrArg some e1) rfl (by rw [e2]; exact hP) hS dX9_joined_14
  · replace h := (if_neg c1).symm.trans h
    refine lv_iload hx hb dX9_joined_6 (lv_at hl 4 rfl) ?_
    refine lv_bipush (v := (8 : Int32)) hx hb dX9_joined_8 (by decide) ?_
    refine lv_icmp_le (tgt := 15) hx hb dX9_joined_10 (by decide) (fun c2 => ?_) (fun c2 => ?_)
    · replace h := (if_pos c2).symm.trans h
      refine lv_aload_n hx hb dX9_joined_15 rfl (lv_at hl 0 rfl) ?_
      refine lv_iload_n hx hb dX9_joined_16 rfl (lv_at hl 1 rfl) ?_
      refine lv_iload_n hx hb dX9_joined_17 rfl (lv_at hl 2 rfl) ?_
      refine lv_iload_n hx hb dX9_joined_18 rfl (lv_at hl 3 rfl) ?_
      refine lv_iload hx hb dX9_joined_19 (lv_at hl 4 rfl) ?_
      obtain ⟨o3, ho3, h⟩ := Option.bind_eq_some_iff.mp h
      obtain ⟨v5, x4⟩ := o3
      replace h := un2_e h
      refine bq_callVi (q0 := 0) (As := [.int _, .int _, .int _, .int _]) S hK hD hA hP hS (cX9_refusalOf_k_0 ho3) hd_yX9_refusalOf ml_X9_233 in_yX9_refusalOf (hts _ sl_X9_X9_yX9_refusalOf) ⟨rfl, rfl⟩ ⟨by decide, by decide⟩ rfl rfl rfl hl.1 rfl (Nat.le_of_ble_eq_true rfl) ⟨Nat.zero_le _, Nat.zero_le _⟩ dX9_joined_21 (fun H locs hP hS => ?_)
      refine lv_istore (lv' := [(5, .int v5), (0, .ref (a 0)), (1, .int p1), (2, .int p2), (3, .int p3), (4, .int p4)]) hx hb dX9_joined_24 hl (by decide) rfl (fun ls hl => ?_)
      refine lv_iload hx hb dX9_joined_26 (lv_at hl 0 rfl) ?_
      refine lv_if_eq (tgt := 34) hx hb dX9_joined_28 (by decide) (fun c6 => ?_) (fun c6 => ?_)
      · replace h := (if_pos c6).symm.trans h
        refine lv_aload_n hx hb dX9_joined_34 rfl (lv_at hl 1 rfl) ?_
        refine bq_get (q0 := 0) S hK hP fl_X9_70_X9_9 rfl rfl rfl dX9_joined_35 ?_
        refine lv_iload_n hx hb dX9_joined_38 rfl (lv_at hl 2 rfl) ?_
        obtain ⟨g7, h⟩ := bq_gd h
        refine va_aldq (D := D) hx hb hK hP 33 3 rfl rfl g7 dX9_joined_39 ?_
        rw [hkp1]
        try rw [hkp1] at h
        refine W.eq (g2 := F0 m 40 ls [.ref (a 34)]) rfl ?_
        refine bq_get (q0 := 34) S hK hP fl_X9_237_X6_0 rfl rfl rfl dX9_joined_40 ?_
        refine lv_astore (lv' := [(6, .ref (a 35)), (5, .int v5), (0, .ref (a 0)), (1, .int p1), (2, .int p2), (3, .int p3), (4, .int p4)]) hx hb dX9_joined_43 hl (by decide) rfl (fun ls hl => ?_)
        refine lv_aload_n hx hb dX9_joined_45 rfl (lv_at hl 2 rfl) ?_
        refine lv_aload hx hb dX9_joined_46 (lv_at hl 0 rfl) ?_
        refine lv_iload_n hx hb dX9_joined_48 rfl (lv_at hl 5 rfl) ?_
        refine lv_iload hx hb dX9_joined_49 (lv_at hl 6 rfl) ?_
        obtain ⟨o8, ho8, h⟩ := Option.bind_eq_some_iff.mp h
        obtain ⟨v10, x9⟩ := o8
        replace h := un2_e h
        refine bq_callVi (q0 := 0) (As := [.ref (a 35), .int _, .int _]) S hK hD hA hP hS (cX9_areOthers_k_0_35 ho8) hd_yX9_areOthers ml_X9_244 in_yX9_areOthers (hts _ sl_X9_X9_yX9_areOthers) ⟨rfl, rfl⟩ ⟨by decide, by decide⟩ rfl rfl rfl hl.1 rfl (Nat.le_of_ble_eq_true rfl) ⟨Nat.zero_le _, Nat.zero_le _⟩ dX9_joined_51 (fun H locs hP hS => ?_)
        refine lv_if_ne (tgt := 60) hx hb dX9_joined_54 (by decide) (fun c11 => ?_) (fun c11 => ?_)
        · replace h := (if_neg c11).symm.trans h
          refine lv_iconst (v := (0 : Int32)) hx hb dX9_joined_60 (by decide) ?_
          refine lv_istore (lv' := [(7, .int (0 : Int32)), (6, .ref (a 35)), (5, .int v5), (0, .ref (a 0)), (1, .int p1), (2, .int p2), (3, .int p3), (4, .int p4)]) hx hb dX9_joined_61 hl (by decide) rfl (fun ls hl => ?_)
          have hl63 : ∀ (v12 : Int32) (v13 : Int32) (kf : Nat) (v15 : Int32) (x16 : bq_S) (eo : (Int32 × bq_S) ⊕ (Int32 × bq_S)) (H : Heap) (locs : List Loc) (ls : Array Slot), wh kf (fX9_joined_b63 n v12 v13 35) (v15, x16) = some eo → va_P D bq_cl (bq_wC a k x16) H → va_S A s.heap H locs → lv_has ls 8 [(0, .ref (a 0)), (3, .int v12), (4, .int v13), (6, .ref (a 35)), (7, .int v15)] → (∀ (H : Heap) (locs : List Loc) (ls : Array Slot) (v24 : Int32) (x25 : bq_S), eo = .inl (v24, x25) → va_P D bq_cl (bq_wC a k x25) H → va_S A s.heap H locs → lv_has ls 8 [] → W p l e { frames := 4, cells := 0, slots := 0, locals := 93 } s m [.ref (a 0), .int p1, .int p2, .int p3, .int p4].toArray below meth c H locs 0 0 Q (F0 m 92 ls [])) → (∀ z, eo = .inr z → (rz, xz) = z) → W p l e { frames := 4, cells := 0, slots := 0, locals := 93 } s m [.ref (a 0), .int p1, .int p2, .int p3, .int p4].toArray below meth c H locs 0 0 Q (F0 m 63 ls []) := by
            intro v12 v13 kf
            induction kf with
            | zero => intro v15 x16 eo H locs ls h; cases h
            | succ kf ih =>
              intro v15 x16 eo H locs ls h hP hS hl kx kr
              obtain ⟨out, h, hw⟩ := wh_s h
              have hret : ∀ z, (some (.inr (.inr z)) : Option ((Int32 × bq_S) ⊕ ((Int32 × bq_S) ⊕ (Int32 × bq_S)))) = some out → (rz, xz) = z := fun z h => kr z (by cases h; exact (Option.some.inj hw).symm)
              unfold fX9_joined_b63 at h
              replace h := un2_e h
              refine lv_iload hx hb dX9_joined_63 (lv_at hl 4 rfl) ?_
              refine lv_iconst (v := (4 : Int32)) hx hb dX9_joined_65 (by decide) ?_
              refine lv_icmp_ge (tgt := 92) hx hb dX9_joined_66 (by decide) (fun c17 => ?_) (fun c17 => ?_)
              · replace h := (if_pos c17).symm.trans h
                cases h
                exact kx _ _ _ _ _ (Option.some.inj hw).symm hP hS (lv_sub hl [] rfl)
              · replace h := (if_neg c17).symm.trans h
                refine lv_aload_n hx hb dX9_joined_69 rfl (lv_at hl 0 rfl) ?_
                refine lv_aload hx hb dX9_joined_70 (lv_at hl 3 rfl) ?_
                refine lv_iload_n hx hb dX9_joined_72 rfl (lv_at hl 1 rfl) ?_
                refine lv_iload hx hb dX9_joined_73 (lv_at hl 2 rfl) ?_
                refine lv_iload hx hb dX9_joined_75 (lv_at hl 4 rfl) ?_
                obtain ⟨o18, ho18, h⟩ := Option.bind_eq_some_iff.mp h
                obtain ⟨v20, x19⟩ := o18
                replace h := un2_e h
                refine bq_callVi (q0 := 0) (As := [.ref (a 35), .int _, .int _, .int _]) S hK hD hA hP hS (cX9_isLawfulJoined_k_0_35 ho18) hd_yX9_isLawfulJoined ml_X9_248 in_yX9_isLawfulJoined (hts _ sl_X9_X9_yX9_isLawfulJoined) ⟨rfl, rfl⟩ ⟨by decide, by decide⟩ rfl rfl rfl hl.1 rfl (Nat.le_of_ble_eq_true rfl) ⟨Nat.zero_le _, Nat.zero_le _⟩ dX9_joined_77 (fun H locs hP hS => ?_)
                refine lv_if_eq (tgt := 86) hx hb dX9_joined_80 (by decide) (fun c21 => ?_) (fun c21 => ?_)
                · replace h := (if_pos c21).symm.trans h
                  obtain ⟨v22, hv22, h⟩ := bq_b h
                  refine lv_iinc (v := v22) (lv' := [(7, .int v22), (0, .ref (a 0)), (3, .int v12), (4, .int v13), (6, .ref (a 35))]) hx hb dX9_joined_86 hl (k := 4) rfl (by rw [hv22]; rfl) (by decide) rfl (fun ls hl => ?_)
                  refine lv_goto (tgt := 63) hx hb dX9_joined_89 (by decide) ?_
                  cases h
                  exact ih _ _ _ _ _ _ hw hP hS (lv_sub hl [1, 2, 3, 4, 0] rfl) kx kr
                · replace h := (if_neg c21).symm.trans h
                  refine lv_iload hx hb dX9_joined_83 (lv_at hl 4 rfl) ?_
                  obtain ⟨e1, e2⟩ := Prod.mk.inj (hret _ h)
                  exact hR _ _ _ _ _ (congrArg some e1) rfl (by rw [e2]; exact hP) hS dX9_joined_85
          obtain ⟨e23, he23, h⟩ := Option.bind_eq_some_iff.mp h
          refine hl63 _ _ n _ _ e23 _ _ _ he23 hP hS (lv_sub hl [3, 6, 7, 1, 0] rfl) (fun H locs ls v24 x25 hz hP hS hl => ?_) (fun z hz => hret z (bq_ir h hz :))
          replace h := bq_il h hz
          replace h := un2_e h
          refine lv_bipush (v := (-4 : Int32)) hx hb dX9_joined_92 (by decide) ?_
          obtain ⟨e1, e2⟩ := Prod.mk.inj (hret _ h)
          exact hR _ _ _ _ _ (congrArg some e1) rfl (by rw [e2]; exact hP) hS dX9_joined_94
        · replace h := (if_pos c11).symm.trans h
          refine lv_bipush (v := (-2 : Int32)) hx hb dX9_joined_57 (by decide) ?_
          obtain ⟨e1, e2⟩ := Prod.mk.inj (hret _ h)
          exact hR _ _ _ _ _ (congrArg some e1) rfl (by rw [e2]; exact hP) hS dX9_joined_59
      · replace h := (if_neg c6).symm.trans h
        refine lv_iload hx hb dX9_joined_31 (lv_at hl 0 rfl) ?_
        obtain ⟨e1, e2⟩ := Prod.mk.inj (hret _ h)
        exact hR _ _ _ _ _ (congrArg some e1) rfl (by rw [e2]; exact hP) hS dX9_joined_33
    · replace h := (if_neg c2).symm.trans h
      refine lv_iconst (v := (-1 : Int32)) hx hb dX9_joined_13 (by decide) ?_
      obtain ⟨e1, e2⟩ := Prod.mk.inj (hret _ h)
      exact hR _ _ _ _ _ (congrArg some e1) rfl (by rw [e2]; exact hP) hS dX9_joined_14
set_option maxHeartbeats 4000000 in
set_option maxRecDepth 100000 in
theorem cX9_areOthers_k_0_37 {l : Launch} {D : va_G} {a : Nat → Nat} {k : Nat → ClassId} {n : Nat} {p2 : Int32} {p3 : Int32} {x0 xz : bq_S} {rz : Int32} (h : fX9_areOthers n 37 16 p2 p3 x0 = some (rz, xz)) : bq_M l D bq_cl (bq_ty k) (bq_wC a k) yX9_areOthers cX9_areOthers 7 (some .boolean) { frames := 3, cells := 0, slots := 0, locals := 64 } [.ref (a 0), .ref (a 37), .int p2, .int p3] x0 (some rz) xz := by
  refine bq_ofW RX9 [(0, .ref (a 0)), (1, .ref (a 37)), (2, .int p2), (3, .int p3)] (by decide +kernel) rfl (Nat.le_of_ble_eq_true rfl) rfl (bq_adC a k) ?_
  intro p e s m below meth c A Q ls S hK hD hA hR hS hP hl
  have hx := S.1; have hb := S.2.1; have hml := S.2.2.1; have hown := S.2.2.2.1; have hts := S.2.2.2.2
  have hret : ∀ z, some z = some (rz, xz) → (rz, xz) = z := fun z h => (Option.some.inj h).symm
  unfold fX9_areOthers at h
  refine lv_aload_n hx hb dX9_areOthers_0 rfl (lv_at hl 0 rfl) ?_
  refine bq_get (q0 := 0) S hK hP fl_X9_10_X9_0 rfl rfl rfl dX9_areOthers_1 ?_
  obtain ⟨o1, ho1, h⟩ := Option.bind_eq_some_iff.mp h
  obtain ⟨v3, x2⟩ := o1
  replace h := un2_e h
  refine bq_callVi (q0 := 1) (As := []) S hK hD hA hP hS (cX4_hallSet_k_1 ho1) hd_yX4_hallSet ml_X9_175 in_yX4_hallSet (hts _ sl_X4_X4_yX4_hallSet) ⟨rfl, rfl⟩ ⟨by decide, by decide⟩ rfl rfl rfl hl.1 rfl (Nat.le_of_ble_eq_true rfl) ⟨Nat.zero_le _, Nat.zero_le _⟩ dX9_areOthers_4 (fun H locs hP hS => ?_)
  refine lv_istore (lv' := [(4, .int v3), (0, .ref (a 0)), (1, .ref (a 37)), (2, .int p2), (3, .int p3)]) hx hb dX9_areOthers_7 hl (by decide) rfl (fun ls hl => ?_)
  refine lv_iload_n hx hb dX9_areOthers_9 rfl (lv_at hl 3 rfl) ?_
  refine lv_istore (lv' := [(5, .int p2), (4, .int v3), (0, .ref (a 0)), (1, .ref (a 37)), (2, .int p2), (3, .int p3)]) hx hb dX9_areOthers_10 hl (by decide) rfl (fun ls hl => ?_)
  have hl12 : ∀ (v6 : Int32) (v7 : Int32) (kf : Nat) (v8 : Int32) (v9 : Int32) (x10 : bq_S) (eo : (Int32 × Int32 × bq_S) ⊕ (Int32 × bq_S)) (H : Heap) (locs : List Loc) (ls : Array Slot), wh kf (fX9_areOthers_b12 n 37 16 v6 v7) (v8, v9, x10) = some eo → va_P D bq_cl (bq_wC a k x10) H → va_S A s.heap H locs → lv_has ls 7 [(0, .ref (a 0)), (1, .ref (a 37)), (2, .int v6), (3, .int v7), (4, .int v8), (5, .int v9)] → (∀ (H : Heap) (locs : List Loc) (ls : Array Slot) (v29 : Int32) (v30 : Int32) (x31 : bq_S), eo = .inl (v29, v30, x31) → va_P D bq_cl (bq_wC a k x31) H → va_S A s.heap H locs → lv_has ls 7 [] → W p l e { frames := 3, cells := 0, slots := 0, locals := 64 } s m [.ref (a 0), .ref (a 37), .int p2, .int p3].toArray below meth c H locs 0 0 Q (F0 m 71 ls [])) → (∀ z, eo = .inr z → (rz, xz) = z) → W p l e { frames := 3, cells := 0, slots := 0, locals := 64 } s m [.ref (a 0), .ref (a 37), .int p2, .int p3].toArray below meth c H locs 0 0 Q (F0 m 12 ls []) := by
    intro v6 v7 kf
    induction kf with
    | zero => intro v8 v9 x10 eo H locs ls h; cases h
    | succ kf ih =>
      intro v8 v9 x10 eo H locs ls h hP hS hl kx kr
      obtain ⟨out, h, hw⟩ := wh_s h
      have hret : ∀ z, (some (.inr (.inr z)) : Option ((Int32 × Int32 × bq_S) ⊕ ((Int32 × Int32 × bq_S) ⊕ (Int32 × bq_S)))) = some out → (rz, xz) = z := fun z h => kr z (by cases h; exact (Option.some.inj hw).symm)
      unfold fX9_areOthers_b12 at h
      replace h := un3_e h
      refine lv_iload hx hb dX9_areOthers_12 (lv_at hl 5 rfl) ?_
      refine lv_iload_n hx hb dX9_areOthers_14 rfl (lv_at hl 2 rfl) ?_
      refine lv_iload_n hx hb dX9_areOthers_15 rfl (lv_at hl 3 rfl) ?_
      refine lv_iadd hx hb dX9_areOthers_16 ?_
      refine lv_icmp_ge (tgt := 71) hx hb dX9_areOthers_17 (by decide) (fun c11 => ?_) (fun c11 => ?_)
      · replace h := (if_pos c11).symm.trans h
        cases h
        exact kx _ _ _ _ _ _ (Option.some.inj hw).symm hP hS (lv_sub hl [] rfl)
      · replace h := (if_neg c11).symm.trans h
        refine lv_aload_n hx hb dX9_areOthers_20 rfl (lv_at hl 0 rfl) ?_
        refine bq_get (q0 := 0) S hK hP fl_X9_10_X9_0 rfl rfl rfl dX9_areOthers_21 ?_
        refine lv_aload_n hx hb dX9_areOthers_24 rfl (lv_at hl 1 rfl) ?_
        refine lv_iload hx hb dX9_areOthers_25 (lv_at hl 5 rfl) ?_
        obtain ⟨g12, h⟩ := bq_gd h
        refine va_lald (D := D) hx hb hK hP 37 1 rfl rfl g12 dX9_areOthers_27 ?_
        obtain ⟨o13, ho13, h⟩ := Option.bind_eq_some_iff.mp h
        obtain ⟨v15, x14⟩ := o13
        replace h := un2_e h
        refine bq_callVi (q0 := 1) (As := [.long _]) S hK hD hA hP hS (cX4_isBook_k_1 ho13) hd_yX4_isBook ml_X9_106 in_yX4_isBook (hts _ sl_X4_X4_yX4_isBook) ⟨rfl, rfl⟩ ⟨by decide, by decide⟩ rfl rfl rfl hl.1 rfl (Nat.le_of_ble_eq_true rfl) ⟨Nat.zero_le _, Nat.zero_le _⟩ dX9_areOthers_28 (fun H locs hP hS => ?_)
        refine lv_if_ne (tgt := 36) hx hb dX9_areOthers_31 (by decide) (fun c16 => ?_) (fun c16 => ?_)
        · replace h := (if_neg c16).symm.trans h
          refine lv_aload_n hx hb dX9_areOthers_36 rfl (lv_at hl 1 rfl) ?_
          refine lv_iload hx hb dX9_areOthers_37 (lv_at hl 5 rfl) ?_
          obtain ⟨g17, h⟩ := bq_gd h
          refine va_lald (D := D) hx hb hK hP 37 1 rfl rfl g17 dX9_areOthers_39 ?_
          refine lv_l2i hx hb dX9_areOthers_40 rfl ?_
          refine lv_topi (fun v18 hv18 => ?_)
          replace h := bq_bv h hv18
          refine lv_istore (lv' := [(6, .int v18), (0, .ref (a 0)), (1, .ref (a 37)), (2, .int v6), (3, .int v7), (4, .int v8), (5, .int v9)]) hx hb dX9_areOthers_41 hl (by decide) rfl (fun ls hl => ?_)
          refine lv_iload hx hb dX9_areOthers_43 (lv_at hl 5 rfl) ?_
          refine lv_iload hx hb dX9_areOthers_45 (lv_at hl 0 rfl) ?_
          obtain ⟨o19, ho19, h⟩ := Option.bind_eq_some_iff.mp h
          obtain ⟨v21, x20⟩ := o19
          replace h := un2_e h
          refine bq_callSi (As := [.int _, .int _]) S hK hD hA hP hS (cX9_has_k ho19) hd_yX9_has ml_X9_208 st_yX9_has ⟨rfl, rfl⟩ ⟨by decide, by decide⟩ rfl hl.1 rfl (Nat.le_of_ble_eq_true rfl) ⟨Nat.zero_le _, Nat.zero_le _⟩ dX9_areOthers_47 (fun H locs hP hS => ?_)
          refine lv_if_eq (tgt := 55) hx hb dX9_areOthers_50 (by decide) (fun c22 => ?_) (fun c22 => ?_)
          · replace h := (if_pos c22).symm.trans h
            refine lv_iload hx hb dX9_areOthers_55 (lv_at hl 5 rfl) ?_
            refine lv_iload hx hb dX9_areOthers_57 (lv_at hl 0 rfl) ?_
            obtain ⟨o23, ho23, h⟩ := Option.bind_eq_some_iff.mp h
            obtain ⟨v25, x24⟩ := o23
            replace h := un2_e h
            refine bq_callSi (As := [.int _]) S hK hD hA hP hS (cX9_bit_k ho23) hd_yX9_bit ml_X9_211 st_yX9_bit ⟨rfl, rfl⟩ ⟨by decide, by decide⟩ rfl hl.1 rfl (Nat.le_of_ble_eq_true rfl) ⟨Nat.zero_le _, Nat.zero_le _⟩ dX9_areOthers_59 (fun H locs hP hS => ?_)
            refine lv_ior hx hb dX9_areOthers_62 ?_
            refine lv_topi (fun v26 hv26 => ?_)
            replace h := bq_bv h hv26
            refine lv_istore (lv' := [(4, .int v26), (6, .int v18), (0, .ref (a 0)), (1, .ref (a 37)), (2, .int v6), (3, .int v7), (5, .int v9)]) hx hb dX9_areOthers_63 hl (by decide) rfl (fun ls hl => ?_)
            obtain ⟨v27, hv27, h⟩ := bq_b h
            refine lv_iinc (v := v27) (lv' := [(5, .int v27), (4, .int v26), (6, .int v18), (0, .ref (a 0)), (1, .ref (a 37)), (2, .int v6), (3, .int v7)]) hx hb dX9_areOthers_65 hl (k := 6) rfl (by rw [hv27]; rfl) (by decide) rfl (fun ls hl => ?_)
            refine lv_goto (tgt := 12) hx hb dX9_areOthers_68 (by decide) ?_
            cases h
            exact ih _ _ _ _ _ _ _ hw hP hS (lv_sub hl [3, 4, 5, 6, 1, 0] rfl) kx kr
          · replace h := (if_neg c22).symm.trans h
            refine lv_iconst (v := (0 : Int32)) hx hb dX9_areOthers_53 (by decide) ?_
            obtain ⟨e1, e2⟩ := Prod.mk.inj (hret _ h)
            exact hR _ _ _ _ _ (congrArg some e1) rfl (by rw [e2]; exact hP) hS dX9_areOthers_54
        · replace h := (if_pos c16).symm.trans h
          refine lv_iconst (v := (0 : Int32)) hx hb dX9_areOthers_34 (by decide) ?_
          obtain ⟨e1, e2⟩ := Prod.mk.inj (hret _ h)
          exact hR _ _ _ _ _ (congrArg some e1) rfl (by rw [e2]; exact hP) hS dX9_areOthers_35
  obtain ⟨e28, he28, h⟩ := Option.bind_eq_some_iff.mp h
  refine hl12 _ _ n _ _ _ e28 _ _ _ he28 hP hS (lv_sub hl [2, 3, 4, 5, 1, 0] rfl) (fun H locs ls v29 v30 x31 hz hP hS hl => ?_) (fun z hz => hret z (bq_ir h hz :))
  replace h := bq_il h hz
  replace h := un3_e h
  refine lv_iconst (v := (1 : Int32)) hx hb dX9_areOthers_71 (by decide) ?_
  obtain ⟨e1, e2⟩ := Prod.mk.inj (hret _ h)
  exact hR _ _ _ _ _ (congrArg some e1) rfl (by rw [e2]; exact hP) hS dX9_areOthers_72
set_option maxHeartbeats 4000000 in
set_option maxRecDepth 100000 in
theorem cX9_isLawfulJoined_k_0_37 {l : Launch} {D : va_G} {a : Nat → Nat} {k : Nat → ClassId} {n : Nat} {p2 : Int32} {p3 : Int32} {p4 : Int32} {x0 xz : bq_S} {rz : Int32} (h : fX9_isLawfulJoined n 37 16 p2 p3 p4 x0 = some (rz, xz)) : bq_M l D bq_cl (bq_ty k) (bq_wC a k) yX9_isLawfulJoined cX9_isLawfulJoined 7 (some .boolean) { frames := 3, cells := 0, slots := 0, locals := 67 } [.ref (a 0), .ref (a 37), .int p2, .int p3, .int p4] x0 (some rz) xz := by
  refine bq_ofW RX9 [(0, .ref (a 0)), (1, .ref (a 37)), (2, .int p2), (3, .int p3), (4, .int p4)] (by decide +kernel) rfl (Nat.le_of_ble_eq_true rfl) rfl (bq_adC a k) ?_
  intro p e s m below meth c A Q ls S hK hD hA hR hS hP hl
  have hx := S.1; have hb := S.2.1; have hml := S.2.2.1; have hown := S.2.2.2.1; have hts := S.2.2.2.2
  have hret : ∀ z, some z = some (rz, xz) → (rz, xz) = z := fun z h => (Option.some.inj h).symm
  unfold fX9_isLawfulJoined at h
  refine lv_aload_n hx hb dX9_isLawfulJoined_0 rfl (lv_at hl 0 rfl) ?_
  refine bq_get (q0 := 0) S hK hP fl_X9_10_X9_0 rfl rfl rfl dX9_isLawfulJoined_1 ?_
  refine bq_get (q0 := 1) S hK hP fl_X9_159_X4_2 rfl rfl rfl dX9_isLawfulJoined_4 ?_
  refine lv_topi (fun v1 hv1 => ?_)
  replace h := bq_bv h hv1
  refine lv_istore (lv' := [(5, .int v1), (0, .ref (a 0)), (1, .ref (a 37)), (2, .int p2), (3, .int p3), (4, .int p4)]) hx hb dX9_isLawfulJoined_7 hl (by decide) rfl (fun ls hl => ?_)
  refine lv_iconst (v := (0 : Int32)) hx hb dX9_isLawfulJoined_9 (by decide) ?_
  refine lv_istore (lv' := [(6, .int (0 : Int32)), (5, .int v1), (0, .ref (a 0)), (1, .ref (a 37)), (2, .int p2), (3, .int p3), (4, .int p4)]) hx hb dX9_isLawfulJoined_10 hl (by decide) rfl (fun ls hl => ?_)
  have hl12 : ∀ (v4 : Int32) (v5 : Int32) (v6 : Int32) (v7 : Int32) (kf : Nat) (v8 : Int32) (x9 : bq_S) (eo : Int32 × bq_S) (H : Heap) (locs : List Loc) (ls : Array Slot), wh kf (fX9_isLawfulJoined_b12 n 37 16 v4 v5 v6 v7) (v8, x9) = some eo → va_P D bq_cl (bq_wC a k x9) H → va_S A s.heap H locs → lv_has ls 7 [(0, .ref (a 0)), (1, .ref (a 37)), (2, .int v4), (3, .int v5), (4, .int v6), (5, .int v7), (6, .int v8)] → (∀ (H : Heap) (locs : List Loc) (ls : Array Slot) (v24 : Int32) (x25 : bq_S), eo = (v24, x25) → va_P D bq_cl (bq_wC a k x25) H → va_S A s.heap H locs → lv_has ls 7 [(0, .ref (a 0)), (1, .ref (a 37)), (2, .int v4), (3, .int v5), (4, .int v6), (5, .int v7)] → W p l e { frames := 3, cells := 0, slots := 0, locals := 67 } s m [.ref (a 0), .ref (a 37), .int p2, .int p3, .int p4].toArray below meth c H locs 0 0 Q (F0 m 61 ls [])) → W p l e { frames := 3, cells := 0, slots := 0, locals := 67 } s m [.ref (a 0), .ref (a 37), .int p2, .int p3, .int p4].toArray below meth c H locs 0 0 Q (F0 m 12 ls []) := by
    intro v4 v5 v6 v7 kf
    induction kf with
    | zero => intro v8 x9 eo H locs ls h; cases h
    | succ kf ih =>
      intro v8 x9 eo H locs ls h hP hS hl kx
      obtain ⟨out, h, hw⟩ := wh_s h
      unfold fX9_isLawfulJoined_b12 at h
      replace h := un2_e h
      refine lv_iload hx hb dX9_isLawfulJoined_12 (lv_at hl 6 rfl) ?_
      refine lv_iload hx hb dX9_isLawfulJoined_14 (lv_at hl 5 rfl) ?_
      refine lv_icmp_ge (tgt := 61) hx hb dX9_isLawfulJoined_16 (by decide) (fun c10 => ?_) (fun c10 => ?_)
      · replace h := (if_pos c10).symm.trans h
        cases h
        exact kx _ _ _ _ _ (Option.some.inj hw).symm hP hS (lv_sub hl [0, 1, 2, 3, 4, 5] rfl)
      · replace h := (if_neg c10).symm.trans h
        refine lv_aload_n hx hb dX9_isLawfulJoined_19 rfl (lv_at hl 0 rfl) ?_
        refine bq_get (q0 := 0) S hK hP fl_X9_75_X9_10 rfl rfl rfl dX9_isLawfulJoined_20 ?_
        refine lv_iload hx hb dX9_isLawfulJoined_23 (lv_at hl 6 rfl) ?_
        refine lv_aload_n hx hb dX9_isLawfulJoined_25 rfl (lv_at hl 0 rfl) ?_
        refine bq_get (q0 := 0) S hK hP fl_X9_10_X9_0 rfl rfl rfl dX9_isLawfulJoined_26 ?_
        refine bq_get (q0 := 1) S hK hP fl_X9_156_X4_7 rfl rfl rfl dX9_isLawfulJoined_29 ?_
        refine lv_iload hx hb dX9_isLawfulJoined_32 (lv_at hl 4 rfl) ?_
        refine lv_iconst (v := (1 : Int32)) hx hb dX9_isLawfulJoined_34 (by decide) ?_
        obtain ⟨o11, ho11, h⟩ := Option.bind_eq_some_iff.mp h
        obtain ⟨v13, x12⟩ := o11
        replace h := un2_e h
        refine bq_callSi (As := [.int _, .int _]) S hK hD hA hP hS (cX9_has_k ho11) hd_yX9_has ml_X9_208 st_yX9_has ⟨rfl, rfl⟩ ⟨by decide, by decide⟩ rfl hl.1 rfl (Nat.le_of_ble_eq_true rfl) ⟨Nat.zero_le _, Nat.zero_le _⟩ dX9_isLawfulJoined_35 (fun H locs hP hS => ?_)
        refine lv_if_eq (tgt := 51) hx hb dX9_isLawfulJoined_38 (by decide) (fun c14 => ?_) (fun c14 => ?_)
        · replace h := (if_pos c14).symm.trans h
          refine lv_iload hx hb dX9_isLawfulJoined_51 (lv_at hl 6 rfl) ?_
          obtain ⟨g15, h⟩ := bq_gd h
          refine va_iald (D := D) hx hb hK hP 6 0 rfl rfl g15 dX9_isLawfulJoined_53 ?_
          obtain ⟨g17, h⟩ := bq_gd h
          obtain ⟨x16, hx16, h⟩ := bq_b h
          refine bq_iast (x1 := x16) (q0 := 42) (t0 := 0) S hK hD hP hS rfl rfl g17 (by rw [hx16]; rfl) dX9_isLawfulJoined_54 (fun H locs hP hS => ?_)
          obtain ⟨v18, hv18, h⟩ := bq_b h
          refine lv_iinc (v := v18) (lv' := [(6, .int v18), (0, .ref (a 0)), (1, .ref (a 37)), (2, .int v4), (3, .int v5), (4, .int v6), (5, .int v7)]) hx hb dX9_isLawfulJoined_55 hl (k := 6) rfl (by rw [hv18]; rfl) (by decide) rfl (fun ls hl => ?_)
          refine lv_goto (tgt := 12) hx hb dX9_isLawfulJoined_58 (by decide) ?_
          cases h
          exact ih _ _ _ _ _ _ hw hP hS (lv_sub hl [1, 2, 3, 4, 5, 6, 0] rfl) kx
        · replace h := (if_neg c14).symm.trans h
          refine lv_iload hx hb dX9_isLawfulJoined_41 (lv_at hl 5 rfl) ?_
          refine lv_iconst (v := (1 : Int32)) hx hb dX9_isLawfulJoined_43 (by decide) ?_
          refine lv_isub hx hb dX9_isLawfulJoined_44 ?_
          refine lv_iload hx hb dX9_isLawfulJoined_45 (lv_at hl 6 rfl) ?_
          refine lv_isub hx hb dX9_isLawfulJoined_47 ?_
          refine lv_goto (tgt := 53) hx hb dX9_isLawfulJoined_48 (by decide) ?_
          obtain ⟨g19, h⟩ := bq_gd h
          refine va_iald (D := D) hx hb hK hP 6 0 rfl rfl g19 dX9_isLawfulJoined_53 ?_
          obtain ⟨g21, h⟩ := bq_gd h
          obtain ⟨x20, hx20, h⟩ := bq_b h
          refine bq_iast (x1 := x20) (q0 := 42) (t0 := 0) S hK hD hP hS rfl rfl g21 (by rw [hx20]; rfl) dX9_isLawfulJoined_54 (fun H locs hP hS => ?_)
          obtain ⟨v22, hv22, h⟩ := bq_b h
          refine lv_iinc (v := v22) (lv' := [(6, .int v22), (0, .ref (a 0)), (1, .ref (a 37)), (2, .int v4), (3, .int v5), (4, .int v6), (5, .int v7)]) hx hb dX9_isLawfulJoined_55 hl (k := 6) rfl (by rw [hv22]; rfl) (by decide) rfl (fun ls hl => ?_)
          refine lv_goto (tgt := 12) hx hb dX9_isLawfulJoined_58 (by decide) ?_
          cases h
          exact ih _ _ _ _ _ _ hw hP hS (lv_sub hl [1, 2, 3, 4, 5, 6, 0] rfl) kx
  obtain ⟨e23, he23, h⟩ := Option.bind_eq_some_iff.mp h
  refine hl12 _ _ _ _ n _ _ e23 _ _ _ he23 hP hS (lv_sub hl [2, 3, 4, 5, 6, 1, 0] rfl) (fun H locs ls v24 x25 hz hP hS hl => ?_)
  subst hz
  replace h := un2_e h
  refine lv_iconst (v := (0 : Int32)) hx hb dX9_isLawfulJoined_61 (by decide) ?_
  refine lv_istore (lv' := [(6, .int (0 : Int32)), (0, .ref (a 0)), (1, .ref (a 37)), (2, .int p2), (3, .int p3), (4, .int p4), (5, .int v1)]) hx hb dX9_isLawfulJoined_62 hl (by decide) rfl (fun ls hl => ?_)
  have hl64 : ∀ (v28 : Int32) (v29 : Int32) (v30 : Int32) (v31 : Int32) (kf : Nat) (v32 : Int32) (x33 : bq_S) (eo : Int32 × bq_S) (H : Heap) (locs : List Loc) (ls : Array Slot), wh kf (fX9_isLawfulJoined_b64 n 37 16 v28 v29 v30 v31) (v32, x33) = some eo → va_P D bq_cl (bq_wC a k x33) H → va_S A s.heap H locs → lv_has ls 7 [(0, .ref (a 0)), (1, .ref (a 37)), (2, .int v28), (3, .int v29), (4, .int v30), (5, .int v31), (6, .int v32)] → (∀ (H : Heap) (locs : List Loc) (ls : Array Slot) (v51 : Int32) (x52 : bq_S), eo = (v51, x52) → va_P D bq_cl (bq_wC a k x52) H → va_S A s.heap H locs → lv_has ls 7 [(0, .ref (a 0)), (3, .int v29), (5, .int v31)] → W p l e { frames := 3, cells := 0, slots := 0, locals := 67 } s m [.ref (a 0), .ref (a 37), .int p2, .int p3, .int p4].toArray below meth c H locs 0 0 Q (F0 m 111 ls [])) → W p l e { frames := 3, cells := 0, slots := 0, locals := 67 } s m [.ref (a 0), .ref (a 37), .int p2, .int p3, .int p4].toArray below meth c H locs 0 0 Q (F0 m 64 ls []) := by
    intro v28 v29 v30 v31 kf
    induction kf with
    | zero => intro v32 x33 eo H locs ls h; cases h
    | succ kf ih =>
      intro v32 x33 eo H locs ls h hP hS hl kx
      obtain ⟨out, h, hw⟩ := wh_s h
      unfold fX9_isLawfulJoined_b64 at h
      replace h := un2_e h
      have hj101 : ∀ (v39 : Int32) (v40 : Int32) (v43 : Int32) (v44 : Int32) (x45 : bq_S) (H : Heap) (locs : List Loc) (ls : Array Slot), fX9_isLawfulJoined_j101 n 37 16 v28 v29 v30 v31 v39 v40 37 16 v43 v44 x45 = some out → va_P D bq_cl (bq_wC a k x45) H → va_S A s.heap H locs → lv_has ls 7 [(0, .ref (a 0)), (1, .ref (a 37)), (2, .int v28), (3, .int v29), (4, .int v30), (5, .int v31), (6, .int v39)] → W p l e { frames := 3, cells := 0, slots := 0, locals := 67 } s m [.ref (a 0), .ref (a 37), .int p2, .int p3, .int p4].toArray below meth c H locs 0 0 Q (F0 m 101 ls [.int v44, .int v43, .ref (a 37), .int v40, .ref (a 42)]) := by
        intro v39 v40 v43 v44 x45 H locs ls h hP hS hl
        unfold fX9_isLawfulJoined_j101 at h
        refine lv_iadd hx hb dX9_isLawfulJoined_101 ?_
        obtain ⟨g46, h⟩ := bq_gd h
        refine va_lald (D := D) hx hb hK hP 37 1 rfl rfl g46 dX9_isLawfulJoined_102 ?_
        refine lv_l2i hx hb dX9_isLawfulJoined_103 rfl ?_
        obtain ⟨g48, h⟩ := bq_gd h
        obtain ⟨x47, hx47, h⟩ := bq_b h
        refine bq_iast (x1 := x47) (q0 := 42) (t0 := 0) S hK hD hP hS rfl rfl g48 (by rw [hx47]; rfl) dX9_isLawfulJoined_104 (fun H locs hP hS => ?_)
        obtain ⟨v49, hv49, h⟩ := bq_b h
        refine lv_iinc (v := v49) (lv' := [(6, .int v49), (0, .ref (a 0)), (1, .ref (a 37)), (2, .int v28), (3, .int v29), (4, .int v30), (5, .int v31)]) hx hb dX9_isLawfulJoined_105 hl (k := 6) rfl (by rw [hv49]; rfl) (by decide) rfl (fun ls hl => ?_)
        refine lv_goto (tgt := 64) hx hb dX9_isLawfulJoined_108 (by decide) ?_
        cases h
        exact ih _ _ _ _ _ _ hw hP hS (lv_sub hl [1, 2, 3, 4, 5, 6, 0] rfl) kx
      refine lv_iload hx hb dX9_isLawfulJoined_64 (lv_at hl 6 rfl) ?_
      refine lv_iload_n hx hb dX9_isLawfulJoined_66 rfl (lv_at hl 3 rfl) ?_
      refine lv_icmp_ge (tgt := 111) hx hb dX9_isLawfulJoined_67 (by decide) (fun c34 => ?_) (fun c34 => ?_)
      · replace h := (if_pos c34).symm.trans h
        cases h
        exact kx _ _ _ _ _ (Option.some.inj hw).symm hP hS (lv_sub hl [0, 3, 5] rfl)
      · replace h := (if_neg c34).symm.trans h
        refine lv_aload_n hx hb dX9_isLawfulJoined_70 rfl (lv_at hl 0 rfl) ?_
        refine bq_get (q0 := 0) S hK hP fl_X9_75_X9_10 rfl rfl rfl dX9_isLawfulJoined_71 ?_
        refine lv_iload hx hb dX9_isLawfulJoined_74 (lv_at hl 5 rfl) ?_
        refine lv_iload hx hb dX9_isLawfulJoined_76 (lv_at hl 6 rfl) ?_
        refine lv_iadd hx hb dX9_isLawfulJoined_78 ?_
        refine lv_aload_n hx hb dX9_isLawfulJoined_79 rfl (lv_at hl 1 rfl) ?_
        refine lv_iload_n hx hb dX9_isLawfulJoined_80 rfl (lv_at hl 2 rfl) ?_
        refine lv_iload hx hb dX9_isLawfulJoined_81 (lv_at hl 4 rfl) ?_
        refine lv_iconst (v := (0 : Int32)) hx hb dX9_isLawfulJoined_83 (by decide) ?_
        obtain ⟨o35, ho35, h⟩ := Option.bind_eq_some_iff.mp h
        obtain ⟨v37, x36⟩ := o35
        replace h := un2_e h
        refine bq_callSi (As := [.int _, .int _]) S hK hD hA hP hS (cX9_has_k ho35) hd_yX9_has ml_X9_208 st_yX9_has ⟨rfl, rfl⟩ ⟨by decide, by decide⟩ rfl hl.1 rfl (Nat.le_of_ble_eq_true rfl) ⟨Nat.zero_le _, Nat.zero_le _⟩ dX9_isLawfulJoined_84 (fun H locs hP hS => ?_)
        refine lv_if_eq (tgt := 99) hx hb dX9_isLawfulJoined_87 (by decide) (fun c38 => ?_) (fun c38 => ?_)
        · replace h := (if_pos c38).symm.trans h
          refine lv_iload hx hb dX9_isLawfulJoined_99 (lv_at hl 6 rfl) ?_
          exact hj101 _ _ _ _ _ _ _ _ h hP hS (lv_sub hl [0, 1, 2, 3, 4, 5, 6] rfl)
        · replace h := (if_neg c38).symm.trans h
          refine lv_iload_n hx hb dX9_isLawfulJoined_90 rfl (lv_at hl 3 rfl) ?_
          refine lv_iconst (v := (1 : Int32)) hx hb dX9_isLawfulJoined_91 (by decide) ?_
          refine lv_isub hx hb dX9_isLawfulJoined_92 ?_
          refine lv_iload hx hb dX9_isLawfulJoined_93 (lv_at hl 6 rfl) ?_
          refine lv_isub hx hb dX9_isLawfulJoined_95 ?_
          refine lv_goto (tgt := 101) hx hb dX9_isLawfulJoined_96 (by decide) ?_
          exact hj101 _ _ _ _ _ _ _ _ h hP hS (lv_sub hl [0, 1, 2, 3, 4, 5, 6] rfl)
  obtain ⟨e50, he50, h⟩ := Option.bind_eq_some_iff.mp h
  refine hl64 _ _ _ _ n _ _ e50 _ _ _ he50 hP hS (lv_sub hl [1, 2, 3, 4, 5, 6, 0] rfl) (fun H locs ls v51 x52 hz hP hS hl => ?_)
  subst hz
  replace h := un2_e h
  refine lv_aload_n hx hb dX9_isLawfulJoined_111 rfl (lv_at hl 0 rfl) ?_
  refine bq_get (q0 := 0) S hK hP fl_X9_10_X9_0 rfl rfl rfl dX9_isLawfulJoined_112 ?_
  refine lv_aload_n hx hb dX9_isLawfulJoined_115 rfl (lv_at hl 0 rfl) ?_
  refine bq_get (q0 := 0) S hK hP fl_X9_75_X9_10 rfl rfl rfl dX9_isLawfulJoined_116 ?_
  refine lv_iload hx hb dX9_isLawfulJoined_119 (lv_at hl 2 rfl) ?_
  refine lv_iload_n hx hb dX9_isLawfulJoined_121 rfl (lv_at hl 1 rfl) ?_
  refine lv_iadd hx hb dX9_isLawfulJoined_122 ?_
  obtain ⟨o53, ho53, h⟩ := Option.bind_eq_some_iff.mp h
  obtain ⟨v55, x54⟩ := o53
  replace h := un2_e h
  refine bq_callVi (q0 := 1) (As := [.ref (a 42), .int _]) S hK hD hA hP hS (cX4_isLawful_k_1_42 ho53) hd_yX4_isLawful ml_X9_284 in_yX4_isLawful (hts _ sl_X4_X4_yX4_isLawful) ⟨rfl, rfl⟩ ⟨by decide, by decide⟩ rfl rfl rfl hl.1 rfl (Nat.le_of_ble_eq_true rfl) ⟨Nat.zero_le _, Nat.zero_le _⟩ dX9_isLawfulJoined_123 (fun H locs hP hS => ?_)
  obtain ⟨g56, h⟩ := bq_gp h
  obtain ⟨e1, e2⟩ := Prod.mk.inj (hret _ h)
  exact hR _ _ _ _ _ (congrArg some e1) (bq_z g56) (by rw [e2]; exact hP) hS dX9_isLawfulJoined_126
set_option maxHeartbeats 4000000 in
set_option maxRecDepth 100000 in
theorem cX9_joined_k_0_s1 {l : Launch} {D : va_G} {a : Nat → Nat} {k : Nat → ClassId} {n : Nat} {p1 : Int32} {p2 : Int32} {p3 : Int32} {p4 : Int32} {x0 xz : bq_S} {rz : Int32} (hkp1 : p1.toNatClampNeg = 1) (h : fX9_joined n p1 p2 p3 p4 x0 = some (rz, xz)) : bq_M l D bq_cl (bq_ty k) (bq_wC a k) yX9_joined cX9_joined 8 (some .int) { frames := 4, cells := 0, slots := 0, locals := 93 } [.ref (a 0), .int p1, .int p2, .int p3, .int p4] x0 (some rz) xz := by
  refine bq_ofW RX9 [(0, .ref (a 0)), (1, .int p1), (2, .int p2), (3, .int p3), (4, .int p4)] (by decide +kernel) rfl (Nat.le_of_ble_eq_true rfl) rfl (bq_adC a k) ?_
  intro p e s m below meth c A Q ls S hK hD hA hR hS hP hl
  have hx := S.1; have hb := S.2.1; have hml := S.2.2.1; have hown := S.2.2.2.1; have hts := S.2.2.2.2
  have hret : ∀ z, some z = some (rz, xz) → (rz, xz) = z := fun z h => (Option.some.inj h).symm
  unfold fX9_joined at h
  refine lv_iload hx hb dX9_joined_0 (lv_at hl 4 rfl) ?_
  refine lv_iconst (v := (1 : Int32)) hx hb dX9_joined_2 (by decide) ?_
  refine lv_icmp_lt (tgt := 13) hx hb dX9_joined_3 (by decide) (fun c1 => ?_) (fun c1 => ?_)
  · replace h := (if_pos c1).symm.trans h
    refine lv_iconst (v := (-1 : Int32)) hx hb dX9_joined_13 (by decide) ?_
    obtain ⟨e1, e2⟩ := Prod.mk.inj (hret _ h)
    exact hR _ _ _ _ _ (congrArg some e1) rfl (by rw [e2]; exact hP) hS dX9_joined_14
  · replace h := (if_neg c1).symm.trans h
    refine lv_iload hx hb dX9_joined_6 (lv_at hl 4 rfl) ?_
    refine lv_bipush (v := (8 : Int32)) hx hb dX9_joined_8 (by decide) ?_
    refine lv_icmp_le (tgt := 15) hx hb dX9_joined_10 (by decide) (fun c2 => ?_) (fun c2 => ?_)
    · replace h := (if_pos c2).symm.trans h
      refine lv_aload_n hx hb dX9_joined_15 rfl (lv_at hl 0 rfl) ?_
      refine lv_iload_n hx hb dX9_joined_16 rfl (lv_at hl 1 rfl) ?_
      refine lv_iload_n hx hb dX9_joined_17 rfl (lv_at hl 2 rfl) ?_
      refine lv_iload_n hx hb dX9_joined_18 rfl (lv_at hl 3 rfl) ?_
      refine lv_iload hx hb dX9_joined_19 (lv_at hl 4 rfl) ?_
      obtain ⟨o3, ho3, h⟩ := Option.bind_eq_some_iff.mp h
      obtain ⟨v5, x4⟩ := o3
      replace h := un2_e h
      refine bq_callVi (q0 := 0) (As := [.int _, .int _, .int _, .int _]) S hK hD hA hP hS (cX9_refusalOf_k_0 ho3) hd_yX9_refusalOf ml_X9_233 in_yX9_refusalOf (hts _ sl_X9_X9_yX9_refusalOf) ⟨rfl, rfl⟩ ⟨by decide, by decide⟩ rfl rfl rfl hl.1 rfl (Nat.le_of_ble_eq_true rfl) ⟨Nat.zero_le _, Nat.zero_le _⟩ dX9_joined_21 (fun H locs hP hS => ?_)
      refine lv_istore (lv' := [(5, .int v5), (0, .ref (a 0)), (1, .int p1), (2, .int p2), (3, .int p3), (4, .int p4)]) hx hb dX9_joined_24 hl (by decide) rfl (fun ls hl => ?_)
      refine lv_iload hx hb dX9_joined_26 (lv_at hl 0 rfl) ?_
      refine lv_if_eq (tgt := 34) hx hb dX9_joined_28 (by decide) (fun c6 => ?_) (fun c6 => ?_)
      · replace h := (if_pos c6).symm.trans h
        refine lv_aload_n hx hb dX9_joined_34 rfl (lv_at hl 1 rfl) ?_
        refine bq_get (q0 := 0) S hK hP fl_X9_70_X9_9 rfl rfl rfl dX9_joined_35 ?_
        refine lv_iload_n hx hb dX9_joined_38 rfl (lv_at hl 2 rfl) ?_
        obtain ⟨g7, h⟩ := bq_gd h
        refine va_aldq (D := D) hx hb hK hP 33 3 rfl rfl g7 dX9_joined_39 ?_
        rw [hkp1]
        try rw [hkp1] at h
        refine W.eq (g2 := F0 m 40 ls [.ref (a 36)]) rfl ?_
        refine bq_get (q0 := 36) S hK hP fl_X9_237_X6_0 rfl rfl rfl dX9_joined_40 ?_
        refine lv_astore (lv' := [(6, .ref (a 37)), (5, .int v5), (0, .ref (a 0)), (1, .int p1), (2, .int p2), (3, .int p3), (4, .int p4)]) hx hb dX9_joined_43 hl (by decide) rfl (fun ls hl => ?_)
        refine lv_aload_n hx hb dX9_joined_45 rfl (lv_at hl 2 rfl) ?_
        refine lv_aload hx hb dX9_joined_46 (lv_at hl 0 rfl) ?_
        refine lv_iload_n hx hb dX9_joined_48 rfl (lv_at hl 5 rfl) ?_
        refine lv_iload hx hb dX9_joined_49 (lv_at hl 6 rfl) ?_
        obtain ⟨o8, ho8, h⟩ := Option.bind_eq_some_iff.mp h
        obtain ⟨v10, x9⟩ := o8
        replace h := un2_e h
        refine bq_callVi (q0 := 0) (As := [.ref (a 37), .int _, .int _]) S hK hD hA hP hS (cX9_areOthers_k_0_37 ho8) hd_yX9_areOthers ml_X9_244 in_yX9_areOthers (hts _ sl_X9_X9_yX9_areOthers) ⟨rfl, rfl⟩ ⟨by decide, by decide⟩ rfl rfl rfl hl.1 rfl (Nat.le_of_ble_eq_true rfl) ⟨Nat.zero_le _, Nat.zero_le _⟩ dX9_joined_51 (fun H locs hP hS => ?_)
        refine lv_if_ne (tgt := 60) hx hb dX9_joined_54 (by decide) (fun c11 => ?_) (fun c11 => ?_)
        · replace h := (if_neg c11).symm.trans h
          refine lv_iconst (v := (0 : Int32)) hx hb dX9_joined_60 (by decide) ?_
          refine lv_istore (lv' := [(7, .int (0 : Int32)), (6, .ref (a 37)), (5, .int v5), (0, .ref (a 0)), (1, .int p1), (2, .int p2), (3, .int p3), (4, .int p4)]) hx hb dX9_joined_61 hl (by decide) rfl (fun ls hl => ?_)
          have hl63 : ∀ (v12 : Int32) (v13 : Int32) (kf : Nat) (v15 : Int32) (x16 : bq_S) (eo : (Int32 × bq_S) ⊕ (Int32 × bq_S)) (H : Heap) (locs : List Loc) (ls : Array Slot), wh kf (fX9_joined_b63 n v12 v13 37) (v15, x16) = some eo → va_P D bq_cl (bq_wC a k x16) H → va_S A s.heap H locs → lv_has ls 8 [(0, .ref (a 0)), (3, .int v12), (4, .int v13), (6, .ref (a 37)), (7, .int v15)] → (∀ (H : Heap) (locs : List Loc) (ls : Array Slot) (v24 : Int32) (x25 : bq_S), eo = .inl (v24, x25) → va_P D bq_cl (bq_wC a k x25) H → va_S A s.heap H locs → lv_has ls 8 [] → W p l e { frames := 4, cells := 0, slots := 0, locals := 93 } s m [.ref (a 0), .int p1, .int p2, .int p3, .int p4].toArray below meth c H locs 0 0 Q (F0 m 92 ls [])) → (∀ z, eo = .inr z → (rz, xz) = z) → W p l e { frames := 4, cells := 0, slots := 0, locals := 93 } s m [.ref (a 0), .int p1, .int p2, .int p3, .int p4].toArray below meth c H locs 0 0 Q (F0 m 63 ls []) := by
            intro v12 v13 kf
            induction kf with
            | zero => intro v15 x16 eo H locs ls h; cases h
            | succ kf ih =>
              intro v15 x16 eo H locs ls h hP hS hl kx kr
              obtain ⟨out, h, hw⟩ := wh_s h
              have hret : ∀ z, (some (.inr (.inr z)) : Option ((Int32 × bq_S) ⊕ ((Int32 × bq_S) ⊕ (Int32 × bq_S)))) = some out → (rz, xz) = z := fun z h => kr z (by cases h; exact (Option.some.inj hw).symm)
              unfold fX9_joined_b63 at h
              replace h := un2_e h
              refine lv_iload hx hb dX9_joined_63 (lv_at hl 4 rfl) ?_
              refine lv_iconst (v := (4 : Int32)) hx hb dX9_joined_65 (by decide) ?_
              refine lv_icmp_ge (tgt := 92) hx hb dX9_joined_66 (by decide) (fun c17 => ?_) (fun c17 => ?_)
              · replace h := (if_pos c17).symm.trans h
                cases h
                exact kx _ _ _ _ _ (Option.some.inj hw).symm hP hS (lv_sub hl [] rfl)
              · replace h := (if_neg c17).symm.trans h
                refine lv_aload_n hx hb dX9_joined_69 rfl (lv_at hl 0 rfl) ?_
                refine lv_aload hx hb dX9_joined_70 (lv_at hl 3 rfl) ?_
                refine lv_iload_n hx hb dX9_joined_72 rfl (lv_at hl 1 rfl) ?_
                refine lv_iload hx hb dX9_joined_73 (lv_at hl 2 rfl) ?_
                refine lv_iload hx hb dX9_joined_75 (lv_at hl 4 rfl) ?_
                obtain ⟨o18, ho18, h⟩ := Option.bind_eq_some_iff.mp h
                obtain ⟨v20, x19⟩ := o18
                replace h := un2_e h
                refine bq_callVi (q0 := 0) (As := [.ref (a 37), .int _, .int _, .int _]) S hK hD hA hP hS (cX9_isLawfulJoined_k_0_37 ho18) hd_yX9_isLawfulJoined ml_X9_248 in_yX9_isLawfulJoined (hts _ sl_X9_X9_yX9_isLawfulJoined) ⟨rfl, rfl⟩ ⟨by decide, by decide⟩ rfl rfl rfl hl.1 rfl (Nat.le_of_ble_eq_true rfl) ⟨Nat.zero_le _, Nat.zero_le _⟩ dX9_joined_77 (fun H locs hP hS => ?_)
                refine lv_if_eq (tgt := 86) hx hb dX9_joined_80 (by decide) (fun c21 => ?_) (fun c21 => ?_)
                · replace h := (if_pos c21).symm.trans h
                  obtain ⟨v22, hv22, h⟩ := bq_b h
                  refine lv_iinc (v := v22) (lv' := [(7, .int v22), (0, .ref (a 0)), (3, .int v12), (4, .int v13), (6, .ref (a 37))]) hx hb dX9_joined_86 hl (k := 4) rfl (by rw [hv22]; rfl) (by decide) rfl (fun ls hl => ?_)
                  refine lv_goto (tgt := 63) hx hb dX9_joined_89 (by decide) ?_
                  cases h
                  exact ih _ _ _ _ _ _ hw hP hS (lv_sub hl [1, 2, 3, 4, 0] rfl) kx kr
                · replace h := (if_neg c21).symm.trans h
                  refine lv_iload hx hb dX9_joined_83 (lv_at hl 4 rfl) ?_
                  obtain ⟨e1, e2⟩ := Prod.mk.inj (hret _ h)
                  exact hR _ _ _ _ _ (congrArg some e1) rfl (by rw [e2]; exact hP) hS dX9_joined_85
          obtain ⟨e23, he23, h⟩ := Option.bind_eq_some_iff.mp h
          refine hl63 _ _ n _ _ e23 _ _ _ he23 hP hS (lv_sub hl [3, 6, 7, 1, 0] rfl) (fun H locs ls v24 x25 hz hP hS hl => ?_) (fun z hz => hret z (bq_ir h hz :))
          replace h := bq_il h hz
          replace h := un2_e h
          refine lv_bipush (v := (-4 : Int32)) hx hb dX9_joined_92 (by decide) ?_
          obtain ⟨e1, e2⟩ := Prod.mk.inj (hret _ h)
          exact hR _ _ _ _ _ (congrArg some e1) rfl (by rw [e2]; exact hP) hS dX9_joined_94
        · replace h := (if_pos c11).symm.trans h
          refine lv_bipush (v := (-2 : Int32)) hx hb dX9_joined_57 (by decide) ?_
          obtain ⟨e1, e2⟩ := Prod.mk.inj (hret _ h)
          exact hR _ _ _ _ _ (congrArg some e1) rfl (by rw [e2]; exact hP) hS dX9_joined_59
      · replace h := (if_neg c6).symm.trans h
        refine lv_iload hx hb dX9_joined_31 (lv_at hl 0 rfl) ?_
        obtain ⟨e1, e2⟩ := Prod.mk.inj (hret _ h)
        exact hR _ _ _ _ _ (congrArg some e1) rfl (by rw [e2]; exact hP) hS dX9_joined_33
    · replace h := (if_neg c2).symm.trans h
      refine lv_iconst (v := (-1 : Int32)) hx hb dX9_joined_13 (by decide) ?_
      obtain ⟨e1, e2⟩ := Prod.mk.inj (hret _ h)
      exact hR _ _ _ _ _ (congrArg some e1) rfl (by rw [e2]; exact hP) hS dX9_joined_14
set_option maxHeartbeats 4000000 in
set_option maxRecDepth 100000 in
theorem cX9_areOthers_k_0_39 {l : Launch} {D : va_G} {a : Nat → Nat} {k : Nat → ClassId} {n : Nat} {p2 : Int32} {p3 : Int32} {x0 xz : bq_S} {rz : Int32} (h : fX9_areOthers n 39 16 p2 p3 x0 = some (rz, xz)) : bq_M l D bq_cl (bq_ty k) (bq_wC a k) yX9_areOthers cX9_areOthers 7 (some .boolean) { frames := 3, cells := 0, slots := 0, locals := 64 } [.ref (a 0), .ref (a 39), .int p2, .int p3] x0 (some rz) xz := by
  refine bq_ofW RX9 [(0, .ref (a 0)), (1, .ref (a 39)), (2, .int p2), (3, .int p3)] (by decide +kernel) rfl (Nat.le_of_ble_eq_true rfl) rfl (bq_adC a k) ?_
  intro p e s m below meth c A Q ls S hK hD hA hR hS hP hl
  have hx := S.1; have hb := S.2.1; have hml := S.2.2.1; have hown := S.2.2.2.1; have hts := S.2.2.2.2
  have hret : ∀ z, some z = some (rz, xz) → (rz, xz) = z := fun z h => (Option.some.inj h).symm
  unfold fX9_areOthers at h
  refine lv_aload_n hx hb dX9_areOthers_0 rfl (lv_at hl 0 rfl) ?_
  refine bq_get (q0 := 0) S hK hP fl_X9_10_X9_0 rfl rfl rfl dX9_areOthers_1 ?_
  obtain ⟨o1, ho1, h⟩ := Option.bind_eq_some_iff.mp h
  obtain ⟨v3, x2⟩ := o1
  replace h := un2_e h
  refine bq_callVi (q0 := 1) (As := []) S hK hD hA hP hS (cX4_hallSet_k_1 ho1) hd_yX4_hallSet ml_X9_175 in_yX4_hallSet (hts _ sl_X4_X4_yX4_hallSet) ⟨rfl, rfl⟩ ⟨by decide, by decide⟩ rfl rfl rfl hl.1 rfl (Nat.le_of_ble_eq_true rfl) ⟨Nat.zero_le _, Nat.zero_le _⟩ dX9_areOthers_4 (fun H locs hP hS => ?_)
  refine lv_istore (lv' := [(4, .int v3), (0, .ref (a 0)), (1, .ref (a 39)), (2, .int p2), (3, .int p3)]) hx hb dX9_areOthers_7 hl (by decide) rfl (fun ls hl => ?_)
  refine lv_iload_n hx hb dX9_areOthers_9 rfl (lv_at hl 3 rfl) ?_
  refine lv_istore (lv' := [(5, .int p2), (4, .int v3), (0, .ref (a 0)), (1, .ref (a 39)), (2, .int p2), (3, .int p3)]) hx hb dX9_areOthers_10 hl (by decide) rfl (fun ls hl => ?_)
  have hl12 : ∀ (v6 : Int32) (v7 : Int32) (kf : Nat) (v8 : Int32) (v9 : Int32) (x10 : bq_S) (eo : (Int32 × Int32 × bq_S) ⊕ (Int32 × bq_S)) (H : Heap) (locs : List Loc) (ls : Array Slot), wh kf (fX9_areOthers_b12 n 39 16 v6 v7) (v8, v9, x10) = some eo → va_P D bq_cl (bq_wC a k x10) H → va_S A s.heap H locs → lv_has ls 7 [(0, .ref (a 0)), (1, .ref (a 39)), (2, .int v6), (3, .int v7), (4, .int v8), (5, .int v9)] → (∀ (H : Heap) (locs : List Loc) (ls : Array Slot) (v29 : Int32) (v30 : Int32) (x31 : bq_S), eo = .inl (v29, v30, x31) → va_P D bq_cl (bq_wC a k x31) H → va_S A s.heap H locs → lv_has ls 7 [] → W p l e { frames := 3, cells := 0, slots := 0, locals := 64 } s m [.ref (a 0), .ref (a 39), .int p2, .int p3].toArray below meth c H locs 0 0 Q (F0 m 71 ls [])) → (∀ z, eo = .inr z → (rz, xz) = z) → W p l e { frames := 3, cells := 0, slots := 0, locals := 64 } s m [.ref (a 0), .ref (a 39), .int p2, .int p3].toArray below meth c H locs 0 0 Q (F0 m 12 ls []) := by
    intro v6 v7 kf
    induction kf with
    | zero => intro v8 v9 x10 eo H locs ls h; cases h
    | succ kf ih =>
      intro v8 v9 x10 eo H locs ls h hP hS hl kx kr
      obtain ⟨out, h, hw⟩ := wh_s h
      have hret : ∀ z, (some (.inr (.inr z)) : Option ((Int32 × Int32 × bq_S) ⊕ ((Int32 × Int32 × bq_S) ⊕ (Int32 × bq_S)))) = some out → (rz, xz) = z := fun z h => kr z (by cases h; exact (Option.some.inj hw).symm)
      unfold fX9_areOthers_b12 at h
      replace h := un3_e h
      refine lv_iload hx hb dX9_areOthers_12 (lv_at hl 5 rfl) ?_
      refine lv_iload_n hx hb dX9_areOthers_14 rfl (lv_at hl 2 rfl) ?_
      refine lv_iload_n hx hb dX9_areOthers_15 rfl (lv_at hl 3 rfl) ?_
      refine lv_iadd hx hb dX9_areOthers_16 ?_
      refine lv_icmp_ge (tgt := 71) hx hb dX9_areOthers_17 (by decide) (fun c11 => ?_) (fun c11 => ?_)
      · replace h := (if_pos c11).symm.trans h
        cases h
        exact kx _ _ _ _ _ _ (Option.some.inj hw).symm hP hS (lv_sub hl [] rfl)
      · replace h := (if_neg c11).symm.trans h
        refine lv_aload_n hx hb dX9_areOthers_20 rfl (lv_at hl 0 rfl) ?_
        refine bq_get (q0 := 0) S hK hP fl_X9_10_X9_0 rfl rfl rfl dX9_areOthers_21 ?_
        refine lv_aload_n hx hb dX9_areOthers_24 rfl (lv_at hl 1 rfl) ?_
        refine lv_iload hx hb dX9_areOthers_25 (lv_at hl 5 rfl) ?_
        obtain ⟨g12, h⟩ := bq_gd h
        refine va_lald (D := D) hx hb hK hP 39 1 rfl rfl g12 dX9_areOthers_27 ?_
        obtain ⟨o13, ho13, h⟩ := Option.bind_eq_some_iff.mp h
        obtain ⟨v15, x14⟩ := o13
        replace h := un2_e h
        refine bq_callVi (q0 := 1) (As := [.long _]) S hK hD hA hP hS (cX4_isBook_k_1 ho13) hd_yX4_isBook ml_X9_106 in_yX4_isBook (hts _ sl_X4_X4_yX4_isBook) ⟨rfl, rfl⟩ ⟨by decide, by decide⟩ rfl rfl rfl hl.1 rfl (Nat.le_of_ble_eq_true rfl) ⟨Nat.zero_le _, Nat.zero_le _⟩ dX9_areOthers_28 (fun H locs hP hS => ?_)
        refine lv_if_ne (tgt := 36) hx hb dX9_areOthers_31 (by decide) (fun c16 => ?_) (fun c16 => ?_)
        · replace h := (if_neg c16).symm.trans h
          refine lv_aload_n hx hb dX9_areOthers_36 rfl (lv_at hl 1 rfl) ?_
          refine lv_iload hx hb dX9_areOthers_37 (lv_at hl 5 rfl) ?_
          obtain ⟨g17, h⟩ := bq_gd h
          refine va_lald (D := D) hx hb hK hP 39 1 rfl rfl g17 dX9_areOthers_39 ?_
          refine lv_l2i hx hb dX9_areOthers_40 rfl ?_
          refine lv_topi (fun v18 hv18 => ?_)
          replace h := bq_bv h hv18
          refine lv_istore (lv' := [(6, .int v18), (0, .ref (a 0)), (1, .ref (a 39)), (2, .int v6), (3, .int v7), (4, .int v8), (5, .int v9)]) hx hb dX9_areOthers_41 hl (by decide) rfl (fun ls hl => ?_)
          refine lv_iload hx hb dX9_areOthers_43 (lv_at hl 5 rfl) ?_
          refine lv_iload hx hb dX9_areOthers_45 (lv_at hl 0 rfl) ?_
          obtain ⟨o19, ho19, h⟩ := Option.bind_eq_some_iff.mp h
          obtain ⟨v21, x20⟩ := o19
          replace h := un2_e h
          refine bq_callSi (As := [.int _, .int _]) S hK hD hA hP hS (cX9_has_k ho19) hd_yX9_has ml_X9_208 st_yX9_has ⟨rfl, rfl⟩ ⟨by decide, by decide⟩ rfl hl.1 rfl (Nat.le_of_ble_eq_true rfl) ⟨Nat.zero_le _, Nat.zero_le _⟩ dX9_areOthers_47 (fun H locs hP hS => ?_)
          refine lv_if_eq (tgt := 55) hx hb dX9_areOthers_50 (by decide) (fun c22 => ?_) (fun c22 => ?_)
          · replace h := (if_pos c22).symm.trans h
            refine lv_iload hx hb dX9_areOthers_55 (lv_at hl 5 rfl) ?_
            refine lv_iload hx hb dX9_areOthers_57 (lv_at hl 0 rfl) ?_
            obtain ⟨o23, ho23, h⟩ := Option.bind_eq_some_iff.mp h
            obtain ⟨v25, x24⟩ := o23
            replace h := un2_e h
            refine bq_callSi (As := [.int _]) S hK hD hA hP hS (cX9_bit_k ho23) hd_yX9_bit ml_X9_211 st_yX9_bit ⟨rfl, rfl⟩ ⟨by decide, by decide⟩ rfl hl.1 rfl (Nat.le_of_ble_eq_true rfl) ⟨Nat.zero_le _, Nat.zero_le _⟩ dX9_areOthers_59 (fun H locs hP hS => ?_)
            refine lv_ior hx hb dX9_areOthers_62 ?_
            refine lv_topi (fun v26 hv26 => ?_)
            replace h := bq_bv h hv26
            refine lv_istore (lv' := [(4, .int v26), (6, .int v18), (0, .ref (a 0)), (1, .ref (a 39)), (2, .int v6), (3, .int v7), (5, .int v9)]) hx hb dX9_areOthers_63 hl (by decide) rfl (fun ls hl => ?_)
            obtain ⟨v27, hv27, h⟩ := bq_b h
            refine lv_iinc (v := v27) (lv' := [(5, .int v27), (4, .int v26), (6, .int v18), (0, .ref (a 0)), (1, .ref (a 39)), (2, .int v6), (3, .int v7)]) hx hb dX9_areOthers_65 hl (k := 6) rfl (by rw [hv27]; rfl) (by decide) rfl (fun ls hl => ?_)
            refine lv_goto (tgt := 12) hx hb dX9_areOthers_68 (by decide) ?_
            cases h
            exact ih _ _ _ _ _ _ _ hw hP hS (lv_sub hl [3, 4, 5, 6, 1, 0] rfl) kx kr
          · replace h := (if_neg c22).symm.trans h
            refine lv_iconst (v := (0 : Int32)) hx hb dX9_areOthers_53 (by decide) ?_
            obtain ⟨e1, e2⟩ := Prod.mk.inj (hret _ h)
            exact hR _ _ _ _ _ (congrArg some e1) rfl (by rw [e2]; exact hP) hS dX9_areOthers_54
        · replace h := (if_pos c16).symm.trans h
          refine lv_iconst (v := (0 : Int32)) hx hb dX9_areOthers_34 (by decide) ?_
          obtain ⟨e1, e2⟩ := Prod.mk.inj (hret _ h)
          exact hR _ _ _ _ _ (congrArg some e1) rfl (by rw [e2]; exact hP) hS dX9_areOthers_35
  obtain ⟨e28, he28, h⟩ := Option.bind_eq_some_iff.mp h
  refine hl12 _ _ n _ _ _ e28 _ _ _ he28 hP hS (lv_sub hl [2, 3, 4, 5, 1, 0] rfl) (fun H locs ls v29 v30 x31 hz hP hS hl => ?_) (fun z hz => hret z (bq_ir h hz :))
  replace h := bq_il h hz
  replace h := un3_e h
  refine lv_iconst (v := (1 : Int32)) hx hb dX9_areOthers_71 (by decide) ?_
  obtain ⟨e1, e2⟩ := Prod.mk.inj (hret _ h)
  exact hR _ _ _ _ _ (congrArg some e1) rfl (by rw [e2]; exact hP) hS dX9_areOthers_72
set_option maxHeartbeats 4000000 in
set_option maxRecDepth 100000 in
theorem cX9_isLawfulJoined_k_0_39 {l : Launch} {D : va_G} {a : Nat → Nat} {k : Nat → ClassId} {n : Nat} {p2 : Int32} {p3 : Int32} {p4 : Int32} {x0 xz : bq_S} {rz : Int32} (h : fX9_isLawfulJoined n 39 16 p2 p3 p4 x0 = some (rz, xz)) : bq_M l D bq_cl (bq_ty k) (bq_wC a k) yX9_isLawfulJoined cX9_isLawfulJoined 7 (some .boolean) { frames := 3, cells := 0, slots := 0, locals := 67 } [.ref (a 0), .ref (a 39), .int p2, .int p3, .int p4] x0 (some rz) xz := by
  refine bq_ofW RX9 [(0, .ref (a 0)), (1, .ref (a 39)), (2, .int p2), (3, .int p3), (4, .int p4)] (by decide +kernel) rfl (Nat.le_of_ble_eq_true rfl) rfl (bq_adC a k) ?_
  intro p e s m below meth c A Q ls S hK hD hA hR hS hP hl
  have hx := S.1; have hb := S.2.1; have hml := S.2.2.1; have hown := S.2.2.2.1; have hts := S.2.2.2.2
  have hret : ∀ z, some z = some (rz, xz) → (rz, xz) = z := fun z h => (Option.some.inj h).symm
  unfold fX9_isLawfulJoined at h
  refine lv_aload_n hx hb dX9_isLawfulJoined_0 rfl (lv_at hl 0 rfl) ?_
  refine bq_get (q0 := 0) S hK hP fl_X9_10_X9_0 rfl rfl rfl dX9_isLawfulJoined_1 ?_
  refine bq_get (q0 := 1) S hK hP fl_X9_159_X4_2 rfl rfl rfl dX9_isLawfulJoined_4 ?_
  refine lv_topi (fun v1 hv1 => ?_)
  replace h := bq_bv h hv1
  refine lv_istore (lv' := [(5, .int v1), (0, .ref (a 0)), (1, .ref (a 39)), (2, .int p2), (3, .int p3), (4, .int p4)]) hx hb dX9_isLawfulJoined_7 hl (by decide) rfl (fun ls hl => ?_)
  refine lv_iconst (v := (0 : Int32)) hx hb dX9_isLawfulJoined_9 (by decide) ?_
  refine lv_istore (lv' := [(6, .int (0 : Int32)), (5, .int v1), (0, .ref (a 0)), (1, .ref (a 39)), (2, .int p2), (3, .int p3), (4, .int p4)]) hx hb dX9_isLawfulJoined_10 hl (by decide) rfl (fun ls hl => ?_)
  have hl12 : ∀ (v4 : Int32) (v5 : Int32) (v6 : Int32) (v7 : Int32) (kf : Nat) (v8 : Int32) (x9 : bq_S) (eo : Int32 × bq_S) (H : Heap) (locs : List Loc) (ls : Array Slot), wh kf (fX9_isLawfulJoined_b12 n 39 16 v4 v5 v6 v7) (v8, x9) = some eo → va_P D bq_cl (bq_wC a k x9) H → va_S A s.heap H locs → lv_has ls 7 [(0, .ref (a 0)), (1, .ref (a 39)), (2, .int v4), (3, .int v5), (4, .int v6), (5, .int v7), (6, .int v8)] → (∀ (H : Heap) (locs : List Loc) (ls : Array Slot) (v24 : Int32) (x25 : bq_S), eo = (v24, x25) → va_P D bq_cl (bq_wC a k x25) H → va_S A s.heap H locs → lv_has ls 7 [(0, .ref (a 0)), (1, .ref (a 39)), (2, .int v4), (3, .int v5), (4, .int v6), (5, .int v7)] → W p l e { frames := 3, cells := 0, slots := 0, locals := 67 } s m [.ref (a 0), .ref (a 39), .int p2, .int p3, .int p4].toArray below meth c H locs 0 0 Q (F0 m 61 ls [])) → W p l e { frames := 3, cells := 0, slots := 0, locals := 67 } s m [.ref (a 0), .ref (a 39), .int p2, .int p3, .int p4].toArray below meth c H locs 0 0 Q (F0 m 12 ls []) := by
    intro v4 v5 v6 v7 kf
    induction kf with
    | zero => intro v8 x9 eo H locs ls h; cases h
    | succ kf ih =>
      intro v8 x9 eo H locs ls h hP hS hl kx
      obtain ⟨out, h, hw⟩ := wh_s h
      unfold fX9_isLawfulJoined_b12 at h
      replace h := un2_e h
      refine lv_iload hx hb dX9_isLawfulJoined_12 (lv_at hl 6 rfl) ?_
      refine lv_iload hx hb dX9_isLawfulJoined_14 (lv_at hl 5 rfl) ?_
      refine lv_icmp_ge (tgt := 61) hx hb dX9_isLawfulJoined_16 (by decide) (fun c10 => ?_) (fun c10 => ?_)
      · replace h := (if_pos c10).symm.trans h
        cases h
        exact kx _ _ _ _ _ (Option.some.inj hw).symm hP hS (lv_sub hl [0, 1, 2, 3, 4, 5] rfl)
      · replace h := (if_neg c10).symm.trans h
        refine lv_aload_n hx hb dX9_isLawfulJoined_19 rfl (lv_at hl 0 rfl) ?_
        refine bq_get (q0 := 0) S hK hP fl_X9_75_X9_10 rfl rfl rfl dX9_isLawfulJoined_20 ?_
        refine lv_iload hx hb dX9_isLawfulJoined_23 (lv_at hl 6 rfl) ?_
        refine lv_aload_n hx hb dX9_isLawfulJoined_25 rfl (lv_at hl 0 rfl) ?_
        refine bq_get (q0 := 0) S hK hP fl_X9_10_X9_0 rfl rfl rfl dX9_isLawfulJoined_26 ?_
        refine bq_get (q0 := 1) S hK hP fl_X9_156_X4_7 rfl rfl rfl dX9_isLawfulJoined_29 ?_
        refine lv_iload hx hb dX9_isLawfulJoined_32 (lv_at hl 4 rfl) ?_
        refine lv_iconst (v := (1 : Int32)) hx hb dX9_isLawfulJoined_34 (by decide) ?_
        obtain ⟨o11, ho11, h⟩ := Option.bind_eq_some_iff.mp h
        obtain ⟨v13, x12⟩ := o11
        replace h := un2_e h
        refine bq_callSi (As := [.int _, .int _]) S hK hD hA hP hS (cX9_has_k ho11) hd_yX9_has ml_X9_208 st_yX9_has ⟨rfl, rfl⟩ ⟨by decide, by decide⟩ rfl hl.1 rfl (Nat.le_of_ble_eq_true rfl) ⟨Nat.zero_le _, Nat.zero_le _⟩ dX9_isLawfulJoined_35 (fun H locs hP hS => ?_)
        refine lv_if_eq (tgt := 51) hx hb dX9_isLawfulJoined_38 (by decide) (fun c14 => ?_) (fun c14 => ?_)
        · replace h := (if_pos c14).symm.trans h
          refine lv_iload hx hb dX9_isLawfulJoined_51 (lv_at hl 6 rfl) ?_
          obtain ⟨g15, h⟩ := bq_gd h
          refine va_iald (D := D) hx hb hK hP 6 0 rfl rfl g15 dX9_isLawfulJoined_53 ?_
          obtain ⟨g17, h⟩ := bq_gd h
          obtain ⟨x16, hx16, h⟩ := bq_b h
          refine bq_iast (x1 := x16) (q0 := 42) (t0 := 0) S hK hD hP hS rfl rfl g17 (by rw [hx16]; rfl) dX9_isLawfulJoined_54 (fun H locs hP hS => ?_)
          obtain ⟨v18, hv18, h⟩ := bq_b h
          refine lv_iinc (v := v18) (lv' := [(6, .int v18), (0, .ref (a 0)), (1, .ref (a 39)), (2, .int v4), (3, .int v5), (4, .int v6), (5, .int v7)]) hx hb dX9_isLawfulJoined_55 hl (k := 6) rfl (by rw [hv18]; rfl) (by decide) rfl (fun ls hl => ?_)
          refine lv_goto (tgt := 12) hx hb dX9_isLawfulJoined_58 (by decide) ?_
          cases h
          exact ih _ _ _ _ _ _ hw hP hS (lv_sub hl [1, 2, 3, 4, 5, 6, 0] rfl) kx
        · replace h := (if_neg c14).symm.trans h
          refine lv_iload hx hb dX9_isLawfulJoined_41 (lv_at hl 5 rfl) ?_
          refine lv_iconst (v := (1 : Int32)) hx hb dX9_isLawfulJoined_43 (by decide) ?_
          refine lv_isub hx hb dX9_isLawfulJoined_44 ?_
          refine lv_iload hx hb dX9_isLawfulJoined_45 (lv_at hl 6 rfl) ?_
          refine lv_isub hx hb dX9_isLawfulJoined_47 ?_
          refine lv_goto (tgt := 53) hx hb dX9_isLawfulJoined_48 (by decide) ?_
          obtain ⟨g19, h⟩ := bq_gd h
          refine va_iald (D := D) hx hb hK hP 6 0 rfl rfl g19 dX9_isLawfulJoined_53 ?_
          obtain ⟨g21, h⟩ := bq_gd h
          obtain ⟨x20, hx20, h⟩ := bq_b h
          refine bq_iast (x1 := x20) (q0 := 42) (t0 := 0) S hK hD hP hS rfl rfl g21 (by rw [hx20]; rfl) dX9_isLawfulJoined_54 (fun H locs hP hS => ?_)
          obtain ⟨v22, hv22, h⟩ := bq_b h
          refine lv_iinc (v := v22) (lv' := [(6, .int v22), (0, .ref (a 0)), (1, .ref (a 39)), (2, .int v4), (3, .int v5), (4, .int v6), (5, .int v7)]) hx hb dX9_isLawfulJoined_55 hl (k := 6) rfl (by rw [hv22]; rfl) (by decide) rfl (fun ls hl => ?_)
          refine lv_goto (tgt := 12) hx hb dX9_isLawfulJoined_58 (by decide) ?_
          cases h
          exact ih _ _ _ _ _ _ hw hP hS (lv_sub hl [1, 2, 3, 4, 5, 6, 0] rfl) kx
  obtain ⟨e23, he23, h⟩ := Option.bind_eq_some_iff.mp h
  refine hl12 _ _ _ _ n _ _ e23 _ _ _ he23 hP hS (lv_sub hl [2, 3, 4, 5, 6, 1, 0] rfl) (fun H locs ls v24 x25 hz hP hS hl => ?_)
  subst hz
  replace h := un2_e h
  refine lv_iconst (v := (0 : Int32)) hx hb dX9_isLawfulJoined_61 (by decide) ?_
  refine lv_istore (lv' := [(6, .int (0 : Int32)), (0, .ref (a 0)), (1, .ref (a 39)), (2, .int p2), (3, .int p3), (4, .int p4), (5, .int v1)]) hx hb dX9_isLawfulJoined_62 hl (by decide) rfl (fun ls hl => ?_)
  have hl64 : ∀ (v28 : Int32) (v29 : Int32) (v30 : Int32) (v31 : Int32) (kf : Nat) (v32 : Int32) (x33 : bq_S) (eo : Int32 × bq_S) (H : Heap) (locs : List Loc) (ls : Array Slot), wh kf (fX9_isLawfulJoined_b64 n 39 16 v28 v29 v30 v31) (v32, x33) = some eo → va_P D bq_cl (bq_wC a k x33) H → va_S A s.heap H locs → lv_has ls 7 [(0, .ref (a 0)), (1, .ref (a 39)), (2, .int v28), (3, .int v29), (4, .int v30), (5, .int v31), (6, .int v32)] → (∀ (H : Heap) (locs : List Loc) (ls : Array Slot) (v51 : Int32) (x52 : bq_S), eo = (v51, x52) → va_P D bq_cl (bq_wC a k x52) H → va_S A s.heap H locs → lv_has ls 7 [(0, .ref (a 0)), (3, .int v29), (5, .int v31)] → W p l e { frames := 3, cells := 0, slots := 0, locals := 67 } s m [.ref (a 0), .ref (a 39), .int p2, .int p3, .int p4].toArray below meth c H locs 0 0 Q (F0 m 111 ls [])) → W p l e { frames := 3, cells := 0, slots := 0, locals := 67 } s m [.ref (a 0), .ref (a 39), .int p2, .int p3, .int p4].toArray below meth c H locs 0 0 Q (F0 m 64 ls []) := by
    intro v28 v29 v30 v31 kf
    induction kf with
    | zero => intro v32 x33 eo H locs ls h; cases h
    | succ kf ih =>
      intro v32 x33 eo H locs ls h hP hS hl kx
      obtain ⟨out, h, hw⟩ := wh_s h
      unfold fX9_isLawfulJoined_b64 at h
      replace h := un2_e h
      have hj101 : ∀ (v39 : Int32) (v40 : Int32) (v43 : Int32) (v44 : Int32) (x45 : bq_S) (H : Heap) (locs : List Loc) (ls : Array Slot), fX9_isLawfulJoined_j101 n 39 16 v28 v29 v30 v31 v39 v40 39 16 v43 v44 x45 = some out → va_P D bq_cl (bq_wC a k x45) H → va_S A s.heap H locs → lv_has ls 7 [(0, .ref (a 0)), (1, .ref (a 39)), (2, .int v28), (3, .int v29), (4, .int v30), (5, .int v31), (6, .int v39)] → W p l e { frames := 3, cells := 0, slots := 0, locals := 67 } s m [.ref (a 0), .ref (a 39), .int p2, .int p3, .int p4].toArray below meth c H locs 0 0 Q (F0 m 101 ls [.int v44, .int v43, .ref (a 39), .int v40, .ref (a 42)]) := by
        intro v39 v40 v43 v44 x45 H locs ls h hP hS hl
        unfold fX9_isLawfulJoined_j101 at h
        refine lv_iadd hx hb dX9_isLawfulJoined_101 ?_
        obtain ⟨g46, h⟩ := bq_gd h
        refine va_lald (D := D) hx hb hK hP 39 1 rfl rfl g46 dX9_isLawfulJoined_102 ?_
        refine lv_l2i hx hb dX9_isLawfulJoined_103 rfl ?_
        obtain ⟨g48, h⟩ := bq_gd h
        obtain ⟨x47, hx47, h⟩ := bq_b h
        refine bq_iast (x1 := x47) (q0 := 42) (t0 := 0) S hK hD hP hS rfl rfl g48 (by rw [hx47]; rfl) dX9_isLawfulJoined_104 (fun H locs hP hS => ?_)
        obtain ⟨v49, hv49, h⟩ := bq_b h
        refine lv_iinc (v := v49) (lv' := [(6, .int v49), (0, .ref (a 0)), (1, .ref (a 39)), (2, .int v28), (3, .int v29), (4, .int v30), (5, .int v31)]) hx hb dX9_isLawfulJoined_105 hl (k := 6) rfl (by rw [hv49]; rfl) (by decide) rfl (fun ls hl => ?_)
        refine lv_goto (tgt := 64) hx hb dX9_isLawfulJoined_108 (by decide) ?_
        cases h
        exact ih _ _ _ _ _ _ hw hP hS (lv_sub hl [1, 2, 3, 4, 5, 6, 0] rfl) kx
      refine lv_iload hx hb dX9_isLawfulJoined_64 (lv_at hl 6 rfl) ?_
      refine lv_iload_n hx hb dX9_isLawfulJoined_66 rfl (lv_at hl 3 rfl) ?_
      refine lv_icmp_ge (tgt := 111) hx hb dX9_isLawfulJoined_67 (by decide) (fun c34 => ?_) (fun c34 => ?_)
      · replace h := (if_pos c34).symm.trans h
        cases h
        exact kx _ _ _ _ _ (Option.some.inj hw).symm hP hS (lv_sub hl [0, 3, 5] rfl)
      · replace h := (if_neg c34).symm.trans h
        refine lv_aload_n hx hb dX9_isLawfulJoined_70 rfl (lv_at hl 0 rfl) ?_
        refine bq_get (q0 := 0) S hK hP fl_X9_75_X9_10 rfl rfl rfl dX9_isLawfulJoined_71 ?_
        refine lv_iload hx hb dX9_isLawfulJoined_74 (lv_at hl 5 rfl) ?_
        refine lv_iload hx hb dX9_isLawfulJoined_76 (lv_at hl 6 rfl) ?_
        refine lv_iadd hx hb dX9_isLawfulJoined_78 ?_
        refine lv_aload_n hx hb dX9_isLawfulJoined_79 rfl (lv_at hl 1 rfl) ?_
        refine lv_iload_n hx hb dX9_isLawfulJoined_80 rfl (lv_at hl 2 rfl) ?_
        refine lv_iload hx hb dX9_isLawfulJoined_81 (lv_at hl 4 rfl) ?_
        refine lv_iconst (v := (0 : Int32)) hx hb dX9_isLawfulJoined_83 (by decide) ?_
        obtain ⟨o35, ho35, h⟩ := Option.bind_eq_some_iff.mp h
        obtain ⟨v37, x36⟩ := o35
        replace h := un2_e h
        refine bq_callSi (As := [.int _, .int _]) S hK hD hA hP hS (cX9_has_k ho35) hd_yX9_has ml_X9_208 st_yX9_has ⟨rfl, rfl⟩ ⟨by decide, by decide⟩ rfl hl.1 rfl (Nat.le_of_ble_eq_true rfl) ⟨Nat.zero_le _, Nat.zero_le _⟩ dX9_isLawfulJoined_84 (fun H locs hP hS => ?_)
        refine lv_if_eq (tgt := 99) hx hb dX9_isLawfulJoined_87 (by decide) (fun c38 => ?_) (fun c38 => ?_)
        · replace h := (if_pos c38).symm.trans h
          refine lv_iload hx hb dX9_isLawfulJoined_99 (lv_at hl 6 rfl) ?_
          exact hj101 _ _ _ _ _ _ _ _ h hP hS (lv_sub hl [0, 1, 2, 3, 4, 5, 6] rfl)
        · replace h := (if_neg c38).symm.trans h
          refine lv_iload_n hx hb dX9_isLawfulJoined_90 rfl (lv_at hl 3 rfl) ?_
          refine lv_iconst (v := (1 : Int32)) hx hb dX9_isLawfulJoined_91 (by decide) ?_
          refine lv_isub hx hb dX9_isLawfulJoined_92 ?_
          refine lv_iload hx hb dX9_isLawfulJoined_93 (lv_at hl 6 rfl) ?_
          refine lv_isub hx hb dX9_isLawfulJoined_95 ?_
          refine lv_goto (tgt := 101) hx hb dX9_isLawfulJoined_96 (by decide) ?_
          exact hj101 _ _ _ _ _ _ _ _ h hP hS (lv_sub hl [0, 1, 2, 3, 4, 5, 6] rfl)
  obtain ⟨e50, he50, h⟩ := Option.bind_eq_some_iff.mp h
  refine hl64 _ _ _ _ n _ _ e50 _ _ _ he50 hP hS (lv_sub hl [1, 2, 3, 4, 5, 6, 0] rfl) (fun H locs ls v51 x52 hz hP hS hl => ?_)
  subst hz
  replace h := un2_e h
  refine lv_aload_n hx hb dX9_isLawfulJoined_111 rfl (lv_at hl 0 rfl) ?_
  refine bq_get (q0 := 0) S hK hP fl_X9_10_X9_0 rfl rfl rfl dX9_isLawfulJoined_112 ?_
  refine lv_aload_n hx hb dX9_isLawfulJoined_115 rfl (lv_at hl 0 rfl) ?_
  refine bq_get (q0 := 0) S hK hP fl_X9_75_X9_10 rfl rfl rfl dX9_isLawfulJoined_116 ?_
  refine lv_iload hx hb dX9_isLawfulJoined_119 (lv_at hl 2 rfl) ?_
  refine lv_iload_n hx hb dX9_isLawfulJoined_121 rfl (lv_at hl 1 rfl) ?_
  refine lv_iadd hx hb dX9_isLawfulJoined_122 ?_
  obtain ⟨o53, ho53, h⟩ := Option.bind_eq_some_iff.mp h
  obtain ⟨v55, x54⟩ := o53
  replace h := un2_e h
  refine bq_callVi (q0 := 1) (As := [.ref (a 42), .int _]) S hK hD hA hP hS (cX4_isLawful_k_1_42 ho53) hd_yX4_isLawful ml_X9_284 in_yX4_isLawful (hts _ sl_X4_X4_yX4_isLawful) ⟨rfl, rfl⟩ ⟨by decide, by decide⟩ rfl rfl rfl hl.1 rfl (Nat.le_of_ble_eq_true rfl) ⟨Nat.zero_le _, Nat.zero_le _⟩ dX9_isLawfulJoined_123 (fun H locs hP hS => ?_)
  obtain ⟨g56, h⟩ := bq_gp h
  obtain ⟨e1, e2⟩ := Prod.mk.inj (hret _ h)
  exact hR _ _ _ _ _ (congrArg some e1) (bq_z g56) (by rw [e2]; exact hP) hS dX9_isLawfulJoined_126
set_option maxHeartbeats 4000000 in
set_option maxRecDepth 100000 in
theorem cX9_joined_k_0_s2 {l : Launch} {D : va_G} {a : Nat → Nat} {k : Nat → ClassId} {n : Nat} {p1 : Int32} {p2 : Int32} {p3 : Int32} {p4 : Int32} {x0 xz : bq_S} {rz : Int32} (hkp1 : p1.toNatClampNeg = 2) (h : fX9_joined n p1 p2 p3 p4 x0 = some (rz, xz)) : bq_M l D bq_cl (bq_ty k) (bq_wC a k) yX9_joined cX9_joined 8 (some .int) { frames := 4, cells := 0, slots := 0, locals := 93 } [.ref (a 0), .int p1, .int p2, .int p3, .int p4] x0 (some rz) xz := by
  refine bq_ofW RX9 [(0, .ref (a 0)), (1, .int p1), (2, .int p2), (3, .int p3), (4, .int p4)] (by decide +kernel) rfl (Nat.le_of_ble_eq_true rfl) rfl (bq_adC a k) ?_
  intro p e s m below meth c A Q ls S hK hD hA hR hS hP hl
  have hx := S.1; have hb := S.2.1; have hml := S.2.2.1; have hown := S.2.2.2.1; have hts := S.2.2.2.2
  have hret : ∀ z, some z = some (rz, xz) → (rz, xz) = z := fun z h => (Option.some.inj h).symm
  unfold fX9_joined at h
  refine lv_iload hx hb dX9_joined_0 (lv_at hl 4 rfl) ?_
  refine lv_iconst (v := (1 : Int32)) hx hb dX9_joined_2 (by decide) ?_
  refine lv_icmp_lt (tgt := 13) hx hb dX9_joined_3 (by decide) (fun c1 => ?_) (fun c1 => ?_)
  · replace h := (if_pos c1).symm.trans h
    refine lv_iconst (v := (-1 : Int32)) hx hb dX9_joined_13 (by decide) ?_
    obtain ⟨e1, e2⟩ := Prod.mk.inj (hret _ h)
    exact hR _ _ _ _ _ (congrArg some e1) rfl (by rw [e2]; exact hP) hS dX9_joined_14
  · replace h := (if_neg c1).symm.trans h
    refine lv_iload hx hb dX9_joined_6 (lv_at hl 4 rfl) ?_
    refine lv_bipush (v := (8 : Int32)) hx hb dX9_joined_8 (by decide) ?_
    refine lv_icmp_le (tgt := 15) hx hb dX9_joined_10 (by decide) (fun c2 => ?_) (fun c2 => ?_)
    · replace h := (if_pos c2).symm.trans h
      refine lv_aload_n hx hb dX9_joined_15 rfl (lv_at hl 0 rfl) ?_
      refine lv_iload_n hx hb dX9_joined_16 rfl (lv_at hl 1 rfl) ?_
      refine lv_iload_n hx hb dX9_joined_17 rfl (lv_at hl 2 rfl) ?_
      refine lv_iload_n hx hb dX9_joined_18 rfl (lv_at hl 3 rfl) ?_
      refine lv_iload hx hb dX9_joined_19 (lv_at hl 4 rfl) ?_
      obtain ⟨o3, ho3, h⟩ := Option.bind_eq_some_iff.mp h
      obtain ⟨v5, x4⟩ := o3
      replace h := un2_e h
      refine bq_callVi (q0 := 0) (As := [.int _, .int _, .int _, .int _]) S hK hD hA hP hS (cX9_refusalOf_k_0 ho3) hd_yX9_refusalOf ml_X9_233 in_yX9_refusalOf (hts _ sl_X9_X9_yX9_refusalOf) ⟨rfl, rfl⟩ ⟨by decide, by decide⟩ rfl rfl rfl hl.1 rfl (Nat.le_of_ble_eq_true rfl) ⟨Nat.zero_le _, Nat.zero_le _⟩ dX9_joined_21 (fun H locs hP hS => ?_)
      refine lv_istore (lv' := [(5, .int v5), (0, .ref (a 0)), (1, .int p1), (2, .int p2), (3, .int p3), (4, .int p4)]) hx hb dX9_joined_24 hl (by decide) rfl (fun ls hl => ?_)
      refine lv_iload hx hb dX9_joined_26 (lv_at hl 0 rfl) ?_
      refine lv_if_eq (tgt := 34) hx hb dX9_joined_28 (by decide) (fun c6 => ?_) (fun c6 => ?_)
      · replace h := (if_pos c6).symm.trans h
        refine lv_aload_n hx hb dX9_joined_34 rfl (lv_at hl 1 rfl) ?_
        refine bq_get (q0 := 0) S hK hP fl_X9_70_X9_9 rfl rfl rfl dX9_joined_35 ?_
        refine lv_iload_n hx hb dX9_joined_38 rfl (lv_at hl 2 rfl) ?_
        obtain ⟨g7, h⟩ := bq_gd h
        refine va_aldq (D := D) hx hb hK hP 33 3 rfl rfl g7 dX9_joined_39 ?_
        rw [hkp1]
        try rw [hkp1] at h
        refine W.eq (g2 := F0 m 40 ls [.ref (a 38)]) rfl ?_
        refine bq_get (q0 := 38) S hK hP fl_X9_237_X6_0 rfl rfl rfl dX9_joined_40 ?_
        refine lv_astore (lv' := [(6, .ref (a 39)), (5, .int v5), (0, .ref (a 0)), (1, .int p1), (2, .int p2), (3, .int p3), (4, .int p4)]) hx hb dX9_joined_43 hl (by decide) rfl (fun ls hl => ?_)
        refine lv_aload_n hx hb dX9_joined_45 rfl (lv_at hl 2 rfl) ?_
        refine lv_aload hx hb dX9_joined_46 (lv_at hl 0 rfl) ?_
        refine lv_iload_n hx hb dX9_joined_48 rfl (lv_at hl 5 rfl) ?_
        refine lv_iload hx hb dX9_joined_49 (lv_at hl 6 rfl) ?_
        obtain ⟨o8, ho8, h⟩ := Option.bind_eq_some_iff.mp h
        obtain ⟨v10, x9⟩ := o8
        replace h := un2_e h
        refine bq_callVi (q0 := 0) (As := [.ref (a 39), .int _, .int _]) S hK hD hA hP hS (cX9_areOthers_k_0_39 ho8) hd_yX9_areOthers ml_X9_244 in_yX9_areOthers (hts _ sl_X9_X9_yX9_areOthers) ⟨rfl, rfl⟩ ⟨by decide, by decide⟩ rfl rfl rfl hl.1 rfl (Nat.le_of_ble_eq_true rfl) ⟨Nat.zero_le _, Nat.zero_le _⟩ dX9_joined_51 (fun H locs hP hS => ?_)
        refine lv_if_ne (tgt := 60) hx hb dX9_joined_54 (by decide) (fun c11 => ?_) (fun c11 => ?_)
        · replace h := (if_neg c11).symm.trans h
          refine lv_iconst (v := (0 : Int32)) hx hb dX9_joined_60 (by decide) ?_
          refine lv_istore (lv' := [(7, .int (0 : Int32)), (6, .ref (a 39)), (5, .int v5), (0, .ref (a 0)), (1, .int p1), (2, .int p2), (3, .int p3), (4, .int p4)]) hx hb dX9_joined_61 hl (by decide) rfl (fun ls hl => ?_)
          have hl63 : ∀ (v12 : Int32) (v13 : Int32) (kf : Nat) (v15 : Int32) (x16 : bq_S) (eo : (Int32 × bq_S) ⊕ (Int32 × bq_S)) (H : Heap) (locs : List Loc) (ls : Array Slot), wh kf (fX9_joined_b63 n v12 v13 39) (v15, x16) = some eo → va_P D bq_cl (bq_wC a k x16) H → va_S A s.heap H locs → lv_has ls 8 [(0, .ref (a 0)), (3, .int v12), (4, .int v13), (6, .ref (a 39)), (7, .int v15)] → (∀ (H : Heap) (locs : List Loc) (ls : Array Slot) (v24 : Int32) (x25 : bq_S), eo = .inl (v24, x25) → va_P D bq_cl (bq_wC a k x25) H → va_S A s.heap H locs → lv_has ls 8 [] → W p l e { frames := 4, cells := 0, slots := 0, locals := 93 } s m [.ref (a 0), .int p1, .int p2, .int p3, .int p4].toArray below meth c H locs 0 0 Q (F0 m 92 ls [])) → (∀ z, eo = .inr z → (rz, xz) = z) → W p l e { frames := 4, cells := 0, slots := 0, locals := 93 } s m [.ref (a 0), .int p1, .int p2, .int p3, .int p4].toArray below meth c H locs 0 0 Q (F0 m 63 ls []) := by
            intro v12 v13 kf
            induction kf with
            | zero => intro v15 x16 eo H locs ls h; cases h
            | succ kf ih =>
              intro v15 x16 eo H locs ls h hP hS hl kx kr
              obtain ⟨out, h, hw⟩ := wh_s h
              have hret : ∀ z, (some (.inr (.inr z)) : Option ((Int32 × bq_S) ⊕ ((Int32 × bq_S) ⊕ (Int32 × bq_S)))) = some out → (rz, xz) = z := fun z h => kr z (by cases h; exact (Option.some.inj hw).symm)
              unfold fX9_joined_b63 at h
              replace h := un2_e h
              refine lv_iload hx hb dX9_joined_63 (lv_at hl 4 rfl) ?_
              refine lv_iconst (v := (4 : Int32)) hx hb dX9_joined_65 (by decide) ?_
              refine lv_icmp_ge (tgt := 92) hx hb dX9_joined_66 (by decide) (fun c17 => ?_) (fun c17 => ?_)
              · replace h := (if_pos c17).symm.trans h
                cases h
                exact kx _ _ _ _ _ (Option.some.inj hw).symm hP hS (lv_sub hl [] rfl)
              · replace h := (if_neg c17).symm.trans h
                refine lv_aload_n hx hb dX9_joined_69 rfl (lv_at hl 0 rfl) ?_
                refine lv_aload hx hb dX9_joined_70 (lv_at hl 3 rfl) ?_
                refine lv_iload_n hx hb dX9_joined_72 rfl (lv_at hl 1 rfl) ?_
                refine lv_iload hx hb dX9_joined_73 (lv_at hl 2 rfl) ?_
                refine lv_iload hx hb dX9_joined_75 (lv_at hl 4 rfl) ?_
                obtain ⟨o18, ho18, h⟩ := Option.bind_eq_some_iff.mp h
                obtain ⟨v20, x19⟩ := o18
                replace h := un2_e h
                refine bq_callVi (q0 := 0) (As := [.ref (a 39), .int _, .int _, .int _]) S hK hD hA hP hS (cX9_isLawfulJoined_k_0_39 ho18) hd_yX9_isLawfulJoined ml_X9_248 in_yX9_isLawfulJoined (hts _ sl_X9_X9_yX9_isLawfulJoined) ⟨rfl, rfl⟩ ⟨by decide, by decide⟩ rfl rfl rfl hl.1 rfl (Nat.le_of_ble_eq_true rfl) ⟨Nat.zero_le _, Nat.zero_le _⟩ dX9_joined_77 (fun H locs hP hS => ?_)
                refine lv_if_eq (tgt := 86) hx hb dX9_joined_80 (by decide) (fun c21 => ?_) (fun c21 => ?_)
                · replace h := (if_pos c21).symm.trans h
                  obtain ⟨v22, hv22, h⟩ := bq_b h
                  refine lv_iinc (v := v22) (lv' := [(7, .int v22), (0, .ref (a 0)), (3, .int v12), (4, .int v13), (6, .ref (a 39))]) hx hb dX9_joined_86 hl (k := 4) rfl (by rw [hv22]; rfl) (by decide) rfl (fun ls hl => ?_)
                  refine lv_goto (tgt := 63) hx hb dX9_joined_89 (by decide) ?_
                  cases h
                  exact ih _ _ _ _ _ _ hw hP hS (lv_sub hl [1, 2, 3, 4, 0] rfl) kx kr
                · replace h := (if_neg c21).symm.trans h
                  refine lv_iload hx hb dX9_joined_83 (lv_at hl 4 rfl) ?_
                  obtain ⟨e1, e2⟩ := Prod.mk.inj (hret _ h)
                  exact hR _ _ _ _ _ (congrArg some e1) rfl (by rw [e2]; exact hP) hS dX9_joined_85
          obtain ⟨e23, he23, h⟩ := Option.bind_eq_some_iff.mp h
          refine hl63 _ _ n _ _ e23 _ _ _ he23 hP hS (lv_sub hl [3, 6, 7, 1, 0] rfl) (fun H locs ls v24 x25 hz hP hS hl => ?_) (fun z hz => hret z (bq_ir h hz :))
          replace h := bq_il h hz
          replace h := un2_e h
          refine lv_bipush (v := (-4 : Int32)) hx hb dX9_joined_92 (by decide) ?_
          obtain ⟨e1, e2⟩ := Prod.mk.inj (hret _ h)
          exact hR _ _ _ _ _ (congrArg some e1) rfl (by rw [e2]; exact hP) hS dX9_joined_94
        · replace h := (if_pos c11).symm.trans h
          refine lv_bipush (v := (-2 : Int32)) hx hb dX9_joined_57 (by decide) ?_
          obtain ⟨e1, e2⟩ := Prod.mk.inj (hret _ h)
          exact hR _ _ _ _ _ (congrArg some e1) rfl (by rw [e2]; exact hP) hS dX9_joined_59
      · replace h := (if_neg c6).symm.trans h
        refine lv_iload hx hb dX9_joined_31 (lv_at hl 0 rfl) ?_
        obtain ⟨e1, e2⟩ := Prod.mk.inj (hret _ h)
        exact hR _ _ _ _ _ (congrArg some e1) rfl (by rw [e2]; exact hP) hS dX9_joined_33
    · replace h := (if_neg c2).symm.trans h
      refine lv_iconst (v := (-1 : Int32)) hx hb dX9_joined_13 (by decide) ?_
      obtain ⟨e1, e2⟩ := Prod.mk.inj (hret _ h)
      exact hR _ _ _ _ _ (congrArg some e1) rfl (by rw [e2]; exact hP) hS dX9_joined_14
set_option maxHeartbeats 4000000 in
set_option maxRecDepth 100000 in
theorem cX9_areOthers_k_0_41 {l : Launch} {D : va_G} {a : Nat → Nat} {k : Nat → ClassId} {n : Nat} {p2 : Int32} {p3 : Int32} {x0 xz : bq_S} {rz : Int32} (h : fX9_areOthers n 41 16 p2 p3 x0 = some (rz, xz)) : bq_M l D bq_cl (bq_ty k) (bq_wC a k) yX9_areOthers cX9_areOthers 7 (some .boolean) { frames := 3, cells := 0, slots := 0, locals := 64 } [.ref (a 0), .ref (a 41), .int p2, .int p3] x0 (some rz) xz := by
  refine bq_ofW RX9 [(0, .ref (a 0)), (1, .ref (a 41)), (2, .int p2), (3, .int p3)] (by decide +kernel) rfl (Nat.le_of_ble_eq_true rfl) rfl (bq_adC a k) ?_
  intro p e s m below meth c A Q ls S hK hD hA hR hS hP hl
  have hx := S.1; have hb := S.2.1; have hml := S.2.2.1; have hown := S.2.2.2.1; have hts := S.2.2.2.2
  have hret : ∀ z, some z = some (rz, xz) → (rz, xz) = z := fun z h => (Option.some.inj h).symm
  unfold fX9_areOthers at h
  refine lv_aload_n hx hb dX9_areOthers_0 rfl (lv_at hl 0 rfl) ?_
  refine bq_get (q0 := 0) S hK hP fl_X9_10_X9_0 rfl rfl rfl dX9_areOthers_1 ?_
  obtain ⟨o1, ho1, h⟩ := Option.bind_eq_some_iff.mp h
  obtain ⟨v3, x2⟩ := o1
  replace h := un2_e h
  refine bq_callVi (q0 := 1) (As := []) S hK hD hA hP hS (cX4_hallSet_k_1 ho1) hd_yX4_hallSet ml_X9_175 in_yX4_hallSet (hts _ sl_X4_X4_yX4_hallSet) ⟨rfl, rfl⟩ ⟨by decide, by decide⟩ rfl rfl rfl hl.1 rfl (Nat.le_of_ble_eq_true rfl) ⟨Nat.zero_le _, Nat.zero_le _⟩ dX9_areOthers_4 (fun H locs hP hS => ?_)
  refine lv_istore (lv' := [(4, .int v3), (0, .ref (a 0)), (1, .ref (a 41)), (2, .int p2), (3, .int p3)]) hx hb dX9_areOthers_7 hl (by decide) rfl (fun ls hl => ?_)
  refine lv_iload_n hx hb dX9_areOthers_9 rfl (lv_at hl 3 rfl) ?_
  refine lv_istore (lv' := [(5, .int p2), (4, .int v3), (0, .ref (a 0)), (1, .ref (a 41)), (2, .int p2), (3, .int p3)]) hx hb dX9_areOthers_10 hl (by decide) rfl (fun ls hl => ?_)
  have hl12 : ∀ (v6 : Int32) (v7 : Int32) (kf : Nat) (v8 : Int32) (v9 : Int32) (x10 : bq_S) (eo : (Int32 × Int32 × bq_S) ⊕ (Int32 × bq_S)) (H : Heap) (locs : List Loc) (ls : Array Slot), wh kf (fX9_areOthers_b12 n 41 16 v6 v7) (v8, v9, x10) = some eo → va_P D bq_cl (bq_wC a k x10) H → va_S A s.heap H locs → lv_has ls 7 [(0, .ref (a 0)), (1, .ref (a 41)), (2, .int v6), (3, .int v7), (4, .int v8), (5, .int v9)] → (∀ (H : Heap) (locs : List Loc) (ls : Array Slot) (v29 : Int32) (v30 : Int32) (x31 : bq_S), eo = .inl (v29, v30, x31) → va_P D bq_cl (bq_wC a k x31) H → va_S A s.heap H locs → lv_has ls 7 [] → W p l e { frames := 3, cells := 0, slots := 0, locals := 64 } s m [.ref (a 0), .ref (a 41), .int p2, .int p3].toArray below meth c H locs 0 0 Q (F0 m 71 ls [])) → (∀ z, eo = .inr z → (rz, xz) = z) → W p l e { frames := 3, cells := 0, slots := 0, locals := 64 } s m [.ref (a 0), .ref (a 41), .int p2, .int p3].toArray below meth c H locs 0 0 Q (F0 m 12 ls []) := by
    intro v6 v7 kf
    induction kf with
    | zero => intro v8 v9 x10 eo H locs ls h; cases h
    | succ kf ih =>
      intro v8 v9 x10 eo H locs ls h hP hS hl kx kr
      obtain ⟨out, h, hw⟩ := wh_s h
      have hret : ∀ z, (some (.inr (.inr z)) : Option ((Int32 × Int32 × bq_S) ⊕ ((Int32 × Int32 × bq_S) ⊕ (Int32 × bq_S)))) = some out → (rz, xz) = z := fun z h => kr z (by cases h; exact (Option.some.inj hw).symm)
      unfold fX9_areOthers_b12 at h
      replace h := un3_e h
      refine lv_iload hx hb dX9_areOthers_12 (lv_at hl 5 rfl) ?_
      refine lv_iload_n hx hb dX9_areOthers_14 rfl (lv_at hl 2 rfl) ?_
      refine lv_iload_n hx hb dX9_areOthers_15 rfl (lv_at hl 3 rfl) ?_
      refine lv_iadd hx hb dX9_areOthers_16 ?_
      refine lv_icmp_ge (tgt := 71) hx hb dX9_areOthers_17 (by decide) (fun c11 => ?_) (fun c11 => ?_)
      · replace h := (if_pos c11).symm.trans h
        cases h
        exact kx _ _ _ _ _ _ (Option.some.inj hw).symm hP hS (lv_sub hl [] rfl)
      · replace h := (if_neg c11).symm.trans h
        refine lv_aload_n hx hb dX9_areOthers_20 rfl (lv_at hl 0 rfl) ?_
        refine bq_get (q0 := 0) S hK hP fl_X9_10_X9_0 rfl rfl rfl dX9_areOthers_21 ?_
        refine lv_aload_n hx hb dX9_areOthers_24 rfl (lv_at hl 1 rfl) ?_
        refine lv_iload hx hb dX9_areOthers_25 (lv_at hl 5 rfl) ?_
        obtain ⟨g12, h⟩ := bq_gd h
        refine va_lald (D := D) hx hb hK hP 41 1 rfl rfl g12 dX9_areOthers_27 ?_
        obtain ⟨o13, ho13, h⟩ := Option.bind_eq_some_iff.mp h
        obtain ⟨v15, x14⟩ := o13
        replace h := un2_e h
        refine bq_callVi (q0 := 1) (As := [.long _]) S hK hD hA hP hS (cX4_isBook_k_1 ho13) hd_yX4_isBook ml_X9_106 in_yX4_isBook (hts _ sl_X4_X4_yX4_isBook) ⟨rfl, rfl⟩ ⟨by decide, by decide⟩ rfl rfl rfl hl.1 rfl (Nat.le_of_ble_eq_true rfl) ⟨Nat.zero_le _, Nat.zero_le _⟩ dX9_areOthers_28 (fun H locs hP hS => ?_)
        refine lv_if_ne (tgt := 36) hx hb dX9_areOthers_31 (by decide) (fun c16 => ?_) (fun c16 => ?_)
        · replace h := (if_neg c16).symm.trans h
          refine lv_aload_n hx hb dX9_areOthers_36 rfl (lv_at hl 1 rfl) ?_
          refine lv_iload hx hb dX9_areOthers_37 (lv_at hl 5 rfl) ?_
          obtain ⟨g17, h⟩ := bq_gd h
          refine va_lald (D := D) hx hb hK hP 41 1 rfl rfl g17 dX9_areOthers_39 ?_
          refine lv_l2i hx hb dX9_areOthers_40 rfl ?_
          refine lv_topi (fun v18 hv18 => ?_)
          replace h := bq_bv h hv18
          refine lv_istore (lv' := [(6, .int v18), (0, .ref (a 0)), (1, .ref (a 41)), (2, .int v6), (3, .int v7), (4, .int v8), (5, .int v9)]) hx hb dX9_areOthers_41 hl (by decide) rfl (fun ls hl => ?_)
          refine lv_iload hx hb dX9_areOthers_43 (lv_at hl 5 rfl) ?_
          refine lv_iload hx hb dX9_areOthers_45 (lv_at hl 0 rfl) ?_
          obtain ⟨o19, ho19, h⟩ := Option.bind_eq_some_iff.mp h
          obtain ⟨v21, x20⟩ := o19
          replace h := un2_e h
          refine bq_callSi (As := [.int _, .int _]) S hK hD hA hP hS (cX9_has_k ho19) hd_yX9_has ml_X9_208 st_yX9_has ⟨rfl, rfl⟩ ⟨by decide, by decide⟩ rfl hl.1 rfl (Nat.le_of_ble_eq_true rfl) ⟨Nat.zero_le _, Nat.zero_le _⟩ dX9_areOthers_47 (fun H locs hP hS => ?_)
          refine lv_if_eq (tgt := 55) hx hb dX9_areOthers_50 (by decide) (fun c22 => ?_) (fun c22 => ?_)
          · replace h := (if_pos c22).symm.trans h
            refine lv_iload hx hb dX9_areOthers_55 (lv_at hl 5 rfl) ?_
            refine lv_iload hx hb dX9_areOthers_57 (lv_at hl 0 rfl) ?_
            obtain ⟨o23, ho23, h⟩ := Option.bind_eq_some_iff.mp h
            obtain ⟨v25, x24⟩ := o23
            replace h := un2_e h
            refine bq_callSi (As := [.int _]) S hK hD hA hP hS (cX9_bit_k ho23) hd_yX9_bit ml_X9_211 st_yX9_bit ⟨rfl, rfl⟩ ⟨by decide, by decide⟩ rfl hl.1 rfl (Nat.le_of_ble_eq_true rfl) ⟨Nat.zero_le _, Nat.zero_le _⟩ dX9_areOthers_59 (fun H locs hP hS => ?_)
            refine lv_ior hx hb dX9_areOthers_62 ?_
            refine lv_topi (fun v26 hv26 => ?_)
            replace h := bq_bv h hv26
            refine lv_istore (lv' := [(4, .int v26), (6, .int v18), (0, .ref (a 0)), (1, .ref (a 41)), (2, .int v6), (3, .int v7), (5, .int v9)]) hx hb dX9_areOthers_63 hl (by decide) rfl (fun ls hl => ?_)
            obtain ⟨v27, hv27, h⟩ := bq_b h
            refine lv_iinc (v := v27) (lv' := [(5, .int v27), (4, .int v26), (6, .int v18), (0, .ref (a 0)), (1, .ref (a 41)), (2, .int v6), (3, .int v7)]) hx hb dX9_areOthers_65 hl (k := 6) rfl (by rw [hv27]; rfl) (by decide) rfl (fun ls hl => ?_)
            refine lv_goto (tgt := 12) hx hb dX9_areOthers_68 (by decide) ?_
            cases h
            exact ih _ _ _ _ _ _ _ hw hP hS (lv_sub hl [3, 4, 5, 6, 1, 0] rfl) kx kr
          · replace h := (if_neg c22).symm.trans h
            refine lv_iconst (v := (0 : Int32)) hx hb dX9_areOthers_53 (by decide) ?_
            obtain ⟨e1, e2⟩ := Prod.mk.inj (hret _ h)
            exact hR _ _ _ _ _ (congrArg some e1) rfl (by rw [e2]; exact hP) hS dX9_areOthers_54
        · replace h := (if_pos c16).symm.trans h
          refine lv_iconst (v := (0 : Int32)) hx hb dX9_areOthers_34 (by decide) ?_
          obtain ⟨e1, e2⟩ := Prod.mk.inj (hret _ h)
          exact hR _ _ _ _ _ (congrArg some e1) rfl (by rw [e2]; exact hP) hS dX9_areOthers_35
  obtain ⟨e28, he28, h⟩ := Option.bind_eq_some_iff.mp h
  refine hl12 _ _ n _ _ _ e28 _ _ _ he28 hP hS (lv_sub hl [2, 3, 4, 5, 1, 0] rfl) (fun H locs ls v29 v30 x31 hz hP hS hl => ?_) (fun z hz => hret z (bq_ir h hz :))
  replace h := bq_il h hz
  replace h := un3_e h
  refine lv_iconst (v := (1 : Int32)) hx hb dX9_areOthers_71 (by decide) ?_
  obtain ⟨e1, e2⟩ := Prod.mk.inj (hret _ h)
  exact hR _ _ _ _ _ (congrArg some e1) rfl (by rw [e2]; exact hP) hS dX9_areOthers_72
set_option maxHeartbeats 4000000 in
set_option maxRecDepth 100000 in
theorem cX9_isLawfulJoined_k_0_41 {l : Launch} {D : va_G} {a : Nat → Nat} {k : Nat → ClassId} {n : Nat} {p2 : Int32} {p3 : Int32} {p4 : Int32} {x0 xz : bq_S} {rz : Int32} (h : fX9_isLawfulJoined n 41 16 p2 p3 p4 x0 = some (rz, xz)) : bq_M l D bq_cl (bq_ty k) (bq_wC a k) yX9_isLawfulJoined cX9_isLawfulJoined 7 (some .boolean) { frames := 3, cells := 0, slots := 0, locals := 67 } [.ref (a 0), .ref (a 41), .int p2, .int p3, .int p4] x0 (some rz) xz := by
  refine bq_ofW RX9 [(0, .ref (a 0)), (1, .ref (a 41)), (2, .int p2), (3, .int p3), (4, .int p4)] (by decide +kernel) rfl (Nat.le_of_ble_eq_true rfl) rfl (bq_adC a k) ?_
  intro p e s m below meth c A Q ls S hK hD hA hR hS hP hl
  have hx := S.1; have hb := S.2.1; have hml := S.2.2.1; have hown := S.2.2.2.1; have hts := S.2.2.2.2
  have hret : ∀ z, some z = some (rz, xz) → (rz, xz) = z := fun z h => (Option.some.inj h).symm
  unfold fX9_isLawfulJoined at h
  refine lv_aload_n hx hb dX9_isLawfulJoined_0 rfl (lv_at hl 0 rfl) ?_
  refine bq_get (q0 := 0) S hK hP fl_X9_10_X9_0 rfl rfl rfl dX9_isLawfulJoined_1 ?_
  refine bq_get (q0 := 1) S hK hP fl_X9_159_X4_2 rfl rfl rfl dX9_isLawfulJoined_4 ?_
  refine lv_topi (fun v1 hv1 => ?_)
  replace h := bq_bv h hv1
  refine lv_istore (lv' := [(5, .int v1), (0, .ref (a 0)), (1, .ref (a 41)), (2, .int p2), (3, .int p3), (4, .int p4)]) hx hb dX9_isLawfulJoined_7 hl (by decide) rfl (fun ls hl => ?_)
  refine lv_iconst (v := (0 : Int32)) hx hb dX9_isLawfulJoined_9 (by decide) ?_
  refine lv_istore (lv' := [(6, .int (0 : Int32)), (5, .int v1), (0, .ref (a 0)), (1, .ref (a 41)), (2, .int p2), (3, .int p3), (4, .int p4)]) hx hb dX9_isLawfulJoined_10 hl (by decide) rfl (fun ls hl => ?_)
  have hl12 : ∀ (v4 : Int32) (v5 : Int32) (v6 : Int32) (v7 : Int32) (kf : Nat) (v8 : Int32) (x9 : bq_S) (eo : Int32 × bq_S) (H : Heap) (locs : List Loc) (ls : Array Slot), wh kf (fX9_isLawfulJoined_b12 n 41 16 v4 v5 v6 v7) (v8, x9) = some eo → va_P D bq_cl (bq_wC a k x9) H → va_S A s.heap H locs → lv_has ls 7 [(0, .ref (a 0)), (1, .ref (a 41)), (2, .int v4), (3, .int v5), (4, .int v6), (5, .int v7), (6, .int v8)] → (∀ (H : Heap) (locs : List Loc) (ls : Array Slot) (v24 : Int32) (x25 : bq_S), eo = (v24, x25) → va_P D bq_cl (bq_wC a k x25) H → va_S A s.heap H locs → lv_has ls 7 [(0, .ref (a 0)), (1, .ref (a 41)), (2, .int v4), (3, .int v5), (4, .int v6), (5, .int v7)] → W p l e { frames := 3, cells := 0, slots := 0, locals := 67 } s m [.ref (a 0), .ref (a 41), .int p2, .int p3, .int p4].toArray below meth c H locs 0 0 Q (F0 m 61 ls [])) → W p l e { frames := 3, cells := 0, slots := 0, locals := 67 } s m [.ref (a 0), .ref (a 41), .int p2, .int p3, .int p4].toArray below meth c H locs 0 0 Q (F0 m 12 ls []) := by
    intro v4 v5 v6 v7 kf
    induction kf with
    | zero => intro v8 x9 eo H locs ls h; cases h
    | succ kf ih =>
      intro v8 x9 eo H locs ls h hP hS hl kx
      obtain ⟨out, h, hw⟩ := wh_s h
      unfold fX9_isLawfulJoined_b12 at h
      replace h := un2_e h
      refine lv_iload hx hb dX9_isLawfulJoined_12 (lv_at hl 6 rfl) ?_
      refine lv_iload hx hb dX9_isLawfulJoined_14 (lv_at hl 5 rfl) ?_
      refine lv_icmp_ge (tgt := 61) hx hb dX9_isLawfulJoined_16 (by decide) (fun c10 => ?_) (fun c10 => ?_)
      · replace h := (if_pos c10).symm.trans h
        cases h
        exact kx _ _ _ _ _ (Option.some.inj hw).symm hP hS (lv_sub hl [0, 1, 2, 3, 4, 5] rfl)
      · replace h := (if_neg c10).symm.trans h
        refine lv_aload_n hx hb dX9_isLawfulJoined_19 rfl (lv_at hl 0 rfl) ?_
        refine bq_get (q0 := 0) S hK hP fl_X9_75_X9_10 rfl rfl rfl dX9_isLawfulJoined_20 ?_
        refine lv_iload hx hb dX9_isLawfulJoined_23 (lv_at hl 6 rfl) ?_
        refine lv_aload_n hx hb dX9_isLawfulJoined_25 rfl (lv_at hl 0 rfl) ?_
        refine bq_get (q0 := 0) S hK hP fl_X9_10_X9_0 rfl rfl rfl dX9_isLawfulJoined_26 ?_
        refine bq_get (q0 := 1) S hK hP fl_X9_156_X4_7 rfl rfl rfl dX9_isLawfulJoined_29 ?_
        refine lv_iload hx hb dX9_isLawfulJoined_32 (lv_at hl 4 rfl) ?_
        refine lv_iconst (v := (1 : Int32)) hx hb dX9_isLawfulJoined_34 (by decide) ?_
        obtain ⟨o11, ho11, h⟩ := Option.bind_eq_some_iff.mp h
        obtain ⟨v13, x12⟩ := o11
        replace h := un2_e h
        refine bq_callSi (As := [.int _, .int _]) S hK hD hA hP hS (cX9_has_k ho11) hd_yX9_has ml_X9_208 st_yX9_has ⟨rfl, rfl⟩ ⟨by decide, by decide⟩ rfl hl.1 rfl (Nat.le_of_ble_eq_true rfl) ⟨Nat.zero_le _, Nat.zero_le _⟩ dX9_isLawfulJoined_35 (fun H locs hP hS => ?_)
        refine lv_if_eq (tgt := 51) hx hb dX9_isLawfulJoined_38 (by decide) (fun c14 => ?_) (fun c14 => ?_)
        · replace h := (if_pos c14).symm.trans h
          refine lv_iload hx hb dX9_isLawfulJoined_51 (lv_at hl 6 rfl) ?_
          obtain ⟨g15, h⟩ := bq_gd h
          refine va_iald (D := D) hx hb hK hP 6 0 rfl rfl g15 dX9_isLawfulJoined_53 ?_
          obtain ⟨g17, h⟩ := bq_gd h
          obtain ⟨x16, hx16, h⟩ := bq_b h
          refine bq_iast (x1 := x16) (q0 := 42) (t0 := 0) S hK hD hP hS rfl rfl g17 (by rw [hx16]; rfl) dX9_isLawfulJoined_54 (fun H locs hP hS => ?_)
          obtain ⟨v18, hv18, h⟩ := bq_b h
          refine lv_iinc (v := v18) (lv' := [(6, .int v18), (0, .ref (a 0)), (1, .ref (a 41)), (2, .int v4), (3, .int v5), (4, .int v6), (5, .int v7)]) hx hb dX9_isLawfulJoined_55 hl (k := 6) rfl (by rw [hv18]; rfl) (by decide) rfl (fun ls hl => ?_)
          refine lv_goto (tgt := 12) hx hb dX9_isLawfulJoined_58 (by decide) ?_
          cases h
          exact ih _ _ _ _ _ _ hw hP hS (lv_sub hl [1, 2, 3, 4, 5, 6, 0] rfl) kx
        · replace h := (if_neg c14).symm.trans h
          refine lv_iload hx hb dX9_isLawfulJoined_41 (lv_at hl 5 rfl) ?_
          refine lv_iconst (v := (1 : Int32)) hx hb dX9_isLawfulJoined_43 (by decide) ?_
          refine lv_isub hx hb dX9_isLawfulJoined_44 ?_
          refine lv_iload hx hb dX9_isLawfulJoined_45 (lv_at hl 6 rfl) ?_
          refine lv_isub hx hb dX9_isLawfulJoined_47 ?_
          refine lv_goto (tgt := 53) hx hb dX9_isLawfulJoined_48 (by decide) ?_
          obtain ⟨g19, h⟩ := bq_gd h
          refine va_iald (D := D) hx hb hK hP 6 0 rfl rfl g19 dX9_isLawfulJoined_53 ?_
          obtain ⟨g21, h⟩ := bq_gd h
          obtain ⟨x20, hx20, h⟩ := bq_b h
          refine bq_iast (x1 := x20) (q0 := 42) (t0 := 0) S hK hD hP hS rfl rfl g21 (by rw [hx20]; rfl) dX9_isLawfulJoined_54 (fun H locs hP hS => ?_)
          obtain ⟨v22, hv22, h⟩ := bq_b h
          refine lv_iinc (v := v22) (lv' := [(6, .int v22), (0, .ref (a 0)), (1, .ref (a 41)), (2, .int v4), (3, .int v5), (4, .int v6), (5, .int v7)]) hx hb dX9_isLawfulJoined_55 hl (k := 6) rfl (by rw [hv22]; rfl) (by decide) rfl (fun ls hl => ?_)
          refine lv_goto (tgt := 12) hx hb dX9_isLawfulJoined_58 (by decide) ?_
          cases h
          exact ih _ _ _ _ _ _ hw hP hS (lv_sub hl [1, 2, 3, 4, 5, 6, 0] rfl) kx
  obtain ⟨e23, he23, h⟩ := Option.bind_eq_some_iff.mp h
  refine hl12 _ _ _ _ n _ _ e23 _ _ _ he23 hP hS (lv_sub hl [2, 3, 4, 5, 6, 1, 0] rfl) (fun H locs ls v24 x25 hz hP hS hl => ?_)
  subst hz
  replace h := un2_e h
  refine lv_iconst (v := (0 : Int32)) hx hb dX9_isLawfulJoined_61 (by decide) ?_
  refine lv_istore (lv' := [(6, .int (0 : Int32)), (0, .ref (a 0)), (1, .ref (a 41)), (2, .int p2), (3, .int p3), (4, .int p4), (5, .int v1)]) hx hb dX9_isLawfulJoined_62 hl (by decide) rfl (fun ls hl => ?_)
  have hl64 : ∀ (v28 : Int32) (v29 : Int32) (v30 : Int32) (v31 : Int32) (kf : Nat) (v32 : Int32) (x33 : bq_S) (eo : Int32 × bq_S) (H : Heap) (locs : List Loc) (ls : Array Slot), wh kf (fX9_isLawfulJoined_b64 n 41 16 v28 v29 v30 v31) (v32, x33) = some eo → va_P D bq_cl (bq_wC a k x33) H → va_S A s.heap H locs → lv_has ls 7 [(0, .ref (a 0)), (1, .ref (a 41)), (2, .int v28), (3, .int v29), (4, .int v30), (5, .int v31), (6, .int v32)] → (∀ (H : Heap) (locs : List Loc) (ls : Array Slot) (v51 : Int32) (x52 : bq_S), eo = (v51, x52) → va_P D bq_cl (bq_wC a k x52) H → va_S A s.heap H locs → lv_has ls 7 [(0, .ref (a 0)), (3, .int v29), (5, .int v31)] → W p l e { frames := 3, cells := 0, slots := 0, locals := 67 } s m [.ref (a 0), .ref (a 41), .int p2, .int p3, .int p4].toArray below meth c H locs 0 0 Q (F0 m 111 ls [])) → W p l e { frames := 3, cells := 0, slots := 0, locals := 67 } s m [.ref (a 0), .ref (a 41), .int p2, .int p3, .int p4].toArray below meth c H locs 0 0 Q (F0 m 64 ls []) := by
    intro v28 v29 v30 v31 kf
    induction kf with
    | zero => intro v32 x33 eo H locs ls h; cases h
    | succ kf ih =>
      intro v32 x33 eo H locs ls h hP hS hl kx
      obtain ⟨out, h, hw⟩ := wh_s h
      unfold fX9_isLawfulJoined_b64 at h
      replace h := un2_e h
      have hj101 : ∀ (v39 : Int32) (v40 : Int32) (v43 : Int32) (v44 : Int32) (x45 : bq_S) (H : Heap) (locs : List Loc) (ls : Array Slot), fX9_isLawfulJoined_j101 n 41 16 v28 v29 v30 v31 v39 v40 41 16 v43 v44 x45 = some out → va_P D bq_cl (bq_wC a k x45) H → va_S A s.heap H locs → lv_has ls 7 [(0, .ref (a 0)), (1, .ref (a 41)), (2, .int v28), (3, .int v29), (4, .int v30), (5, .int v31), (6, .int v39)] → W p l e { frames := 3, cells := 0, slots := 0, locals := 67 } s m [.ref (a 0), .ref (a 41), .int p2, .int p3, .int p4].toArray below meth c H locs 0 0 Q (F0 m 101 ls [.int v44, .int v43, .ref (a 41), .int v40, .ref (a 42)]) := by
        intro v39 v40 v43 v44 x45 H locs ls h hP hS hl
        unfold fX9_isLawfulJoined_j101 at h
        refine lv_iadd hx hb dX9_isLawfulJoined_101 ?_
        obtain ⟨g46, h⟩ := bq_gd h
        refine va_lald (D := D) hx hb hK hP 41 1 rfl rfl g46 dX9_isLawfulJoined_102 ?_
        refine lv_l2i hx hb dX9_isLawfulJoined_103 rfl ?_
        obtain ⟨g48, h⟩ := bq_gd h
        obtain ⟨x47, hx47, h⟩ := bq_b h
        refine bq_iast (x1 := x47) (q0 := 42) (t0 := 0) S hK hD hP hS rfl rfl g48 (by rw [hx47]; rfl) dX9_isLawfulJoined_104 (fun H locs hP hS => ?_)
        obtain ⟨v49, hv49, h⟩ := bq_b h
        refine lv_iinc (v := v49) (lv' := [(6, .int v49), (0, .ref (a 0)), (1, .ref (a 41)), (2, .int v28), (3, .int v29), (4, .int v30), (5, .int v31)]) hx hb dX9_isLawfulJoined_105 hl (k := 6) rfl (by rw [hv49]; rfl) (by decide) rfl (fun ls hl => ?_)
        refine lv_goto (tgt := 64) hx hb dX9_isLawfulJoined_108 (by decide) ?_
        cases h
        exact ih _ _ _ _ _ _ hw hP hS (lv_sub hl [1, 2, 3, 4, 5, 6, 0] rfl) kx
      refine lv_iload hx hb dX9_isLawfulJoined_64 (lv_at hl 6 rfl) ?_
      refine lv_iload_n hx hb dX9_isLawfulJoined_66 rfl (lv_at hl 3 rfl) ?_
      refine lv_icmp_ge (tgt := 111) hx hb dX9_isLawfulJoined_67 (by decide) (fun c34 => ?_) (fun c34 => ?_)
      · replace h := (if_pos c34).symm.trans h
        cases h
        exact kx _ _ _ _ _ (Option.some.inj hw).symm hP hS (lv_sub hl [0, 3, 5] rfl)
      · replace h := (if_neg c34).symm.trans h
        refine lv_aload_n hx hb dX9_isLawfulJoined_70 rfl (lv_at hl 0 rfl) ?_
        refine bq_get (q0 := 0) S hK hP fl_X9_75_X9_10 rfl rfl rfl dX9_isLawfulJoined_71 ?_
        refine lv_iload hx hb dX9_isLawfulJoined_74 (lv_at hl 5 rfl) ?_
        refine lv_iload hx hb dX9_isLawfulJoined_76 (lv_at hl 6 rfl) ?_
        refine lv_iadd hx hb dX9_isLawfulJoined_78 ?_
        refine lv_aload_n hx hb dX9_isLawfulJoined_79 rfl (lv_at hl 1 rfl) ?_
        refine lv_iload_n hx hb dX9_isLawfulJoined_80 rfl (lv_at hl 2 rfl) ?_
        refine lv_iload hx hb dX9_isLawfulJoined_81 (lv_at hl 4 rfl) ?_
        refine lv_iconst (v := (0 : Int32)) hx hb dX9_isLawfulJoined_83 (by decide) ?_
        obtain ⟨o35, ho35, h⟩ := Option.bind_eq_some_iff.mp h
        obtain ⟨v37, x36⟩ := o35
        replace h := un2_e h
        refine bq_callSi (As := [.int _, .int _]) S hK hD hA hP hS (cX9_has_k ho35) hd_yX9_has ml_X9_208 st_yX9_has ⟨rfl, rfl⟩ ⟨by decide, by decide⟩ rfl hl.1 rfl (Nat.le_of_ble_eq_true rfl) ⟨Nat.zero_le _, Nat.zero_le _⟩ dX9_isLawfulJoined_84 (fun H locs hP hS => ?_)
        refine lv_if_eq (tgt := 99) hx hb dX9_isLawfulJoined_87 (by decide) (fun c38 => ?_) (fun c38 => ?_)
        · replace h := (if_pos c38).symm.trans h
          refine lv_iload hx hb dX9_isLawfulJoined_99 (lv_at hl 6 rfl) ?_
          exact hj101 _ _ _ _ _ _ _ _ h hP hS (lv_sub hl [0, 1, 2, 3, 4, 5, 6] rfl)
        · replace h := (if_neg c38).symm.trans h
          refine lv_iload_n hx hb dX9_isLawfulJoined_90 rfl (lv_at hl 3 rfl) ?_
          refine lv_iconst (v := (1 : Int32)) hx hb dX9_isLawfulJoined_91 (by decide) ?_
          refine lv_isub hx hb dX9_isLawfulJoined_92 ?_
          refine lv_iload hx hb dX9_isLawfulJoined_93 (lv_at hl 6 rfl) ?_
          refine lv_isub hx hb dX9_isLawfulJoined_95 ?_
          refine lv_goto (tgt := 101) hx hb dX9_isLawfulJoined_96 (by decide) ?_
          exact hj101 _ _ _ _ _ _ _ _ h hP hS (lv_sub hl [0, 1, 2, 3, 4, 5, 6] rfl)
  obtain ⟨e50, he50, h⟩ := Option.bind_eq_some_iff.mp h
  refine hl64 _ _ _ _ n _ _ e50 _ _ _ he50 hP hS (lv_sub hl [1, 2, 3, 4, 5, 6, 0] rfl) (fun H locs ls v51 x52 hz hP hS hl => ?_)
  subst hz
  replace h := un2_e h
  refine lv_aload_n hx hb dX9_isLawfulJoined_111 rfl (lv_at hl 0 rfl) ?_
  refine bq_get (q0 := 0) S hK hP fl_X9_10_X9_0 rfl rfl rfl dX9_isLawfulJoined_112 ?_
  refine lv_aload_n hx hb dX9_isLawfulJoined_115 rfl (lv_at hl 0 rfl) ?_
  refine bq_get (q0 := 0) S hK hP fl_X9_75_X9_10 rfl rfl rfl dX9_isLawfulJoined_116 ?_
  refine lv_iload hx hb dX9_isLawfulJoined_119 (lv_at hl 2 rfl) ?_
  refine lv_iload_n hx hb dX9_isLawfulJoined_121 rfl (lv_at hl 1 rfl) ?_
  refine lv_iadd hx hb dX9_isLawfulJoined_122 ?_
  obtain ⟨o53, ho53, h⟩ := Option.bind_eq_some_iff.mp h
  obtain ⟨v55, x54⟩ := o53
  replace h := un2_e h
  refine bq_callVi (q0 := 1) (As := [.ref (a 42), .int _]) S hK hD hA hP hS (cX4_isLawful_k_1_42 ho53) hd_yX4_isLawful ml_X9_284 in_yX4_isLawful (hts _ sl_X4_X4_yX4_isLawful) ⟨rfl, rfl⟩ ⟨by decide, by decide⟩ rfl rfl rfl hl.1 rfl (Nat.le_of_ble_eq_true rfl) ⟨Nat.zero_le _, Nat.zero_le _⟩ dX9_isLawfulJoined_123 (fun H locs hP hS => ?_)
  obtain ⟨g56, h⟩ := bq_gp h
  obtain ⟨e1, e2⟩ := Prod.mk.inj (hret _ h)
  exact hR _ _ _ _ _ (congrArg some e1) (bq_z g56) (by rw [e2]; exact hP) hS dX9_isLawfulJoined_126
set_option maxHeartbeats 4000000 in
set_option maxRecDepth 100000 in
theorem cX9_joined_k_0_s3 {l : Launch} {D : va_G} {a : Nat → Nat} {k : Nat → ClassId} {n : Nat} {p1 : Int32} {p2 : Int32} {p3 : Int32} {p4 : Int32} {x0 xz : bq_S} {rz : Int32} (hkp1 : p1.toNatClampNeg = 3) (h : fX9_joined n p1 p2 p3 p4 x0 = some (rz, xz)) : bq_M l D bq_cl (bq_ty k) (bq_wC a k) yX9_joined cX9_joined 8 (some .int) { frames := 4, cells := 0, slots := 0, locals := 93 } [.ref (a 0), .int p1, .int p2, .int p3, .int p4] x0 (some rz) xz := by
  refine bq_ofW RX9 [(0, .ref (a 0)), (1, .int p1), (2, .int p2), (3, .int p3), (4, .int p4)] (by decide +kernel) rfl (Nat.le_of_ble_eq_true rfl) rfl (bq_adC a k) ?_
  intro p e s m below meth c A Q ls S hK hD hA hR hS hP hl
  have hx := S.1; have hb := S.2.1; have hml := S.2.2.1; have hown := S.2.2.2.1; have hts := S.2.2.2.2
  have hret : ∀ z, some z = some (rz, xz) → (rz, xz) = z := fun z h => (Option.some.inj h).symm
  unfold fX9_joined at h
  refine lv_iload hx hb dX9_joined_0 (lv_at hl 4 rfl) ?_
  refine lv_iconst (v := (1 : Int32)) hx hb dX9_joined_2 (by decide) ?_
  refine lv_icmp_lt (tgt := 13) hx hb dX9_joined_3 (by decide) (fun c1 => ?_) (fun c1 => ?_)
  · replace h := (if_pos c1).symm.trans h
    refine lv_iconst (v := (-1 : Int32)) hx hb dX9_joined_13 (by decide) ?_
    obtain ⟨e1, e2⟩ := Prod.mk.inj (hret _ h)
    exact hR _ _ _ _ _ (congrArg some e1) rfl (by rw [e2]; exact hP) hS dX9_joined_14
  · replace h := (if_neg c1).symm.trans h
    refine lv_iload hx hb dX9_joined_6 (lv_at hl 4 rfl) ?_
    refine lv_bipush (v := (8 : Int32)) hx hb dX9_joined_8 (by decide) ?_
    refine lv_icmp_le (tgt := 15) hx hb dX9_joined_10 (by decide) (fun c2 => ?_) (fun c2 => ?_)
    · replace h := (if_pos c2).symm.trans h
      refine lv_aload_n hx hb dX9_joined_15 rfl (lv_at hl 0 rfl) ?_
      refine lv_iload_n hx hb dX9_joined_16 rfl (lv_at hl 1 rfl) ?_
      refine lv_iload_n hx hb dX9_joined_17 rfl (lv_at hl 2 rfl) ?_
      refine lv_iload_n hx hb dX9_joined_18 rfl (lv_at hl 3 rfl) ?_
      refine lv_iload hx hb dX9_joined_19 (lv_at hl 4 rfl) ?_
      obtain ⟨o3, ho3, h⟩ := Option.bind_eq_some_iff.mp h
      obtain ⟨v5, x4⟩ := o3
      replace h := un2_e h
      refine bq_callVi (q0 := 0) (As := [.int _, .int _, .int _, .int _]) S hK hD hA hP hS (cX9_refusalOf_k_0 ho3) hd_yX9_refusalOf ml_X9_233 in_yX9_refusalOf (hts _ sl_X9_X9_yX9_refusalOf) ⟨rfl, rfl⟩ ⟨by decide, by decide⟩ rfl rfl rfl hl.1 rfl (Nat.le_of_ble_eq_true rfl) ⟨Nat.zero_le _, Nat.zero_le _⟩ dX9_joined_21 (fun H locs hP hS => ?_)
      refine lv_istore (lv' := [(5, .int v5), (0, .ref (a 0)), (1, .int p1), (2, .int p2), (3, .int p3), (4, .int p4)]) hx hb dX9_joined_24 hl (by decide) rfl (fun ls hl => ?_)
      refine lv_iload hx hb dX9_joined_26 (lv_at hl 0 rfl) ?_
      refine lv_if_eq (tgt := 34) hx hb dX9_joined_28 (by decide) (fun c6 => ?_) (fun c6 => ?_)
      · replace h := (if_pos c6).symm.trans h
        refine lv_aload_n hx hb dX9_joined_34 rfl (lv_at hl 1 rfl) ?_
        refine bq_get (q0 := 0) S hK hP fl_X9_70_X9_9 rfl rfl rfl dX9_joined_35 ?_
        refine lv_iload_n hx hb dX9_joined_38 rfl (lv_at hl 2 rfl) ?_
        obtain ⟨g7, h⟩ := bq_gd h
        refine va_aldq (D := D) hx hb hK hP 33 3 rfl rfl g7 dX9_joined_39 ?_
        rw [hkp1]
        try rw [hkp1] at h
        refine W.eq (g2 := F0 m 40 ls [.ref (a 40)]) rfl ?_
        refine bq_get (q0 := 40) S hK hP fl_X9_237_X6_0 rfl rfl rfl dX9_joined_40 ?_
        refine lv_astore (lv' := [(6, .ref (a 41)), (5, .int v5), (0, .ref (a 0)), (1, .int p1), (2, .int p2), (3, .int p3), (4, .int p4)]) hx hb dX9_joined_43 hl (by decide) rfl (fun ls hl => ?_)
        refine lv_aload_n hx hb dX9_joined_45 rfl (lv_at hl 2 rfl) ?_
        refine lv_aload hx hb dX9_joined_46 (lv_at hl 0 rfl) ?_
        refine lv_iload_n hx hb dX9_joined_48 rfl (lv_at hl 5 rfl) ?_
        refine lv_iload hx hb dX9_joined_49 (lv_at hl 6 rfl) ?_
        obtain ⟨o8, ho8, h⟩ := Option.bind_eq_some_iff.mp h
        obtain ⟨v10, x9⟩ := o8
        replace h := un2_e h
        refine bq_callVi (q0 := 0) (As := [.ref (a 41), .int _, .int _]) S hK hD hA hP hS (cX9_areOthers_k_0_41 ho8) hd_yX9_areOthers ml_X9_244 in_yX9_areOthers (hts _ sl_X9_X9_yX9_areOthers) ⟨rfl, rfl⟩ ⟨by decide, by decide⟩ rfl rfl rfl hl.1 rfl (Nat.le_of_ble_eq_true rfl) ⟨Nat.zero_le _, Nat.zero_le _⟩ dX9_joined_51 (fun H locs hP hS => ?_)
        refine lv_if_ne (tgt := 60) hx hb dX9_joined_54 (by decide) (fun c11 => ?_) (fun c11 => ?_)
        · replace h := (if_neg c11).symm.trans h
          refine lv_iconst (v := (0 : Int32)) hx hb dX9_joined_60 (by decide) ?_
          refine lv_istore (lv' := [(7, .int (0 : Int32)), (6, .ref (a 41)), (5, .int v5), (0, .ref (a 0)), (1, .int p1), (2, .int p2), (3, .int p3), (4, .int p4)]) hx hb dX9_joined_61 hl (by decide) rfl (fun ls hl => ?_)
          have hl63 : ∀ (v12 : Int32) (v13 : Int32) (kf : Nat) (v15 : Int32) (x16 : bq_S) (eo : (Int32 × bq_S) ⊕ (Int32 × bq_S)) (H : Heap) (locs : List Loc) (ls : Array Slot), wh kf (fX9_joined_b63 n v12 v13 41) (v15, x16) = some eo → va_P D bq_cl (bq_wC a k x16) H → va_S A s.heap H locs → lv_has ls 8 [(0, .ref (a 0)), (3, .int v12), (4, .int v13), (6, .ref (a 41)), (7, .int v15)] → (∀ (H : Heap) (locs : List Loc) (ls : Array Slot) (v24 : Int32) (x25 : bq_S), eo = .inl (v24, x25) → va_P D bq_cl (bq_wC a k x25) H → va_S A s.heap H locs → lv_has ls 8 [] → W p l e { frames := 4, cells := 0, slots := 0, locals := 93 } s m [.ref (a 0), .int p1, .int p2, .int p3, .int p4].toArray below meth c H locs 0 0 Q (F0 m 92 ls [])) → (∀ z, eo = .inr z → (rz, xz) = z) → W p l e { frames := 4, cells := 0, slots := 0, locals := 93 } s m [.ref (a 0), .int p1, .int p2, .int p3, .int p4].toArray below meth c H locs 0 0 Q (F0 m 63 ls []) := by
            intro v12 v13 kf
            induction kf with
            | zero => intro v15 x16 eo H locs ls h; cases h
            | succ kf ih =>
              intro v15 x16 eo H locs ls h hP hS hl kx kr
              obtain ⟨out, h, hw⟩ := wh_s h
              have hret : ∀ z, (some (.inr (.inr z)) : Option ((Int32 × bq_S) ⊕ ((Int32 × bq_S) ⊕ (Int32 × bq_S)))) = some out → (rz, xz) = z := fun z h => kr z (by cases h; exact (Option.some.inj hw).symm)
              unfold fX9_joined_b63 at h
              replace h := un2_e h
              refine lv_iload hx hb dX9_joined_63 (lv_at hl 4 rfl) ?_
              refine lv_iconst (v := (4 : Int32)) hx hb dX9_joined_65 (by decide) ?_
              refine lv_icmp_ge (tgt := 92) hx hb dX9_joined_66 (by decide) (fun c17 => ?_) (fun c17 => ?_)
              · replace h := (if_pos c17).symm.trans h
                cases h
                exact kx _ _ _ _ _ (Option.some.inj hw).symm hP hS (lv_sub hl [] rfl)
              · replace h := (if_neg c17).symm.trans h
                refine lv_aload_n hx hb dX9_joined_69 rfl (lv_at hl 0 rfl) ?_
                refine lv_aload hx hb dX9_joined_70 (lv_at hl 3 rfl) ?_
                refine lv_iload_n hx hb dX9_joined_72 rfl (lv_at hl 1 rfl) ?_
                refine lv_iload hx hb dX9_joined_73 (lv_at hl 2 rfl) ?_
                refine lv_iload hx hb dX9_joined_75 (lv_at hl 4 rfl) ?_
                obtain ⟨o18, ho18, h⟩ := Option.bind_eq_some_iff.mp h
                obtain ⟨v20, x19⟩ := o18
                replace h := un2_e h
                refine bq_callVi (q0 := 0) (As := [.ref (a 41), .int _, .int _, .int _]) S hK hD hA hP hS (cX9_isLawfulJoined_k_0_41 ho18) hd_yX9_isLawfulJoined ml_X9_248 in_yX9_isLawfulJoined (hts _ sl_X9_X9_yX9_isLawfulJoined) ⟨rfl, rfl⟩ ⟨by decide, by decide⟩ rfl rfl rfl hl.1 rfl (Nat.le_of_ble_eq_true rfl) ⟨Nat.zero_le _, Nat.zero_le _⟩ dX9_joined_77 (fun H locs hP hS => ?_)
                refine lv_if_eq (tgt := 86) hx hb dX9_joined_80 (by decide) (fun c21 => ?_) (fun c21 => ?_)
                · replace h := (if_pos c21).symm.trans h
                  obtain ⟨v22, hv22, h⟩ := bq_b h
                  refine lv_iinc (v := v22) (lv' := [(7, .int v22), (0, .ref (a 0)), (3, .int v12), (4, .int v13), (6, .ref (a 41))]) hx hb dX9_joined_86 hl (k := 4) rfl (by rw [hv22]; rfl) (by decide) rfl (fun ls hl => ?_)
                  refine lv_goto (tgt := 63) hx hb dX9_joined_89 (by decide) ?_
                  cases h
                  exact ih _ _ _ _ _ _ hw hP hS (lv_sub hl [1, 2, 3, 4, 0] rfl) kx kr
                · replace h := (if_neg c21).symm.trans h
                  refine lv_iload hx hb dX9_joined_83 (lv_at hl 4 rfl) ?_
                  obtain ⟨e1, e2⟩ := Prod.mk.inj (hret _ h)
                  exact hR _ _ _ _ _ (congrArg some e1) rfl (by rw [e2]; exact hP) hS dX9_joined_85
          obtain ⟨e23, he23, h⟩ := Option.bind_eq_some_iff.mp h
          refine hl63 _ _ n _ _ e23 _ _ _ he23 hP hS (lv_sub hl [3, 6, 7, 1, 0] rfl) (fun H locs ls v24 x25 hz hP hS hl => ?_) (fun z hz => hret z (bq_ir h hz :))
          replace h := bq_il h hz
          replace h := un2_e h
          refine lv_bipush (v := (-4 : Int32)) hx hb dX9_joined_92 (by decide) ?_
          obtain ⟨e1, e2⟩ := Prod.mk.inj (hret _ h)
          exact hR _ _ _ _ _ (congrArg some e1) rfl (by rw [e2]; exact hP) hS dX9_joined_94
        · replace h := (if_pos c11).symm.trans h
          refine lv_bipush (v := (-2 : Int32)) hx hb dX9_joined_57 (by decide) ?_
          obtain ⟨e1, e2⟩ := Prod.mk.inj (hret _ h)
          exact hR _ _ _ _ _ (congrArg some e1) rfl (by rw [e2]; exact hP) hS dX9_joined_59
      · replace h := (if_neg c6).symm.trans h
        refine lv_iload hx hb dX9_joined_31 (lv_at hl 0 rfl) ?_
        obtain ⟨e1, e2⟩ := Prod.mk.inj (hret _ h)
        exact hR _ _ _ _ _ (congrArg some e1) rfl (by rw [e2]; exact hP) hS dX9_joined_33
    · replace h := (if_neg c2).symm.trans h
      refine lv_iconst (v := (-1 : Int32)) hx hb dX9_joined_13 (by decide) ?_
      obtain ⟨e1, e2⟩ := Prod.mk.inj (hret _ h)
      exact hR _ _ _ _ _ (congrArg some e1) rfl (by rw [e2]; exact hP) hS dX9_joined_14
set_option maxHeartbeats 4000000 in
set_option maxRecDepth 100000 in
theorem cX9_joined_k_0_sb {l : Launch} {D : va_G} {a : Nat → Nat} {k : Nat → ClassId} {n : Nat} {p1 : Int32} {p2 : Int32} {p3 : Int32} {p4 : Int32} {x0 xz : bq_S} {rz : Int32} (hkp1 : ¬ p1.toNatClampNeg < 4) (h : fX9_joined n p1 p2 p3 p4 x0 = some (rz, xz)) : bq_M l D bq_cl (bq_ty k) (bq_wC a k) yX9_joined cX9_joined 8 (some .int) { frames := 4, cells := 0, slots := 0, locals := 93 } [.ref (a 0), .int p1, .int p2, .int p3, .int p4] x0 (some rz) xz := by
  refine bq_ofW RX9 [(0, .ref (a 0)), (1, .int p1), (2, .int p2), (3, .int p3), (4, .int p4)] (by decide +kernel) rfl (Nat.le_of_ble_eq_true rfl) rfl (bq_adC a k) ?_
  intro p e s m below meth c A Q ls S hK hD hA hR hS hP hl
  have hx := S.1; have hb := S.2.1; have hml := S.2.2.1; have hown := S.2.2.2.1; have hts := S.2.2.2.2
  have hret : ∀ z, some z = some (rz, xz) → (rz, xz) = z := fun z h => (Option.some.inj h).symm
  unfold fX9_joined at h
  refine lv_iload hx hb dX9_joined_0 (lv_at hl 4 rfl) ?_
  refine lv_iconst (v := (1 : Int32)) hx hb dX9_joined_2 (by decide) ?_
  refine lv_icmp_lt (tgt := 13) hx hb dX9_joined_3 (by decide) (fun c1 => ?_) (fun c1 => ?_)
  · replace h := (if_pos c1).symm.trans h
    refine lv_iconst (v := (-1 : Int32)) hx hb dX9_joined_13 (by decide) ?_
    obtain ⟨e1, e2⟩ := Prod.mk.inj (hret _ h)
    exact hR _ _ _ _ _ (congrArg some e1) rfl (by rw [e2]; exact hP) hS dX9_joined_14
  · replace h := (if_neg c1).symm.trans h
    refine lv_iload hx hb dX9_joined_6 (lv_at hl 4 rfl) ?_
    refine lv_bipush (v := (8 : Int32)) hx hb dX9_joined_8 (by decide) ?_
    refine lv_icmp_le (tgt := 15) hx hb dX9_joined_10 (by decide) (fun c2 => ?_) (fun c2 => ?_)
    · replace h := (if_pos c2).symm.trans h
      refine lv_aload_n hx hb dX9_joined_15 rfl (lv_at hl 0 rfl) ?_
      refine lv_iload_n hx hb dX9_joined_16 rfl (lv_at hl 1 rfl) ?_
      refine lv_iload_n hx hb dX9_joined_17 rfl (lv_at hl 2 rfl) ?_
      refine lv_iload_n hx hb dX9_joined_18 rfl (lv_at hl 3 rfl) ?_
      refine lv_iload hx hb dX9_joined_19 (lv_at hl 4 rfl) ?_
      obtain ⟨o3, ho3, h⟩ := Option.bind_eq_some_iff.mp h
      obtain ⟨v5, x4⟩ := o3
      replace h := un2_e h
      refine bq_callVi (q0 := 0) (As := [.int _, .int _, .int _, .int _]) S hK hD hA hP hS (cX9_refusalOf_k_0 ho3) hd_yX9_refusalOf ml_X9_233 in_yX9_refusalOf (hts _ sl_X9_X9_yX9_refusalOf) ⟨rfl, rfl⟩ ⟨by decide, by decide⟩ rfl rfl rfl hl.1 rfl (Nat.le_of_ble_eq_true rfl) ⟨Nat.zero_le _, Nat.zero_le _⟩ dX9_joined_21 (fun H locs hP hS => ?_)
      refine lv_istore (lv' := [(5, .int v5), (0, .ref (a 0)), (1, .int p1), (2, .int p2), (3, .int p3), (4, .int p4)]) hx hb dX9_joined_24 hl (by decide) rfl (fun ls hl => ?_)
      refine lv_iload hx hb dX9_joined_26 (lv_at hl 0 rfl) ?_
      refine lv_if_eq (tgt := 34) hx hb dX9_joined_28 (by decide) (fun c6 => ?_) (fun c6 => ?_)
      · replace h := (if_pos c6).symm.trans h
        refine lv_aload_n hx hb dX9_joined_34 rfl (lv_at hl 1 rfl) ?_
        refine bq_get (q0 := 0) S hK hP fl_X9_70_X9_9 rfl rfl rfl dX9_joined_35 ?_
        refine lv_iload_n hx hb dX9_joined_38 rfl (lv_at hl 2 rfl) ?_
        obtain ⟨g7, h⟩ := bq_gd h
        exact absurd (bq_lt g7) hkp1
      · replace h := (if_neg c6).symm.trans h
        refine lv_iload hx hb dX9_joined_31 (lv_at hl 0 rfl) ?_
        obtain ⟨e1, e2⟩ := Prod.mk.inj (hret _ h)
        exact hR _ _ _ _ _ (congrArg some e1) rfl (by rw [e2]; exact hP) hS dX9_joined_33
    · replace h := (if_neg c2).symm.trans h
      refine lv_iconst (v := (-1 : Int32)) hx hb dX9_joined_13 (by decide) ?_
      obtain ⟨e1, e2⟩ := Prod.mk.inj (hret _ h)
      exact hR _ _ _ _ _ (congrArg some e1) rfl (by rw [e2]; exact hP) hS dX9_joined_14
theorem cX9_joined_k_0 {l : Launch} {D : va_G} {a : Nat → Nat} {k : Nat → ClassId} {n : Nat} {p1 : Int32} {p2 : Int32} {p3 : Int32} {p4 : Int32} {x0 xz : bq_S} {rz : Int32} (h : fX9_joined n p1 p2 p3 p4 x0 = some (rz, xz)) : bq_M l D bq_cl (bq_ty k) (bq_wC a k) yX9_joined cX9_joined 8 (some .int) { frames := 4, cells := 0, slots := 0, locals := 93 } [.ref (a 0), .int p1, .int p2, .int p3, .int p4] x0 (some rz) xz := by
  by_cases k0 : p1.toNatClampNeg < 4
  · rcases (show p1.toNatClampNeg = 0 ∨ p1.toNatClampNeg = 1 ∨ p1.toNatClampNeg = 2 ∨ p1.toNatClampNeg = 3 by omega) with e0 | e0 | e0 | e0
    · skip
      exact cX9_joined_k_0_s0 e0 h
    · skip
      exact cX9_joined_k_0_s1 e0 h
    · skip
      exact cX9_joined_k_0_s2 e0 h
    · skip
      exact cX9_joined_k_0_s3 e0 h
  · skip
    exact cX9_joined_k_0_sb k0 h
def fJ7_fill_d0a16_b6 (n : Nat) (r2 : Nat) (lb3 : Nat) (v4 : Int64) (v6 : Int32) (v : Int32 × bq_S) : Option ((Int32 × bq_S) ⊕ (Int32 × bq_S)) :=
  un2 v (fun v5 x7 =>
  if v6 ≤ v5 then
  some (.inr (v5, x7))
  else
  if ok_i v5 lb3 then
  bd (bq_sL x7 r2 v5.toNatClampNeg v4) (fun x9 =>
  bd (v5 + (1 : Int32)) (fun v11 =>
  some (.inl (v11, x9))))
  else none)
def fJ7_fill_d0a16 (n : Nat) (q0 : Nat) (la0 : Nat) (p1 : Int64) (x0 : bq_S) : Option (bq_S) :=
  bd (Int32.ofNat la0) (fun v1 =>
  (wh n (fJ7_fill_d0a16_b6 n q0 la0 p1 v1) ((0 : Int32), x0)).bind (fun e12 => un2 e12 (fun v13 x14 =>
  some x14)))
theorem dJ7_fill_d0a16_0 : decode cJ7_fill_d0a16 0 = .ok (.iconst 0, 1) := by decide +kernel
theorem dJ7_fill_d0a16_1 : decode cJ7_fill_d0a16 1 = .ok (.istore_n 3, 1) := by decide +kernel
theorem dJ7_fill_d0a16_2 : decode cJ7_fill_d0a16 2 = .ok (.aload_n 0, 1) := by decide +kernel
theorem dJ7_fill_d0a16_3 : decode cJ7_fill_d0a16 3 = .ok (.arraylength, 1) := by decide +kernel
theorem dJ7_fill_d0a16_4 : decode cJ7_fill_d0a16 4 = .ok (.istore 4, 2) := by decide +kernel
theorem dJ7_fill_d0a16_6 : decode cJ7_fill_d0a16 6 = .ok (.iload_n 3, 1) := by decide +kernel
theorem dJ7_fill_d0a16_7 : decode cJ7_fill_d0a16 7 = .ok (.iload 4, 2) := by decide +kernel
theorem dJ7_fill_d0a16_9 : decode cJ7_fill_d0a16 9 = .ok (.if_icmp .ge 13, 3) := by decide +kernel
theorem dJ7_fill_d0a16_12 : decode cJ7_fill_d0a16 12 = .ok (.aload_n 0, 1) := by decide +kernel
theorem dJ7_fill_d0a16_13 : decode cJ7_fill_d0a16 13 = .ok (.iload_n 3, 1) := by decide +kernel
theorem dJ7_fill_d0a16_14 : decode cJ7_fill_d0a16 14 = .ok (.lload_n 1, 1) := by decide +kernel
theorem dJ7_fill_d0a16_15 : decode cJ7_fill_d0a16 15 = .ok (.lastore, 1) := by decide +kernel
theorem dJ7_fill_d0a16_16 : decode cJ7_fill_d0a16 16 = .ok (.iinc 3 1, 3) := by decide +kernel
theorem dJ7_fill_d0a16_19 : decode cJ7_fill_d0a16 19 = .ok (.goto (-13), 3) := by decide +kernel
theorem dJ7_fill_d0a16_22 : decode cJ7_fill_d0a16 22 = .ok (.return_, 1) := by decide +kernel
set_option maxHeartbeats 4000000 in
set_option maxRecDepth 100000 in
theorem cJ7_fill_d0a16_k_35 {l : Launch} {D : va_G} {a : Nat → Nat} {k : Nat → ClassId} {n : Nat} {p1 : Int64} {x0 xz : bq_S} (h : fJ7_fill_d0a16 n 35 16 p1 x0 = some xz) : bq_M l D bq_cl (bq_ty k) (bq_wC a k) yJ7_fill_d0a16 cJ7_fill_d0a16 5 none { frames := 0, cells := 0, slots := 0, locals := 0 } [.ref (a 35), .long p1] x0 none xz := by
  refine bq_ofWv RJ7 [(0, .ref (a 35)), (1, .long p1)] (by decide +kernel) rfl (Nat.le_of_ble_eq_true rfl) rfl (bq_adC a k) ?_
  intro p e s m below meth c A Q ls S hK hD hA hR hS hP hl
  have hx := S.1; have hb := S.2.1; have hml := S.2.2.1; have hown := S.2.2.2.1; have hts := S.2.2.2.2
  have hret : ∀ z, some z = some xz → xz = z := fun z h => (Option.some.inj h).symm
  unfold fJ7_fill_d0a16 at h
  refine lv_iconst (v := (0 : Int32)) hx hb dJ7_fill_d0a16_0 (by decide) ?_
  refine lv_istore_n (lv' := [(3, .int (0 : Int32)), (0, .ref (a 35)), (1, .long p1)]) hx hb dJ7_fill_d0a16_1 rfl hl (by decide) rfl (fun ls hl => ?_)
  refine lv_aload_n hx hb dJ7_fill_d0a16_2 rfl (lv_at hl 1 rfl) ?_
  refine va_alen (D := D) (v := (16 : Int32)) hx hb hK hP 35 1 rfl rfl rfl dJ7_fill_d0a16_3 ?_
  refine lv_topi (fun v1 hv1 => ?_)
  replace h := bq_bv h hv1
  refine lv_istore (lv' := [(4, .int v1), (3, .int (0 : Int32)), (0, .ref (a 35)), (1, .long p1)]) hx hb dJ7_fill_d0a16_4 hl (by decide) rfl (fun ls hl => ?_)
  have hl6 : ∀ (v4 : Int64) (v6 : Int32) (kf : Nat) (v5 : Int32) (x7 : bq_S) (eo : Int32 × bq_S) (H : Heap) (locs : List Loc) (ls : Array Slot), wh kf (fJ7_fill_d0a16_b6 n 35 16 v4 v6) (v5, x7) = some eo → va_P D bq_cl (bq_wC a k x7) H → va_S A s.heap H locs → lv_has ls 5 [(0, .ref (a 35)), (1, .long v4), (3, .int v5), (4, .int v6)] → (∀ (H : Heap) (locs : List Loc) (ls : Array Slot) (v13 : Int32) (x14 : bq_S), eo = (v13, x14) → va_P D bq_cl (bq_wC a k x14) H → va_S A s.heap H locs → lv_has ls 5 [] → W p l e { frames := 0, cells := 0, slots := 0, locals := 0 } s m [.ref (a 35), .long p1].toArray below meth c H locs 0 0 Q (F0 m 22 ls [])) → W p l e { frames := 0, cells := 0, slots := 0, locals := 0 } s m [.ref (a 35), .long p1].toArray below meth c H locs 0 0 Q (F0 m 6 ls []) := by
    intro v4 v6 kf
    induction kf with
    | zero => intro v5 x7 eo H locs ls h; cases h
    | succ kf ih =>
      intro v5 x7 eo H locs ls h hP hS hl kx
      obtain ⟨out, h, hw⟩ := wh_s h
      unfold fJ7_fill_d0a16_b6 at h
      replace h := un2_e h
      refine lv_iload_n hx hb dJ7_fill_d0a16_6 rfl (lv_at hl 2 rfl) ?_
      refine lv_iload hx hb dJ7_fill_d0a16_7 (lv_at hl 3 rfl) ?_
      refine lv_icmp_ge (tgt := 22) hx hb dJ7_fill_d0a16_9 (by decide) (fun c8 => ?_) (fun c8 => ?_)
      · replace h := (if_pos c8).symm.trans h
        cases h
        exact kx _ _ _ _ _ (Option.some.inj hw).symm hP hS (lv_sub hl [] rfl)
      · replace h := (if_neg c8).symm.trans h
        refine lv_aload_n hx hb dJ7_fill_d0a16_12 rfl (lv_at hl 0 rfl) ?_
        refine lv_iload_n hx hb dJ7_fill_d0a16_13 rfl (lv_at hl 2 rfl) ?_
        refine lv_lload_n hx hb dJ7_fill_d0a16_14 rfl (lv_at hl 1 rfl) ?_
        obtain ⟨g10, h⟩ := bq_gd h
        obtain ⟨x9, hx9, h⟩ := bq_b h
        refine bq_last (x1 := x9) (q0 := 35) (t0 := 1) S hK hD hP hS rfl rfl g10 (by rw [hx9]; rfl) dJ7_fill_d0a16_15 (fun H locs hP hS => ?_)
        obtain ⟨v11, hv11, h⟩ := bq_b h
        refine lv_iinc (v := v11) (lv' := [(3, .int v11), (0, .ref (a 35)), (1, .long v4), (4, .int v6)]) hx hb dJ7_fill_d0a16_16 hl (k := 2) rfl (by rw [hv11]; rfl) (by decide) rfl (fun ls hl => ?_)
        refine lv_goto (tgt := 6) hx hb dJ7_fill_d0a16_19 (by decide) ?_
        cases h
        exact ih _ _ _ _ _ _ hw hP hS (lv_sub hl [1, 2, 0, 3] rfl) kx
  obtain ⟨e12, he12, h⟩ := Option.bind_eq_some_iff.mp h
  refine hl6 _ _ n _ _ e12 _ _ _ he12 hP hS (lv_sub hl [2, 3, 1, 0] rfl) (fun H locs ls v13 x14 hz hP hS hl => ?_)
  subst hz
  replace h := un2_e h
  have e2 := hret _ h
  exact hR _ _ _ _ rfl (by rw [e2]; exact hP) hS dJ7_fill_d0a16_22
