def fX2_trace_b35 (n : Nat) (r14 : Nat) (lb15 : Nat) (v16 : Int32) (v17 : Int32) (v18 : Int32) (v : Int32 × bq_S) : Option ((Int32 × bq_S) ⊕ (Int32 × bq_S)) :=
  un2 v (fun v19 x20 =>
  if (8 : Int32) ≤ v19 then
  some (.inr (v19, x20))
  else
  (fX9_has ((x20.1 27 2) &&& (v16 ^^^ (-1 : Int32))) v19 x20).bind (fun o22 => un2 o22 (fun v24 x23 =>
  if v24 = 0 then
  bd (v19 + (1 : Int32)) (fun v26 =>
  some (.inl (v26, x23)))
  else
  (fX8X2_onBy v16 v18 v19 x23).bind (fun o27 => un2 o27 (fun v29 x28 =>
  (fX8X2_told v16 v18 x28).bind (fun o30 => un2 o30 (fun v32 x31 =>
  if v29 = v32 then
  if ok_i v17 lb15 then
  bd (bq_sI x31 r14 v17.toNatClampNeg v19) (fun x35 =>
  some (.inr (v19, x35)))
  else none
  else
  bd (v19 + (1 : Int32)) (fun v34 =>
  some (.inl (v34, x31))))))))))
def fX2_trace_j91 (n : Nat) (r6 : Nat) (lb7 : Nat) (v40 : Int32) (v41 : Int32) (x42 : bq_S) : Option ((Int32 × Int32 × bq_S) ⊕ (Int32 × Int32 × bq_S)) :=
  if ok_i v41 lb7 then
  (fX9_bit (x42.1 r6 v41.toNatClampNeg) x42).bind (fun o44 => un2 o44 (fun v46 x45 =>
  bd (v40 ||| v46) (fun v47 =>
  bd (v41 + (1 : Int32)) (fun v48 =>
  some (.inl (v47, v48, x45))))))
  else none
def fX2_trace_b17 (n : Nat) (r6 : Nat) (lb7 : Nat) (v : Int32 × Int32 × bq_S) : Option ((Int32 × Int32 × bq_S) ⊕ (Int32 × Int32 × bq_S)) :=
  un3 v (fun v8 v9 x10 =>
  if (x10.1 27 3) ≤ v9 then
  some (.inr (v8, v9, x10))
  else
  if ok_i (v9 - (1 : Int32)) lb7 then
  bd (x10.1 r6 (v9 - (1 : Int32)).toNatClampNeg) (fun v13 =>
  (wh n (fX2_trace_b35 n r6 lb7 v8 v9 v13) ((0 : Int32), x10)).bind (fun e37 => un2 e37 (fun v38 x39 =>
  fX2_trace_j91 n r6 lb7 v8 v9 x39)))
  else none)
def fX2_trace (n : Nat) (q1 : Nat) (la1 : Nat) (x0 : bq_S) : Option (bq_S) :=
  (fX9_bit (x0.1 27 4) x0).bind (fun o1 => un2 o1 (fun v3 x2 =>
  if ok_i (0 : Int32) la1 then
  bd (bq_sI x2 q1 (0 : Int32).toNatClampNeg (x2.1 27 4)) (fun x4 =>
  (wh n (fX2_trace_b17 n q1 la1) (v3, (1 : Int32), x4)).bind (fun e49 => un3 e49 (fun v50 v51 x52 =>
  some x52)))
  else none))
theorem dX2_trace_0 : decode cX2_trace 0 = .ok (.aload_n 0, 1) := by decide +kernel
theorem dX2_trace_1 : decode cX2_trace 1 = .ok (.getfield 46, 3) := by decide +kernel
theorem dX2_trace_4 : decode cX2_trace 4 = .ok (.invokestatic 49, 3) := by decide +kernel
theorem dX2_trace_7 : decode cX2_trace 7 = .ok (.istore_n 2, 1) := by decide +kernel
theorem dX2_trace_8 : decode cX2_trace 8 = .ok (.aload_n 1, 1) := by decide +kernel
theorem dX2_trace_9 : decode cX2_trace 9 = .ok (.iconst 0, 1) := by decide +kernel
theorem dX2_trace_10 : decode cX2_trace 10 = .ok (.aload_n 0, 1) := by decide +kernel
theorem dX2_trace_11 : decode cX2_trace 11 = .ok (.getfield 46, 3) := by decide +kernel
theorem dX2_trace_14 : decode cX2_trace 14 = .ok (.iastore, 1) := by decide +kernel
theorem dX2_trace_15 : decode cX2_trace 15 = .ok (.iconst 1, 1) := by decide +kernel
theorem dX2_trace_16 : decode cX2_trace 16 = .ok (.istore_n 3, 1) := by decide +kernel
theorem dX2_trace_17 : decode cX2_trace 17 = .ok (.iload_n 3, 1) := by decide +kernel
theorem dX2_trace_18 : decode cX2_trace 18 = .ok (.aload_n 0, 1) := by decide +kernel
theorem dX2_trace_19 : decode cX2_trace 19 = .ok (.getfield 52, 3) := by decide +kernel
theorem dX2_trace_22 : decode cX2_trace 22 = .ok (.if_icmp .ge 84, 3) := by decide +kernel
theorem dX2_trace_25 : decode cX2_trace 25 = .ok (.aload_n 1, 1) := by decide +kernel
theorem dX2_trace_26 : decode cX2_trace 26 = .ok (.iload_n 3, 1) := by decide +kernel
theorem dX2_trace_27 : decode cX2_trace 27 = .ok (.iconst 1, 1) := by decide +kernel
theorem dX2_trace_28 : decode cX2_trace 28 = .ok (.isub, 1) := by decide +kernel
theorem dX2_trace_29 : decode cX2_trace 29 = .ok (.iaload, 1) := by decide +kernel
theorem dX2_trace_30 : decode cX2_trace 30 = .ok (.istore 4, 2) := by decide +kernel
theorem dX2_trace_32 : decode cX2_trace 32 = .ok (.iconst 0, 1) := by decide +kernel
theorem dX2_trace_33 : decode cX2_trace 33 = .ok (.istore 5, 2) := by decide +kernel
theorem dX2_trace_35 : decode cX2_trace 35 = .ok (.iload 5, 2) := by decide +kernel
theorem dX2_trace_37 : decode cX2_trace 37 = .ok (.bipush 8, 2) := by decide +kernel
theorem dX2_trace_39 : decode cX2_trace 39 = .ok (.if_icmp .ge 52, 3) := by decide +kernel
theorem dX2_trace_42 : decode cX2_trace 42 = .ok (.aload_n 0, 1) := by decide +kernel
theorem dX2_trace_43 : decode cX2_trace 43 = .ok (.getfield 31, 3) := by decide +kernel
theorem dX2_trace_46 : decode cX2_trace 46 = .ok (.iload_n 2, 1) := by decide +kernel
theorem dX2_trace_47 : decode cX2_trace 47 = .ok (.iconst (-1), 1) := by decide +kernel
theorem dX2_trace_48 : decode cX2_trace 48 = .ok (.ixor, 1) := by decide +kernel
theorem dX2_trace_49 : decode cX2_trace 49 = .ok (.iand, 1) := by decide +kernel
theorem dX2_trace_50 : decode cX2_trace 50 = .ok (.iload 5, 2) := by decide +kernel
theorem dX2_trace_52 : decode cX2_trace 52 = .ok (.invokestatic 35, 3) := by decide +kernel
theorem dX2_trace_55 : decode cX2_trace 55 = .ok (.ifCond .eq 30, 3) := by decide +kernel
theorem dX2_trace_58 : decode cX2_trace 58 = .ok (.aload_n 0, 1) := by decide +kernel
theorem dX2_trace_59 : decode cX2_trace 59 = .ok (.iload_n 2, 1) := by decide +kernel
theorem dX2_trace_60 : decode cX2_trace 60 = .ok (.iload 4, 2) := by decide +kernel
theorem dX2_trace_62 : decode cX2_trace 62 = .ok (.iload 5, 2) := by decide +kernel
theorem dX2_trace_64 : decode cX2_trace 64 = .ok (.invokevirtual 55, 3) := by decide +kernel
theorem dX2_trace_67 : decode cX2_trace 67 = .ok (.aload_n 0, 1) := by decide +kernel
theorem dX2_trace_68 : decode cX2_trace 68 = .ok (.iload_n 2, 1) := by decide +kernel
theorem dX2_trace_69 : decode cX2_trace 69 = .ok (.iload 4, 2) := by decide +kernel
theorem dX2_trace_71 : decode cX2_trace 71 = .ok (.invokevirtual 59, 3) := by decide +kernel
theorem dX2_trace_74 : decode cX2_trace 74 = .ok (.if_icmp .ne 11, 3) := by decide +kernel
theorem dX2_trace_77 : decode cX2_trace 77 = .ok (.aload_n 1, 1) := by decide +kernel
theorem dX2_trace_78 : decode cX2_trace 78 = .ok (.iload_n 3, 1) := by decide +kernel
theorem dX2_trace_79 : decode cX2_trace 79 = .ok (.iload 5, 2) := by decide +kernel
theorem dX2_trace_81 : decode cX2_trace 81 = .ok (.iastore, 1) := by decide +kernel
theorem dX2_trace_82 : decode cX2_trace 82 = .ok (.goto 9, 3) := by decide +kernel
theorem dX2_trace_85 : decode cX2_trace 85 = .ok (.iinc 5 1, 3) := by decide +kernel
theorem dX2_trace_88 : decode cX2_trace 88 = .ok (.goto (-53), 3) := by decide +kernel
theorem dX2_trace_91 : decode cX2_trace 91 = .ok (.iload_n 2, 1) := by decide +kernel
theorem dX2_trace_92 : decode cX2_trace 92 = .ok (.aload_n 1, 1) := by decide +kernel
theorem dX2_trace_93 : decode cX2_trace 93 = .ok (.iload_n 3, 1) := by decide +kernel
theorem dX2_trace_94 : decode cX2_trace 94 = .ok (.iaload, 1) := by decide +kernel
theorem dX2_trace_95 : decode cX2_trace 95 = .ok (.invokestatic 49, 3) := by decide +kernel
theorem dX2_trace_98 : decode cX2_trace 98 = .ok (.ior, 1) := by decide +kernel
theorem dX2_trace_99 : decode cX2_trace 99 = .ok (.istore_n 2, 1) := by decide +kernel
theorem dX2_trace_100 : decode cX2_trace 100 = .ok (.iinc 3 1, 3) := by decide +kernel
theorem dX2_trace_103 : decode cX2_trace 103 = .ok (.goto (-86), 3) := by decide +kernel
theorem dX2_trace_106 : decode cX2_trace 106 = .ok (.return_, 1) := by decide +kernel
set_option maxHeartbeats 4000000 in
set_option maxRecDepth 100000 in
theorem cX2_trace_k_27_42 {l : Launch} {D : va_G} {a : Nat → Nat} {k : Nat → ClassId} {n : Nat} {x0 xz : bq_S} (h : fX2_trace n 42 8 x0 = some xz) : bq_M l D bq_cl (bq_ty k) (bq_wC a k) yX2_trace cX2_trace 6 none { frames := 4, cells := 0, slots := 0, locals := 92 } [.ref (a 27), .ref (a 42)] x0 none xz := by
  refine bq_ofWv RX2 [(0, .ref (a 27)), (1, .ref (a 42))] (by decide +kernel) rfl (Nat.le_of_ble_eq_true rfl) rfl (bq_adC a k) ?_
  intro p e s m below meth c A Q ls S hK hD hA hR hS hP hl
  have hx := S.1; have hb := S.2.1; have hml := S.2.2.1; have hown := S.2.2.2.1; have hts := S.2.2.2.2
  have hret : ∀ z, some z = some xz → xz = z := fun z h => (Option.some.inj h).symm
  unfold fX2_trace at h
  refine lv_aload_n hx hb dX2_trace_0 rfl (lv_at hl 0 rfl) ?_
  refine bq_get (q0 := 27) S hK hP fl_X2_46_X2_4 rfl rfl rfl dX2_trace_1 ?_
  obtain ⟨o1, ho1, h⟩ := Option.bind_eq_some_iff.mp h
  obtain ⟨v3, x2⟩ := o1
  replace h := un2_e h
  refine bq_callSNi (As := [.int _]) S hK hD hA hP hS (cX9_bit_k ho1) hd_yX9_bit mn_X2_49 st_yX9_bit ⟨rfl, rfl⟩ ⟨by decide, by decide⟩ rfl hl.1 rfl (Nat.le_of_ble_eq_true rfl) ⟨Nat.zero_le _, Nat.zero_le _⟩ dX2_trace_4 (fun H locs hP hS => ?_)
  refine lv_istore_n (lv' := [(2, .int v3), (0, .ref (a 27)), (1, .ref (a 42))]) hx hb dX2_trace_7 rfl hl (by decide) rfl (fun ls hl => ?_)
  refine lv_aload_n hx hb dX2_trace_8 rfl (lv_at hl 2 rfl) ?_
  refine lv_iconst (v := (0 : Int32)) hx hb dX2_trace_9 (by decide) ?_
  refine lv_aload_n hx hb dX2_trace_10 rfl (lv_at hl 1 rfl) ?_
  refine bq_get (q0 := 27) S hK hP fl_X2_46_X2_4 rfl rfl rfl dX2_trace_11 ?_
  obtain ⟨g5, h⟩ := bq_gd h
  obtain ⟨x4, hx4, h⟩ := bq_b h
  refine bq_iast (x1 := x4) (q0 := 42) (t0 := 0) S hK hD hP hS rfl rfl g5 (by rw [hx4]; rfl) dX2_trace_14 (fun H locs hP hS => ?_)
  refine lv_iconst (v := (1 : Int32)) hx hb dX2_trace_15 (by decide) ?_
  refine lv_istore_n (lv' := [(3, .int (1 : Int32)), (2, .int v3), (0, .ref (a 27)), (1, .ref (a 42))]) hx hb dX2_trace_16 rfl hl (by decide) rfl (fun ls hl => ?_)
  have hl17 : ∀ (kf : Nat) (v8 : Int32) (v9 : Int32) (x10 : bq_S) (eo : Int32 × Int32 × bq_S) (H : Heap) (locs : List Loc) (ls : Array Slot), wh kf (fX2_trace_b17 n 42 8) (v8, v9, x10) = some eo → va_P D bq_cl (bq_wC a k x10) H → va_S A s.heap H locs → lv_has ls 6 [(0, .ref (a 27)), (1, .ref (a 42)), (2, .int v8), (3, .int v9)] → (∀ (H : Heap) (locs : List Loc) (ls : Array Slot) (v50 : Int32) (v51 : Int32) (x52 : bq_S), eo = (v50, v51, x52) → va_P D bq_cl (bq_wC a k x52) H → va_S A s.heap H locs → lv_has ls 6 [] → W p l e { frames := 4, cells := 0, slots := 0, locals := 92 } s m [.ref (a 27), .ref (a 42)].toArray below meth c H locs 0 0 Q (F0 m 106 ls [])) → W p l e { frames := 4, cells := 0, slots := 0, locals := 92 } s m [.ref (a 27), .ref (a 42)].toArray below meth c H locs 0 0 Q (F0 m 17 ls []) := by
    intro  kf
    induction kf with
    | zero => intro v8 v9 x10 eo H locs ls h; cases h
    | succ kf ih =>
      intro v8 v9 x10 eo H locs ls h hP hS hl kx
      obtain ⟨out, h, hw⟩ := wh_s h
      unfold fX2_trace_b17 at h
      replace h := un3_e h
      have hj91 : ∀ (v40 : Int32) (v41 : Int32) (x42 : bq_S) (H : Heap) (locs : List Loc) (ls : Array Slot), fX2_trace_j91 n 42 8 v40 v41 x42 = some out → va_P D bq_cl (bq_wC a k x42) H → va_S A s.heap H locs → lv_has ls 6 [(0, .ref (a 27)), (1, .ref (a 42)), (2, .int v40), (3, .int v41)] → W p l e { frames := 4, cells := 0, slots := 0, locals := 92 } s m [.ref (a 27), .ref (a 42)].toArray below meth c H locs 0 0 Q (F0 m 91 ls []) := by
        intro v40 v41 x42 H locs ls h hP hS hl
        unfold fX2_trace_j91 at h
        refine lv_iload_n hx hb dX2_trace_91 rfl (lv_at hl 2 rfl) ?_
        refine lv_aload_n hx hb dX2_trace_92 rfl (lv_at hl 1 rfl) ?_
        refine lv_iload_n hx hb dX2_trace_93 rfl (lv_at hl 3 rfl) ?_
        obtain ⟨g43, h⟩ := bq_gd h
        refine va_iald (D := D) hx hb hK hP 42 0 rfl rfl g43 dX2_trace_94 ?_
        obtain ⟨o44, ho44, h⟩ := Option.bind_eq_some_iff.mp h
        obtain ⟨v46, x45⟩ := o44
        replace h := un2_e h
        refine bq_callSNi (As := [.int _]) S hK hD hA hP hS (cX9_bit_k ho44) hd_yX9_bit mn_X2_49 st_yX9_bit ⟨rfl, rfl⟩ ⟨by decide, by decide⟩ rfl hl.1 rfl (Nat.le_of_ble_eq_true rfl) ⟨Nat.zero_le _, Nat.zero_le _⟩ dX2_trace_95 (fun H locs hP hS => ?_)
        refine lv_ior hx hb dX2_trace_98 ?_
        refine lv_topi (fun v47 hv47 => ?_)
        replace h := bq_bv h hv47
        refine lv_istore_n (lv' := [(2, .int v47), (0, .ref (a 27)), (1, .ref (a 42)), (3, .int v41)]) hx hb dX2_trace_99 rfl hl (by decide) rfl (fun ls hl => ?_)
        obtain ⟨v48, hv48, h⟩ := bq_b h
        refine lv_iinc (v := v48) (lv' := [(3, .int v48), (2, .int v47), (0, .ref (a 27)), (1, .ref (a 42))]) hx hb dX2_trace_100 hl (k := 3) rfl (by rw [hv48]; rfl) (by decide) rfl (fun ls hl => ?_)
        refine lv_goto (tgt := 17) hx hb dX2_trace_103 (by decide) ?_
        cases h
        exact ih _ _ _ _ _ _ _ hw hP hS (lv_sub hl [2, 3, 1, 0] rfl) kx
      refine lv_iload_n hx hb dX2_trace_17 rfl (lv_at hl 3 rfl) ?_
      refine lv_aload_n hx hb dX2_trace_18 rfl (lv_at hl 0 rfl) ?_
      refine bq_get (q0 := 27) S hK hP fl_X2_52_X2_3 rfl rfl rfl dX2_trace_19 ?_
      refine lv_icmp_ge (tgt := 106) hx hb dX2_trace_22 (by decide) (fun c11 => ?_) (fun c11 => ?_)
      · replace h := (if_pos c11).symm.trans h
        cases h
        exact kx _ _ _ _ _ _ (Option.some.inj hw).symm hP hS (lv_sub hl [] rfl)
      · replace h := (if_neg c11).symm.trans h
        refine lv_aload_n hx hb dX2_trace_25 rfl (lv_at hl 1 rfl) ?_
        refine lv_iload_n hx hb dX2_trace_26 rfl (lv_at hl 3 rfl) ?_
        refine lv_iconst (v := (1 : Int32)) hx hb dX2_trace_27 (by decide) ?_
        refine lv_isub hx hb dX2_trace_28 ?_
        obtain ⟨g12, h⟩ := bq_gd h
        refine va_iald (D := D) hx hb hK hP 42 0 rfl rfl g12 dX2_trace_29 ?_
        refine lv_topi (fun v13 hv13 => ?_)
        replace h := bq_bv h hv13
        refine lv_istore (lv' := [(4, .int v13), (0, .ref (a 27)), (1, .ref (a 42)), (2, .int v8), (3, .int v9)]) hx hb dX2_trace_30 hl (by decide) rfl (fun ls hl => ?_)
        refine lv_iconst (v := (0 : Int32)) hx hb dX2_trace_32 (by decide) ?_
        refine lv_istore (lv' := [(5, .int (0 : Int32)), (4, .int v13), (0, .ref (a 27)), (1, .ref (a 42)), (2, .int v8), (3, .int v9)]) hx hb dX2_trace_33 hl (by decide) rfl (fun ls hl => ?_)
        have hl35 : ∀ (v16 : Int32) (v17 : Int32) (v18 : Int32) (kf : Nat) (v19 : Int32) (x20 : bq_S) (eo : Int32 × bq_S) (H : Heap) (locs : List Loc) (ls : Array Slot), wh kf (fX2_trace_b35 n 42 8 v16 v17 v18) (v19, x20) = some eo → va_P D bq_cl (bq_wC a k x20) H → va_S A s.heap H locs → lv_has ls 6 [(0, .ref (a 27)), (1, .ref (a 42)), (2, .int v16), (3, .int v17), (4, .int v18), (5, .int v19)] → (∀ (H : Heap) (locs : List Loc) (ls : Array Slot) (v38 : Int32) (x39 : bq_S), eo = (v38, x39) → va_P D bq_cl (bq_wC a k x39) H → va_S A s.heap H locs → lv_has ls 6 [(0, .ref (a 27)), (1, .ref (a 42)), (2, .int v16), (3, .int v17)] → W p l e { frames := 4, cells := 0, slots := 0, locals := 92 } s m [.ref (a 27), .ref (a 42)].toArray below meth c H locs 0 0 Q (F0 m 91 ls [])) → W p l e { frames := 4, cells := 0, slots := 0, locals := 92 } s m [.ref (a 27), .ref (a 42)].toArray below meth c H locs 0 0 Q (F0 m 35 ls []) := by
          intro v16 v17 v18 kf
          induction kf with
          | zero => intro v19 x20 eo H locs ls h; cases h
          | succ kf ih =>
            intro v19 x20 eo H locs ls h hP hS hl kx
            obtain ⟨out, h, hw⟩ := wh_s h
            unfold fX2_trace_b35 at h
            replace h := un2_e h
            refine lv_iload hx hb dX2_trace_35 (lv_at hl 5 rfl) ?_
            refine lv_bipush (v := (8 : Int32)) hx hb dX2_trace_37 (by decide) ?_
            refine lv_icmp_ge (tgt := 91) hx hb dX2_trace_39 (by decide) (fun c21 => ?_) (fun c21 => ?_)
            · replace h := (if_pos c21).symm.trans h
              cases h
              exact kx _ _ _ _ _ (Option.some.inj hw).symm hP hS (lv_sub hl [0, 1, 2, 3] rfl)
            · replace h := (if_neg c21).symm.trans h
              refine lv_aload_n hx hb dX2_trace_42 rfl (lv_at hl 0 rfl) ?_
              refine bq_get (q0 := 27) S hK hP fl_X2_31_X2_2 rfl rfl rfl dX2_trace_43 ?_
              refine lv_iload_n hx hb dX2_trace_46 rfl (lv_at hl 2 rfl) ?_
              refine lv_iconst (v := (-1 : Int32)) hx hb dX2_trace_47 (by decide) ?_
              refine lv_ixor hx hb dX2_trace_48 ?_
              refine lv_iand hx hb dX2_trace_49 ?_
              refine lv_iload hx hb dX2_trace_50 (lv_at hl 5 rfl) ?_
              obtain ⟨o22, ho22, h⟩ := Option.bind_eq_some_iff.mp h
              obtain ⟨v24, x23⟩ := o22
              replace h := un2_e h
              refine bq_callSNi (As := [.int _, .int _]) S hK hD hA hP hS (cX9_has_k ho22) hd_yX9_has mn_X2_35 st_yX9_has ⟨rfl, rfl⟩ ⟨by decide, by decide⟩ rfl hl.1 rfl (Nat.le_of_ble_eq_true rfl) ⟨Nat.zero_le _, Nat.zero_le _⟩ dX2_trace_52 (fun H locs hP hS => ?_)
              refine lv_if_eq (tgt := 85) hx hb dX2_trace_55 (by decide) (fun c25 => ?_) (fun c25 => ?_)
              · replace h := (if_pos c25).symm.trans h
                obtain ⟨v26, hv26, h⟩ := bq_b h
                refine lv_iinc (v := v26) (lv' := [(5, .int v26), (0, .ref (a 27)), (1, .ref (a 42)), (2, .int v16), (3, .int v17), (4, .int v18)]) hx hb dX2_trace_85 hl (k := 5) rfl (by rw [hv26]; rfl) (by decide) rfl (fun ls hl => ?_)
                refine lv_goto (tgt := 35) hx hb dX2_trace_88 (by decide) ?_
                cases h
                exact ih _ _ _ _ _ _ hw hP hS (lv_sub hl [1, 2, 3, 4, 5, 0] rfl) kx
              · replace h := (if_neg c25).symm.trans h
                refine lv_aload_n hx hb dX2_trace_58 rfl (lv_at hl 0 rfl) ?_
                refine lv_iload_n hx hb dX2_trace_59 rfl (lv_at hl 2 rfl) ?_
                refine lv_iload hx hb dX2_trace_60 (lv_at hl 4 rfl) ?_
                refine lv_iload hx hb dX2_trace_62 (lv_at hl 5 rfl) ?_
                obtain ⟨o27, ho27, h⟩ := Option.bind_eq_some_iff.mp h
                obtain ⟨v29, x28⟩ := o27
                replace h := un2_e h
                refine bq_callUi (q0 := 27) (owner := "BesideQuotes$Ways") (As := [.int _, .int _, .int _]) S hK hD hA hP hS (cX8X2_onBy_k_27 ho27) hd_yX8_onBy ml_X2_55 in_yX8_onBy (hts _ sl_X2_X2_yX8_onBy) sm_X2_onBy dc_X8_onBy (by decide +kernel) ⟨rfl, rfl⟩ ⟨by decide, by decide⟩ rfl rfl rfl hl.1 rfl (Nat.le_of_ble_eq_true rfl) ⟨Nat.zero_le _, Nat.zero_le _⟩ dX2_trace_64 (fun H locs hP hS => ?_)
                refine lv_aload_n hx hb dX2_trace_67 rfl (lv_at hl 0 rfl) ?_
                refine lv_iload_n hx hb dX2_trace_68 rfl (lv_at hl 2 rfl) ?_
                refine lv_iload hx hb dX2_trace_69 (lv_at hl 4 rfl) ?_
                obtain ⟨o30, ho30, h⟩ := Option.bind_eq_some_iff.mp h
                obtain ⟨v32, x31⟩ := o30
                replace h := un2_e h
                refine bq_callUi (q0 := 27) (owner := "BesideQuotes$Ways") (As := [.int _, .int _]) S hK hD hA hP hS (cX8X2_told_k_27 ho30) hd_yX8_told ml_X2_59 in_yX8_told (hts _ sl_X2_X2_yX8_told) sm_X2_told dc_X8_told (by decide +kernel) ⟨rfl, rfl⟩ ⟨by decide, by decide⟩ rfl rfl rfl hl.1 rfl (Nat.le_of_ble_eq_true rfl) ⟨Nat.zero_le _, Nat.zero_le _⟩ dX2_trace_71 (fun H locs hP hS => ?_)
                refine lv_icmp_ne (tgt := 85) hx hb dX2_trace_74 (by decide) (fun c33 => ?_) (fun c33 => ?_)
                · replace h := (if_neg c33).symm.trans h
                  obtain ⟨v34, hv34, h⟩ := bq_b h
                  refine lv_iinc (v := v34) (lv' := [(5, .int v34), (0, .ref (a 27)), (1, .ref (a 42)), (2, .int v16), (3, .int v17), (4, .int v18)]) hx hb dX2_trace_85 hl (k := 5) rfl (by rw [hv34]; rfl) (by decide) rfl (fun ls hl => ?_)
                  refine lv_goto (tgt := 35) hx hb dX2_trace_88 (by decide) ?_
                  cases h
                  exact ih _ _ _ _ _ _ hw hP hS (lv_sub hl [1, 2, 3, 4, 5, 0] rfl) kx
                · replace h := (if_pos c33).symm.trans h
                  refine lv_aload_n hx hb dX2_trace_77 rfl (lv_at hl 1 rfl) ?_
                  refine lv_iload_n hx hb dX2_trace_78 rfl (lv_at hl 3 rfl) ?_
                  refine lv_iload hx hb dX2_trace_79 (lv_at hl 5 rfl) ?_
                  obtain ⟨g36, h⟩ := bq_gd h
                  obtain ⟨x35, hx35, h⟩ := bq_b h
                  refine bq_iast (x1 := x35) (q0 := 42) (t0 := 0) S hK hD hP hS rfl rfl g36 (by rw [hx35]; rfl) dX2_trace_81 (fun H locs hP hS => ?_)
                  refine lv_goto (tgt := 91) hx hb dX2_trace_82 (by decide) ?_
                  cases h
                  exact kx _ _ _ _ _ (Option.some.inj hw).symm hP hS (lv_sub hl [0, 1, 2, 3] rfl)
        obtain ⟨e37, he37, h⟩ := Option.bind_eq_some_iff.mp h
        refine hl35 _ _ _ n _ _ e37 _ _ _ he37 hP hS (lv_sub hl [2, 3, 4, 5, 1, 0] rfl) (fun H locs ls v38 x39 hz hP hS hl => ?_)
        subst hz
        replace h := un2_e h
        exact hj91 _ _ _ _ _ _ h hP hS (lv_sub hl [0, 1, 2, 3] rfl)
  obtain ⟨e49, he49, h⟩ := Option.bind_eq_some_iff.mp h
  refine hl17 n _ _ _ e49 _ _ _ he49 hP hS (lv_sub hl [2, 3, 1, 0] rfl) (fun H locs ls v50 v51 x52 hz hP hS hl => ?_)
  subst hz
  replace h := un3_e h
  have e2 := hret _ h
  exact hR _ _ _ _ rfl (by rw [e2]; exact hP) hS dX2_trace_106
def fX2_fewest_b29 (n : Nat) (r9 : Nat) (lb10 : Nat) (v : Int32 × Int32 × Int32 × bq_S) : Option ((Int32 × Int32 × Int32 × bq_S) ⊕ (Int32 × Int32 × Int32 × bq_S)) :=
  un4 v (fun v11 v12 v13 x14 =>
  if (8 : Int32) ≤ v13 then
  some (.inr (v11, v12, v13, x14))
  else
  (fX9_has (x14.1 27 2) v13 x14).bind (fun o16 => un2 o16 (fun v18 x17 =>
  if v18 = 0 then
  bd (v13 + (1 : Int32)) (fun v20 =>
  some (.inl (v11, v12, v20, x17)))
  else
  (fX8X2_from n v13 x17).bind (fun o21 => un2 o21 (fun v23 x22 =>
  if v11 ≤ v23 then
  bd (v13 + (1 : Int32)) (fun v25 =>
  some (.inl (v11, v12, v25, x22)))
  else
  bd (v13 + (1 : Int32)) (fun v26 =>
  some (.inl (v23, v13, v26, x22))))))))
def fX2_fewest (n : Nat) (p1 : Int32) (q2 : Nat) (la2 : Nat) (x0 : bq_S) : Option (Int32 × bq_S) :=
  (fJ6_bitCount p1 x0).bind (fun o1 => un2 o1 (fun v3 x2 =>
  (fX4_closes 1 v3 x2).bind (fun o4 => un2 o4 (fun v6 x5 =>
  (fX8X2_ask p1 v3 v6 x5).bind (fun x8 =>
  (wh n (fX2_fewest_b29 n q2 la2) ((99 : Int32), (-1 : Int32), (0 : Int32), x8)).bind (fun e27 => un4 e27 (fun v28 v29 v30 x31 =>
  if v29 = (-1 : Int32) then
  some (v28, x31)
  else
  (fX8X2_from n v29 x31).bind (fun o33 => un2 o33 (fun v35 x34 =>
  (fX2_trace n q2 la2 x34).bind (fun x37 =>
  some (v28, x37)))))))))))
theorem dX2_fewest_0 : decode cX2_fewest 0 = .ok (.iload_n 1, 1) := by decide +kernel
theorem dX2_fewest_1 : decode cX2_fewest 1 = .ok (.invokestatic 9, 3) := by decide +kernel
theorem dX2_fewest_4 : decode cX2_fewest 4 = .ok (.istore_n 3, 1) := by decide +kernel
theorem dX2_fewest_5 : decode cX2_fewest 5 = .ok (.aload_n 0, 1) := by decide +kernel
theorem dX2_fewest_6 : decode cX2_fewest 6 = .ok (.iload_n 1, 1) := by decide +kernel
theorem dX2_fewest_7 : decode cX2_fewest 7 = .ok (.iload_n 3, 1) := by decide +kernel
theorem dX2_fewest_8 : decode cX2_fewest 8 = .ok (.aload_n 0, 1) := by decide +kernel
theorem dX2_fewest_9 : decode cX2_fewest 9 = .ok (.getfield 15, 3) := by decide +kernel
theorem dX2_fewest_12 : decode cX2_fewest 12 = .ok (.iload_n 3, 1) := by decide +kernel
theorem dX2_fewest_13 : decode cX2_fewest 13 = .ok (.invokevirtual 21, 3) := by decide +kernel
theorem dX2_fewest_16 : decode cX2_fewest 16 = .ok (.invokevirtual 27, 3) := by decide +kernel
theorem dX2_fewest_19 : decode cX2_fewest 19 = .ok (.bipush 99, 2) := by decide +kernel
theorem dX2_fewest_21 : decode cX2_fewest 21 = .ok (.istore 4, 2) := by decide +kernel
theorem dX2_fewest_23 : decode cX2_fewest 23 = .ok (.iconst (-1), 1) := by decide +kernel
theorem dX2_fewest_24 : decode cX2_fewest 24 = .ok (.istore 5, 2) := by decide +kernel
theorem dX2_fewest_26 : decode cX2_fewest 26 = .ok (.iconst 0, 1) := by decide +kernel
theorem dX2_fewest_27 : decode cX2_fewest 27 = .ok (.istore 6, 2) := by decide +kernel
theorem dX2_fewest_29 : decode cX2_fewest 29 = .ok (.iload 6, 2) := by decide +kernel
theorem dX2_fewest_31 : decode cX2_fewest 31 = .ok (.bipush 8, 2) := by decide +kernel
theorem dX2_fewest_33 : decode cX2_fewest 33 = .ok (.if_icmp .ge 44, 3) := by decide +kernel
theorem dX2_fewest_36 : decode cX2_fewest 36 = .ok (.aload_n 0, 1) := by decide +kernel
theorem dX2_fewest_37 : decode cX2_fewest 37 = .ok (.getfield 31, 3) := by decide +kernel
theorem dX2_fewest_40 : decode cX2_fewest 40 = .ok (.iload 6, 2) := by decide +kernel
theorem dX2_fewest_42 : decode cX2_fewest 42 = .ok (.invokestatic 35, 3) := by decide +kernel
theorem dX2_fewest_45 : decode cX2_fewest 45 = .ok (.ifCond .eq 26, 3) := by decide +kernel
theorem dX2_fewest_48 : decode cX2_fewest 48 = .ok (.aload_n 0, 1) := by decide +kernel
theorem dX2_fewest_49 : decode cX2_fewest 49 = .ok (.iload 6, 2) := by decide +kernel
theorem dX2_fewest_51 : decode cX2_fewest 51 = .ok (.invokevirtual 39, 3) := by decide +kernel
theorem dX2_fewest_54 : decode cX2_fewest 54 = .ok (.istore 7, 2) := by decide +kernel
theorem dX2_fewest_56 : decode cX2_fewest 56 = .ok (.iload 7, 2) := by decide +kernel
theorem dX2_fewest_58 : decode cX2_fewest 58 = .ok (.iload 4, 2) := by decide +kernel
theorem dX2_fewest_60 : decode cX2_fewest 60 = .ok (.if_icmp .ge 11, 3) := by decide +kernel
theorem dX2_fewest_63 : decode cX2_fewest 63 = .ok (.iload 7, 2) := by decide +kernel
theorem dX2_fewest_65 : decode cX2_fewest 65 = .ok (.istore 4, 2) := by decide +kernel
theorem dX2_fewest_67 : decode cX2_fewest 67 = .ok (.iload 6, 2) := by decide +kernel
theorem dX2_fewest_69 : decode cX2_fewest 69 = .ok (.istore 5, 2) := by decide +kernel
theorem dX2_fewest_71 : decode cX2_fewest 71 = .ok (.iinc 6 1, 3) := by decide +kernel
theorem dX2_fewest_74 : decode cX2_fewest 74 = .ok (.goto (-45), 3) := by decide +kernel
theorem dX2_fewest_77 : decode cX2_fewest 77 = .ok (.iload 5, 2) := by decide +kernel
theorem dX2_fewest_79 : decode cX2_fewest 79 = .ok (.iconst (-1), 1) := by decide +kernel
theorem dX2_fewest_80 : decode cX2_fewest 80 = .ok (.if_icmp .eq 15, 3) := by decide +kernel
theorem dX2_fewest_83 : decode cX2_fewest 83 = .ok (.aload_n 0, 1) := by decide +kernel
theorem dX2_fewest_84 : decode cX2_fewest 84 = .ok (.iload 5, 2) := by decide +kernel
theorem dX2_fewest_86 : decode cX2_fewest 86 = .ok (.invokevirtual 39, 3) := by decide +kernel
theorem dX2_fewest_89 : decode cX2_fewest 89 = .ok (.pop, 1) := by decide +kernel
theorem dX2_fewest_90 : decode cX2_fewest 90 = .ok (.aload_n 0, 1) := by decide +kernel
theorem dX2_fewest_91 : decode cX2_fewest 91 = .ok (.aload_n 2, 1) := by decide +kernel
theorem dX2_fewest_92 : decode cX2_fewest 92 = .ok (.invokevirtual 42, 3) := by decide +kernel
theorem dX2_fewest_95 : decode cX2_fewest 95 = .ok (.iload 4, 2) := by decide +kernel
theorem dX2_fewest_97 : decode cX2_fewest 97 = .ok (.ireturn, 1) := by decide +kernel
set_option maxHeartbeats 4000000 in
set_option maxRecDepth 100000 in
theorem cX2_fewest_k_27_42 {l : Launch} {D : va_G} {a : Nat → Nat} {k : Nat → ClassId} {n : Nat} {p1 : Int32} {x0 xz : bq_S} {rz : Int32} (h : fX2_fewest n p1 42 8 x0 = some (rz, xz)) : bq_M l D bq_cl (bq_ty k) (bq_wC a k) yX2_fewest cX2_fewest 8 (some .int) { frames := 5, cells := 0, slots := 0, locals := 117 } [.ref (a 27), .int p1, .ref (a 42)] x0 (some rz) xz := by
  refine bq_ofW RX2 [(0, .ref (a 27)), (1, .int p1), (2, .ref (a 42))] (by decide +kernel) rfl (Nat.le_of_ble_eq_true rfl) rfl (bq_adC a k) ?_
  intro p e s m below meth c A Q ls S hK hD hA hR hS hP hl
  have hx := S.1; have hb := S.2.1; have hml := S.2.2.1; have hown := S.2.2.2.1; have hts := S.2.2.2.2
  have hret : ∀ z, some z = some (rz, xz) → (rz, xz) = z := fun z h => (Option.some.inj h).symm
  unfold fX2_fewest at h
  refine lv_iload_n hx hb dX2_fewest_0 rfl (lv_at hl 1 rfl) ?_
  obtain ⟨o1, ho1, h⟩ := Option.bind_eq_some_iff.mp h
  obtain ⟨v3, x2⟩ := o1
  replace h := un2_e h
  refine bq_callSi (As := [.int _]) S hK hD hA hP hS (cJ6_bitCount_k ho1) hd_yJ6_bitCount_0f7a4 ml_X2_9 st_yJ6_bitCount_0f7a4 ⟨rfl, rfl⟩ ⟨by decide, by decide⟩ rfl hl.1 rfl (Nat.le_of_ble_eq_true rfl) ⟨Nat.zero_le _, Nat.zero_le _⟩ dX2_fewest_1 (fun H locs hP hS => ?_)
  refine lv_istore_n (lv' := [(3, .int v3), (0, .ref (a 27)), (1, .int p1), (2, .ref (a 42))]) hx hb dX2_fewest_4 rfl hl (by decide) rfl (fun ls hl => ?_)
  refine lv_aload_n hx hb dX2_fewest_5 rfl (lv_at hl 1 rfl) ?_
  refine lv_iload_n hx hb dX2_fewest_6 rfl (lv_at hl 2 rfl) ?_
  refine lv_iload_n hx hb dX2_fewest_7 rfl (lv_at hl 0 rfl) ?_
  refine lv_aload_n hx hb dX2_fewest_8 rfl (lv_at hl 1 rfl) ?_
  refine bq_get (q0 := 27) S hK hP fl_X2_15_X2_0 rfl rfl rfl dX2_fewest_9 ?_
  refine lv_iload_n hx hb dX2_fewest_12 rfl (lv_at hl 0 rfl) ?_
  obtain ⟨o4, ho4, h⟩ := Option.bind_eq_some_iff.mp h
  obtain ⟨v6, x5⟩ := o4
  replace h := un2_e h
  refine bq_callVi (q0 := 1) (As := [.int _]) S hK hD hA hP hS (cX4_closes_k_1 ho4) hd_yX4_closes ml_X2_21 in_yX4_closes (hts _ sl_X4_X4_yX4_closes) ⟨rfl, rfl⟩ ⟨by decide, by decide⟩ rfl rfl rfl hl.1 rfl (Nat.le_of_ble_eq_true rfl) ⟨Nat.zero_le _, Nat.zero_le _⟩ dX2_fewest_13 (fun H locs hP hS => ?_)
  obtain ⟨x8, ho7, h⟩ := Option.bind_eq_some_iff.mp h
  refine bq_callUv (q0 := 27) (owner := "BesideQuotes$Ways") (As := [.int _, .int _, .int _]) S hK hD hA hP hS (cX8X2_ask_k_27 ho7) hd_yX8_ask ml_X2_27 in_yX8_ask (hts _ sl_X2_X2_yX8_ask) sm_X2_ask dc_X8_ask (by decide +kernel) ⟨rfl, rfl⟩ ⟨by decide, by decide⟩ rfl rfl rfl hl.1 rfl (Nat.le_of_ble_eq_true rfl) ⟨Nat.zero_le _, Nat.zero_le _⟩ dX2_fewest_16 (fun H locs hP hS => ?_)
  refine lv_bipush (v := (99 : Int32)) hx hb dX2_fewest_19 (by decide) ?_
  refine lv_istore (lv' := [(4, .int (99 : Int32)), (3, .int v3), (0, .ref (a 27)), (1, .int p1), (2, .ref (a 42))]) hx hb dX2_fewest_21 hl (by decide) rfl (fun ls hl => ?_)
  refine lv_iconst (v := (-1 : Int32)) hx hb dX2_fewest_23 (by decide) ?_
  refine lv_istore (lv' := [(5, .int (-1 : Int32)), (4, .int (99 : Int32)), (3, .int v3), (0, .ref (a 27)), (1, .int p1), (2, .ref (a 42))]) hx hb dX2_fewest_24 hl (by decide) rfl (fun ls hl => ?_)
  refine lv_iconst (v := (0 : Int32)) hx hb dX2_fewest_26 (by decide) ?_
  refine lv_istore (lv' := [(6, .int (0 : Int32)), (5, .int (-1 : Int32)), (4, .int (99 : Int32)), (3, .int v3), (0, .ref (a 27)), (1, .int p1), (2, .ref (a 42))]) hx hb dX2_fewest_27 hl (by decide) rfl (fun ls hl => ?_)
  have hl29 : ∀ (kf : Nat) (v11 : Int32) (v12 : Int32) (v13 : Int32) (x14 : bq_S) (eo : Int32 × Int32 × Int32 × bq_S) (H : Heap) (locs : List Loc) (ls : Array Slot), wh kf (fX2_fewest_b29 n 42 8) (v11, v12, v13, x14) = some eo → va_P D bq_cl (bq_wC a k x14) H → va_S A s.heap H locs → lv_has ls 8 [(0, .ref (a 27)), (2, .ref (a 42)), (4, .int v11), (5, .int v12), (6, .int v13)] → (∀ (H : Heap) (locs : List Loc) (ls : Array Slot) (v28 : Int32) (v29 : Int32) (v30 : Int32) (x31 : bq_S), eo = (v28, v29, v30, x31) → va_P D bq_cl (bq_wC a k x31) H → va_S A s.heap H locs → lv_has ls 8 [(0, .ref (a 27)), (2, .ref (a 42)), (4, .int v28), (5, .int v29)] → W p l e { frames := 5, cells := 0, slots := 0, locals := 117 } s m [.ref (a 27), .int p1, .ref (a 42)].toArray below meth c H locs 0 0 Q (F0 m 77 ls [])) → W p l e { frames := 5, cells := 0, slots := 0, locals := 117 } s m [.ref (a 27), .int p1, .ref (a 42)].toArray below meth c H locs 0 0 Q (F0 m 29 ls []) := by
    intro  kf
    induction kf with
    | zero => intro v11 v12 v13 x14 eo H locs ls h; cases h
    | succ kf ih =>
      intro v11 v12 v13 x14 eo H locs ls h hP hS hl kx
      obtain ⟨out, h, hw⟩ := wh_s h
      unfold fX2_fewest_b29 at h
      replace h := un4_e h
      refine lv_iload hx hb dX2_fewest_29 (lv_at hl 4 rfl) ?_
      refine lv_bipush (v := (8 : Int32)) hx hb dX2_fewest_31 (by decide) ?_
      refine lv_icmp_ge (tgt := 77) hx hb dX2_fewest_33 (by decide) (fun c15 => ?_) (fun c15 => ?_)
      · replace h := (if_pos c15).symm.trans h
        cases h
        exact kx _ _ _ _ _ _ _ (Option.some.inj hw).symm hP hS (lv_sub hl [0, 1, 2, 3] rfl)
      · replace h := (if_neg c15).symm.trans h
        refine lv_aload_n hx hb dX2_fewest_36 rfl (lv_at hl 0 rfl) ?_
        refine bq_get (q0 := 27) S hK hP fl_X2_31_X2_2 rfl rfl rfl dX2_fewest_37 ?_
        refine lv_iload hx hb dX2_fewest_40 (lv_at hl 4 rfl) ?_
        obtain ⟨o16, ho16, h⟩ := Option.bind_eq_some_iff.mp h
        obtain ⟨v18, x17⟩ := o16
        replace h := un2_e h
        refine bq_callSNi (As := [.int _, .int _]) S hK hD hA hP hS (cX9_has_k ho16) hd_yX9_has mn_X2_35 st_yX9_has ⟨rfl, rfl⟩ ⟨by decide, by decide⟩ rfl hl.1 rfl (Nat.le_of_ble_eq_true rfl) ⟨Nat.zero_le _, Nat.zero_le _⟩ dX2_fewest_42 (fun H locs hP hS => ?_)
        refine lv_if_eq (tgt := 71) hx hb dX2_fewest_45 (by decide) (fun c19 => ?_) (fun c19 => ?_)
        · replace h := (if_pos c19).symm.trans h
          obtain ⟨v20, hv20, h⟩ := bq_b h
          refine lv_iinc (v := v20) (lv' := [(6, .int v20), (0, .ref (a 27)), (2, .ref (a 42)), (4, .int v11), (5, .int v12)]) hx hb dX2_fewest_71 hl (k := 4) rfl (by rw [hv20]; rfl) (by decide) rfl (fun ls hl => ?_)
          refine lv_goto (tgt := 29) hx hb dX2_fewest_74 (by decide) ?_
          cases h
          exact ih _ _ _ _ _ _ _ _ hw hP hS (lv_sub hl [1, 2, 3, 4, 0] rfl) kx
        · replace h := (if_neg c19).symm.trans h
          refine lv_aload_n hx hb dX2_fewest_48 rfl (lv_at hl 0 rfl) ?_
          refine lv_iload hx hb dX2_fewest_49 (lv_at hl 4 rfl) ?_
          obtain ⟨o21, ho21, h⟩ := Option.bind_eq_some_iff.mp h
          obtain ⟨v23, x22⟩ := o21
          replace h := un2_e h
          refine bq_callUi (q0 := 27) (owner := "BesideQuotes$Ways") (As := [.int _]) S hK hD hA hP hS (cX8X2_from_k_27 ho21) hd_yX8_from ml_X2_39 in_yX8_from (hts _ sl_X2_X2_yX8_from) sm_X2_from dc_X8_from (by decide +kernel) ⟨rfl, rfl⟩ ⟨by decide, by decide⟩ rfl rfl rfl hl.1 rfl (Nat.le_of_ble_eq_true rfl) ⟨Nat.zero_le _, Nat.zero_le _⟩ dX2_fewest_51 (fun H locs hP hS => ?_)
          refine lv_istore (lv' := [(7, .int v23), (0, .ref (a 27)), (2, .ref (a 42)), (4, .int v11), (5, .int v12), (6, .int v13)]) hx hb dX2_fewest_54 hl (by decide) rfl (fun ls hl => ?_)
          refine lv_iload hx hb dX2_fewest_56 (lv_at hl 0 rfl) ?_
          refine lv_iload hx hb dX2_fewest_58 (lv_at hl 3 rfl) ?_
          refine lv_icmp_ge (tgt := 71) hx hb dX2_fewest_60 (by decide) (fun c24 => ?_) (fun c24 => ?_)
          · replace h := (if_pos c24).symm.trans h
            obtain ⟨v25, hv25, h⟩ := bq_b h
            refine lv_iinc (v := v25) (lv' := [(6, .int v25), (7, .int v23), (0, .ref (a 27)), (2, .ref (a 42)), (4, .int v11), (5, .int v12)]) hx hb dX2_fewest_71 hl (k := 5) rfl (by rw [hv25]; rfl) (by decide) rfl (fun ls hl => ?_)
            refine lv_goto (tgt := 29) hx hb dX2_fewest_74 (by decide) ?_
            cases h
            exact ih _ _ _ _ _ _ _ _ hw hP hS (lv_sub hl [2, 3, 4, 5, 0] rfl) kx
          · replace h := (if_neg c24).symm.trans h
            refine lv_iload hx hb dX2_fewest_63 (lv_at hl 0 rfl) ?_
            refine lv_istore (lv' := [(4, .int v23), (7, .int v23), (0, .ref (a 27)), (2, .ref (a 42)), (5, .int v12), (6, .int v13)]) hx hb dX2_fewest_65 hl (by decide) rfl (fun ls hl => ?_)
            refine lv_iload hx hb dX2_fewest_67 (lv_at hl 5 rfl) ?_
            refine lv_istore (lv' := [(5, .int v13), (4, .int v23), (7, .int v23), (0, .ref (a 27)), (2, .ref (a 42)), (6, .int v13)]) hx hb dX2_fewest_69 hl (by decide) rfl (fun ls hl => ?_)
            obtain ⟨v26, hv26, h⟩ := bq_b h
            refine lv_iinc (v := v26) (lv' := [(6, .int v26), (5, .int v13), (4, .int v23), (7, .int v23), (0, .ref (a 27)), (2, .ref (a 42))]) hx hb dX2_fewest_71 hl (k := 5) rfl (by rw [hv26]; rfl) (by decide) rfl (fun ls hl => ?_)
            refine lv_goto (tgt := 29) hx hb dX2_fewest_74 (by decide) ?_
            cases h
            exact ih _ _ _ _ _ _ _ _ hw hP hS (lv_sub hl [4, 5, 2, 1, 0] rfl) kx
  obtain ⟨e27, he27, h⟩ := Option.bind_eq_some_iff.mp h
  refine hl29 n _ _ _ _ e27 _ _ _ he27 hP hS (lv_sub hl [4, 6, 2, 1, 0] rfl) (fun H locs ls v28 v29 v30 x31 hz hP hS hl => ?_)
  subst hz
  replace h := un4_e h
  refine lv_iload hx hb dX2_fewest_77 (lv_at hl 3 rfl) ?_
  refine lv_iconst (v := (-1 : Int32)) hx hb dX2_fewest_79 (by decide) ?_
  refine lv_icmp_eq (tgt := 95) hx hb dX2_fewest_80 (by decide) (fun c32 => ?_) (fun c32 => ?_)
  · replace h := (if_pos c32).symm.trans h
    refine lv_iload hx hb dX2_fewest_95 (lv_at hl 2 rfl) ?_
    obtain ⟨e1, e2⟩ := Prod.mk.inj (hret _ h)
    exact hR _ _ _ _ _ (congrArg some e1) rfl (by rw [e2]; exact hP) hS dX2_fewest_97
  · replace h := (if_neg c32).symm.trans h
    refine lv_aload_n hx hb dX2_fewest_83 rfl (lv_at hl 0 rfl) ?_
    refine lv_iload hx hb dX2_fewest_84 (lv_at hl 3 rfl) ?_
    obtain ⟨o33, ho33, h⟩ := Option.bind_eq_some_iff.mp h
    obtain ⟨v35, x34⟩ := o33
    replace h := un2_e h
    refine bq_callUi (q0 := 27) (owner := "BesideQuotes$Ways") (As := [.int _]) S hK hD hA hP hS (cX8X2_from_k_27 ho33) hd_yX8_from ml_X2_39 in_yX8_from (hts _ sl_X2_X2_yX8_from) sm_X2_from dc_X8_from (by decide +kernel) ⟨rfl, rfl⟩ ⟨by decide, by decide⟩ rfl rfl rfl hl.1 rfl (Nat.le_of_ble_eq_true rfl) ⟨Nat.zero_le _, Nat.zero_le _⟩ dX2_fewest_86 (fun H locs hP hS => ?_)
    refine lv_pop hx hb dX2_fewest_89 rfl ?_
    refine lv_aload_n hx hb dX2_fewest_90 rfl (lv_at hl 0 rfl) ?_
    refine lv_aload_n hx hb dX2_fewest_91 rfl (lv_at hl 1 rfl) ?_
    obtain ⟨x37, ho36, h⟩ := Option.bind_eq_some_iff.mp h
    refine bq_callVv (q0 := 27) (As := [.ref (a 42)]) S hK hD hA hP hS (cX2_trace_k_27_42 ho36) hd_yX2_trace ml_X2_42 in_yX2_trace (hts _ sl_X2_X2_yX2_trace) ⟨rfl, rfl⟩ ⟨by decide, by decide⟩ rfl rfl rfl hl.1 rfl (Nat.le_of_ble_eq_true rfl) ⟨Nat.zero_le _, Nat.zero_le _⟩ dX2_fewest_92 (fun H locs hP hS => ?_)
    refine lv_iload hx hb dX2_fewest_95 (lv_at hl 2 rfl) ?_
    obtain ⟨e1, e2⟩ := Prod.mk.inj (hret _ h)
    exact hR _ _ _ _ _ (congrArg some e1) rfl (by rw [e2]; exact hP) hS dX2_fewest_97
def fX9_forged (n : Nat) (p1 : Int32) (p2 : Int32) (x0 : bq_S) : Option (Int32 × bq_S) :=
  (fX4_isSet 1 p1 x0).bind (fun o1 => un2 o1 (fun v3 x2 =>
  if v3 = 0 then
  some ((-1 : Int32), x2)
  else
  if p1 = 0 then
  some ((-1 : Int32), x2)
  else
  if p2 < (-1 : Int32) then
  some ((-1 : Int32), x2)
  else
  (fJ6_bitCount p1 x2).bind (fun o7 => un2 o7 (fun v9 x8 =>
  if p2 < v9 then
  (fX2_fewest n p1 42 8 x8).bind (fun o11 => un2 o11 (fun v13 x12 =>
  if v13 = (99 : Int32) then
  some ((-4 : Int32), x12)
  else
  if p2 = (-1 : Int32) then
  some (v13, x12)
  else
  if ok_i p2 8 then
  some ((x12.1 42 p2.toNatClampNeg), x12)
  else none))
  else
  some ((-1 : Int32), x8)))))
theorem dX9_forged_0 : decode cX9_forged 0 = .ok (.aload_n 0, 1) := by decide +kernel
theorem dX9_forged_1 : decode cX9_forged 1 = .ok (.getfield 10, 3) := by decide +kernel
theorem dX9_forged_4 : decode cX9_forged 4 = .ok (.iload_n 1, 1) := by decide +kernel
theorem dX9_forged_5 : decode cX9_forged 5 = .ok (.invokevirtual 186, 3) := by decide +kernel
theorem dX9_forged_8 : decode cX9_forged 8 = .ok (.ifCond .eq 20, 3) := by decide +kernel
theorem dX9_forged_11 : decode cX9_forged 11 = .ok (.iload_n 1, 1) := by decide +kernel
theorem dX9_forged_12 : decode cX9_forged 12 = .ok (.ifCond .eq 16, 3) := by decide +kernel
theorem dX9_forged_15 : decode cX9_forged 15 = .ok (.iload_n 2, 1) := by decide +kernel
theorem dX9_forged_16 : decode cX9_forged 16 = .ok (.iconst (-1), 1) := by decide +kernel
theorem dX9_forged_17 : decode cX9_forged 17 = .ok (.if_icmp .lt 11, 3) := by decide +kernel
theorem dX9_forged_20 : decode cX9_forged 20 = .ok (.iload_n 2, 1) := by decide +kernel
theorem dX9_forged_21 : decode cX9_forged 21 = .ok (.iload_n 1, 1) := by decide +kernel
theorem dX9_forged_22 : decode cX9_forged 22 = .ok (.invokestatic 196, 3) := by decide +kernel
theorem dX9_forged_25 : decode cX9_forged 25 = .ok (.if_icmp .lt 5, 3) := by decide +kernel
theorem dX9_forged_28 : decode cX9_forged 28 = .ok (.iconst (-1), 1) := by decide +kernel
theorem dX9_forged_29 : decode cX9_forged 29 = .ok (.ireturn, 1) := by decide +kernel
theorem dX9_forged_30 : decode cX9_forged 30 = .ok (.aload_n 0, 1) := by decide +kernel
theorem dX9_forged_31 : decode cX9_forged 31 = .ok (.getfield 41, 3) := by decide +kernel
theorem dX9_forged_34 : decode cX9_forged 34 = .ok (.iload_n 1, 1) := by decide +kernel
theorem dX9_forged_35 : decode cX9_forged 35 = .ok (.aload_n 0, 1) := by decide +kernel
theorem dX9_forged_36 : decode cX9_forged 36 = .ok (.getfield 75, 3) := by decide +kernel
theorem dX9_forged_39 : decode cX9_forged 39 = .ok (.invokevirtual 217, 3) := by decide +kernel
theorem dX9_forged_42 : decode cX9_forged 42 = .ok (.istore_n 3, 1) := by decide +kernel
theorem dX9_forged_43 : decode cX9_forged 43 = .ok (.iload_n 3, 1) := by decide +kernel
theorem dX9_forged_44 : decode cX9_forged 44 = .ok (.bipush 99, 2) := by decide +kernel
theorem dX9_forged_46 : decode cX9_forged 46 = .ok (.if_icmp .ne 6, 3) := by decide +kernel
theorem dX9_forged_49 : decode cX9_forged 49 = .ok (.bipush (-4), 2) := by decide +kernel
theorem dX9_forged_51 : decode cX9_forged 51 = .ok (.ireturn, 1) := by decide +kernel
theorem dX9_forged_52 : decode cX9_forged 52 = .ok (.iload_n 2, 1) := by decide +kernel
theorem dX9_forged_53 : decode cX9_forged 53 = .ok (.iconst (-1), 1) := by decide +kernel
theorem dX9_forged_54 : decode cX9_forged 54 = .ok (.if_icmp .ne 7, 3) := by decide +kernel
theorem dX9_forged_57 : decode cX9_forged 57 = .ok (.iload_n 3, 1) := by decide +kernel
theorem dX9_forged_58 : decode cX9_forged 58 = .ok (.goto 9, 3) := by decide +kernel
theorem dX9_forged_61 : decode cX9_forged 61 = .ok (.aload_n 0, 1) := by decide +kernel
theorem dX9_forged_62 : decode cX9_forged 62 = .ok (.getfield 75, 3) := by decide +kernel
theorem dX9_forged_65 : decode cX9_forged 65 = .ok (.iload_n 2, 1) := by decide +kernel
theorem dX9_forged_66 : decode cX9_forged 66 = .ok (.iaload, 1) := by decide +kernel
theorem dX9_forged_67 : decode cX9_forged 67 = .ok (.ireturn, 1) := by decide +kernel
set_option maxHeartbeats 4000000 in
set_option maxRecDepth 100000 in
theorem cX9_forged_k_0 {l : Launch} {D : va_G} {a : Nat → Nat} {k : Nat → ClassId} {n : Nat} {p1 : Int32} {p2 : Int32} {x0 xz : bq_S} {rz : Int32} (h : fX9_forged n p1 p2 x0 = some (rz, xz)) : bq_M l D bq_cl (bq_ty k) (bq_wC a k) yX9_forged cX9_forged 4 (some .int) { frames := 6, cells := 0, slots := 0, locals := 144 } [.ref (a 0), .int p1, .int p2] x0 (some rz) xz := by
  refine bq_ofW RX9 [(0, .ref (a 0)), (1, .int p1), (2, .int p2)] (by decide +kernel) rfl (Nat.le_of_ble_eq_true rfl) rfl (bq_adC a k) ?_
  intro p e s m below meth c A Q ls S hK hD hA hR hS hP hl
  have hx := S.1; have hb := S.2.1; have hml := S.2.2.1; have hown := S.2.2.2.1; have hts := S.2.2.2.2
  have hret : ∀ z, some z = some (rz, xz) → (rz, xz) = z := fun z h => (Option.some.inj h).symm
  unfold fX9_forged at h
  refine lv_aload_n hx hb dX9_forged_0 rfl (lv_at hl 0 rfl) ?_
  refine bq_get (q0 := 0) S hK hP fl_X9_10_X9_0 rfl rfl rfl dX9_forged_1 ?_
  refine lv_iload_n hx hb dX9_forged_4 rfl (lv_at hl 1 rfl) ?_
  obtain ⟨o1, ho1, h⟩ := Option.bind_eq_some_iff.mp h
  obtain ⟨v3, x2⟩ := o1
  replace h := un2_e h
  refine bq_callVi (q0 := 1) (As := [.int _]) S hK hD hA hP hS (cX4_isSet_k_1 ho1) hd_yX4_isSet ml_X9_186 in_yX4_isSet (hts _ sl_X4_X4_yX4_isSet) ⟨rfl, rfl⟩ ⟨by decide, by decide⟩ rfl rfl rfl hl.1 rfl (Nat.le_of_ble_eq_true rfl) ⟨Nat.zero_le _, Nat.zero_le _⟩ dX9_forged_5 (fun H locs hP hS => ?_)
  refine lv_if_eq (tgt := 28) hx hb dX9_forged_8 (by decide) (fun c4 => ?_) (fun c4 => ?_)
  · replace h := (if_pos c4).symm.trans h
    refine lv_iconst (v := (-1 : Int32)) hx hb dX9_forged_28 (by decide) ?_
    obtain ⟨e1, e2⟩ := Prod.mk.inj (hret _ h)
    exact hR _ _ _ _ _ (congrArg some e1) rfl (by rw [e2]; exact hP) hS dX9_forged_29
  · replace h := (if_neg c4).symm.trans h
    refine lv_iload_n hx hb dX9_forged_11 rfl (lv_at hl 1 rfl) ?_
    refine lv_if_eq (tgt := 28) hx hb dX9_forged_12 (by decide) (fun c5 => ?_) (fun c5 => ?_)
    · replace h := (if_pos c5).symm.trans h
      refine lv_iconst (v := (-1 : Int32)) hx hb dX9_forged_28 (by decide) ?_
      obtain ⟨e1, e2⟩ := Prod.mk.inj (hret _ h)
      exact hR _ _ _ _ _ (congrArg some e1) rfl (by rw [e2]; exact hP) hS dX9_forged_29
    · replace h := (if_neg c5).symm.trans h
      refine lv_iload_n hx hb dX9_forged_15 rfl (lv_at hl 2 rfl) ?_
      refine lv_iconst (v := (-1 : Int32)) hx hb dX9_forged_16 (by decide) ?_
      refine lv_icmp_lt (tgt := 28) hx hb dX9_forged_17 (by decide) (fun c6 => ?_) (fun c6 => ?_)
      · replace h := (if_pos c6).symm.trans h
        refine lv_iconst (v := (-1 : Int32)) hx hb dX9_forged_28 (by decide) ?_
        obtain ⟨e1, e2⟩ := Prod.mk.inj (hret _ h)
        exact hR _ _ _ _ _ (congrArg some e1) rfl (by rw [e2]; exact hP) hS dX9_forged_29
      · replace h := (if_neg c6).symm.trans h
        refine lv_iload_n hx hb dX9_forged_20 rfl (lv_at hl 2 rfl) ?_
        refine lv_iload_n hx hb dX9_forged_21 rfl (lv_at hl 1 rfl) ?_
        obtain ⟨o7, ho7, h⟩ := Option.bind_eq_some_iff.mp h
        obtain ⟨v9, x8⟩ := o7
        replace h := un2_e h
        refine bq_callSi (As := [.int _]) S hK hD hA hP hS (cJ6_bitCount_k ho7) hd_yJ6_bitCount_0f7a4 ml_X9_196 st_yJ6_bitCount_0f7a4 ⟨rfl, rfl⟩ ⟨by decide, by decide⟩ rfl hl.1 rfl (Nat.le_of_ble_eq_true rfl) ⟨Nat.zero_le _, Nat.zero_le _⟩ dX9_forged_22 (fun H locs hP hS => ?_)
        refine lv_icmp_lt (tgt := 30) hx hb dX9_forged_25 (by decide) (fun c10 => ?_) (fun c10 => ?_)
        · replace h := (if_pos c10).symm.trans h
          refine lv_aload_n hx hb dX9_forged_30 rfl (lv_at hl 0 rfl) ?_
          refine bq_get (q0 := 0) S hK hP fl_X9_41_X9_5 rfl rfl rfl dX9_forged_31 ?_
          refine lv_iload_n hx hb dX9_forged_34 rfl (lv_at hl 1 rfl) ?_
          refine lv_aload_n hx hb dX9_forged_35 rfl (lv_at hl 0 rfl) ?_
          refine bq_get (q0 := 0) S hK hP fl_X9_75_X9_10 rfl rfl rfl dX9_forged_36 ?_
          obtain ⟨o11, ho11, h⟩ := Option.bind_eq_some_iff.mp h
          obtain ⟨v13, x12⟩ := o11
          replace h := un2_e h
          refine bq_callVi (q0 := 27) (As := [.int _, .ref (a 42)]) S hK hD hA hP hS (cX2_fewest_k_27_42 ho11) hd_yX2_fewest ml_X9_217 in_yX2_fewest (hts _ sl_X2_X2_yX2_fewest) ⟨rfl, rfl⟩ ⟨by decide, by decide⟩ rfl rfl rfl hl.1 rfl (Nat.le_of_ble_eq_true rfl) ⟨Nat.zero_le _, Nat.zero_le _⟩ dX9_forged_39 (fun H locs hP hS => ?_)
          refine lv_istore_n (lv' := [(3, .int v13), (0, .ref (a 0)), (1, .int p1), (2, .int p2)]) hx hb dX9_forged_42 rfl hl (by decide) rfl (fun ls hl => ?_)
          refine lv_iload_n hx hb dX9_forged_43 rfl (lv_at hl 0 rfl) ?_
          refine lv_bipush (v := (99 : Int32)) hx hb dX9_forged_44 (by decide) ?_
          refine lv_icmp_ne (tgt := 52) hx hb dX9_forged_46 (by decide) (fun c14 => ?_) (fun c14 => ?_)
          · replace h := (if_neg c14).symm.trans h
            refine lv_iload_n hx hb dX9_forged_52 rfl (lv_at hl 3 rfl) ?_
            refine lv_iconst (v := (-1 : Int32)) hx hb dX9_forged_53 (by decide) ?_
            refine lv_icmp_ne (tgt := 61) hx hb dX9_forged_54 (by decide) (fun c15 => ?_) (fun c15 => ?_)
            · replace h := (if_neg c15).symm.trans h
              refine lv_aload_n hx hb dX9_forged_61 rfl (lv_at hl 1 rfl) ?_
              refine bq_get (q0 := 0) S hK hP fl_X9_75_X9_10 rfl rfl rfl dX9_forged_62 ?_
              refine lv_iload_n hx hb dX9_forged_65 rfl (lv_at hl 3 rfl) ?_
              obtain ⟨g16, h⟩ := bq_gd h
              refine va_iald (D := D) hx hb hK hP 42 0 rfl rfl g16 dX9_forged_66 ?_
              obtain ⟨e1, e2⟩ := Prod.mk.inj (hret _ h)
              exact hR _ _ _ _ _ (congrArg some e1) rfl (by rw [e2]; exact hP) hS dX9_forged_67
            · replace h := (if_pos c15).symm.trans h
              refine lv_iload_n hx hb dX9_forged_57 rfl (lv_at hl 0 rfl) ?_
              refine lv_goto (tgt := 67) hx hb dX9_forged_58 (by decide) ?_
              obtain ⟨e1, e2⟩ := Prod.mk.inj (hret _ h)
              exact hR _ _ _ _ _ (congrArg some e1) rfl (by rw [e2]; exact hP) hS dX9_forged_67
          · replace h := (if_pos c14).symm.trans h
            refine lv_bipush (v := (-4 : Int32)) hx hb dX9_forged_49 (by decide) ?_
            obtain ⟨e1, e2⟩ := Prod.mk.inj (hret _ h)
            exact hR _ _ _ _ _ (congrArg some e1) rfl (by rw [e2]; exact hP) hS dX9_forged_51
        · replace h := (if_neg c10).symm.trans h
          refine lv_iconst (v := (-1 : Int32)) hx hb dX9_forged_28 (by decide) ?_
          obtain ⟨e1, e2⟩ := Prod.mk.inj (hret _ h)
          exact hR _ _ _ _ _ (congrArg some e1) rfl (by rw [e2]; exact hP) hS dX9_forged_29
def fX8X3_ask (p1 : Int32) (p2 : Int32) (p3 : Int32) (x0 : bq_S) : Option (bq_S) :=
  bd (bq_sI x0 28 2 p1) (fun x1 =>
  bd (bq_sI x1 28 3 p2) (fun x2 =>
  if p3 = 0 ∨ p3 = 1 then
  bd (bq_sI x2 28 5 p3) (fun x3 =>
  some x3)
  else none))
set_option maxHeartbeats 4000000 in
set_option maxRecDepth 100000 in
theorem cX8X3_ask_k_28 {l : Launch} {D : va_G} {a : Nat → Nat} {k : Nat → ClassId} {p1 : Int32} {p2 : Int32} {p3 : Int32} {x0 xz : bq_S} (h : fX8X3_ask  p1 p2 p3 x0 = some xz) : bq_M l D bq_cl (bq_ty k) (bq_wC a k) yX8_ask cX8_ask 4 none { frames := 0, cells := 0, slots := 0, locals := 0 } [.ref (a 28), .int p1, .int p2, .int p3] x0 none xz := by
  refine bq_ofWv RX8 [(0, .ref (a 28)), (1, .int p1), (2, .int p2), (3, .int p3)] (by decide +kernel) rfl (Nat.le_of_ble_eq_true rfl) rfl (bq_adC a k) ?_
  intro p e s m below meth c A Q ls S hK hD hA hR hS hP hl
  have hx := S.1; have hb := S.2.1; have hml := S.2.2.1; have hown := S.2.2.2.1; have hts := S.2.2.2.2
  have hret : ∀ z, some z = some xz → xz = z := fun z h => (Option.some.inj h).symm
  unfold fX8X3_ask at h
  refine lv_aload_n hx hb dX8_ask_0 rfl (lv_at hl 0 rfl) ?_
  refine lv_iload_n hx hb dX8_ask_1 rfl (lv_at hl 1 rfl) ?_
  obtain ⟨x1, hx1, h⟩ := bq_b h
  refine bq_put (x1 := x1) (q0 := 28) (ty := .int) S hK hD hP hS fl_X8_19_X3_2 bt_X3 rfl (by decide +kernel) rfl rfl (Nat.le_of_ble_eq_true rfl) rfl rfl (by rw [hx1]; rfl) dX8_ask_2 (fun H locs hP hS => ?_)
  refine lv_aload_n hx hb dX8_ask_5 rfl (lv_at hl 0 rfl) ?_
  refine lv_iload_n hx hb dX8_ask_6 rfl (lv_at hl 2 rfl) ?_
  obtain ⟨x2, hx2, h⟩ := bq_b h
  refine bq_put (x1 := x2) (q0 := 28) (ty := .int) S hK hD hP hS fl_X8_23_X3_3 bt_X3 rfl (by decide +kernel) rfl rfl (Nat.le_of_ble_eq_true rfl) rfl rfl (by rw [hx2]; rfl) dX8_ask_7 (fun H locs hP hS => ?_)
  refine lv_aload_n hx hb dX8_ask_10 rfl (lv_at hl 0 rfl) ?_
  refine lv_iload_n hx hb dX8_ask_11 rfl (lv_at hl 3 rfl) ?_
  obtain ⟨g4, h⟩ := bq_gp h
  obtain ⟨x3, hx3, h⟩ := bq_b h
  refine bq_put (x1 := x3) (q0 := 28) (ty := .boolean) S hK hD hP hS fl_X8_29_X3_5 bt_X3 rfl (by decide +kernel) rfl rfl (Nat.le_of_ble_eq_true rfl) (bq_z g4) (bq_zf g4) (by rw [hx3]; rfl) dX8_ask_12 (fun H locs hP hS => ?_)
  have e2 := hret _ h
  exact hR _ _ _ _ rfl (by rw [e2]; exact hP) hS dX8_ask_15
def fX3_ofNone (x0 : bq_S) : Option (Int32 × bq_S) :=
  some ((0 : Int32), x0)
theorem dX3_ofNone_0 : decode cX3_ofNone 0 = .ok (.iconst 0, 1) := by decide +kernel
theorem dX3_ofNone_1 : decode cX3_ofNone 1 = .ok (.ireturn, 1) := by decide +kernel
set_option maxHeartbeats 4000000 in
set_option maxRecDepth 100000 in
theorem cX3_ofNone_k_28 {l : Launch} {D : va_G} {a : Nat → Nat} {k : Nat → ClassId} {x0 xz : bq_S} {rz : Int32} (h : fX3_ofNone   x0 = some (rz, xz)) : bq_M l D bq_cl (bq_ty k) (bq_wC a k) yX3_ofNone cX3_ofNone 1 (some .int) { frames := 0, cells := 0, slots := 0, locals := 0 } [.ref (a 28)] x0 (some rz) xz := by
  refine bq_ofW RX3 [(0, .ref (a 28))] (by decide +kernel) rfl (Nat.le_of_ble_eq_true rfl) rfl (bq_adC a k) ?_
  intro p e s m below meth c A Q ls S hK hD hA hR hS hP hl
  have hx := S.1; have hb := S.2.1; have hml := S.2.2.1; have hown := S.2.2.2.1; have hts := S.2.2.2.2
  have hret : ∀ z, some z = some (rz, xz) → (rz, xz) = z := fun z h => (Option.some.inj h).symm
  unfold fX3_ofNone at h
  refine lv_iconst (v := (0 : Int32)) hx hb dX3_ofNone_0 (by decide) ?_
  obtain ⟨e1, e2⟩ := Prod.mk.inj (hret _ h)
  exact hR _ _ _ _ _ (congrArg some e1) rfl (by rw [e2]; exact hP) hS dX3_ofNone_1
def fX3_ofStep_j43 (v9 : Int32) (v10 : Int32) (x11 : bq_S) : Option (Int32 × bq_S) :=
  if v10 = 0 then
  some (v9, x11)
  else
  some ((v9 <<< ((1 : Int32) &&& 31)), x11)
def fX3_ofStep (p1 : Int32) (p2 : Int32) (p3 : Int32) (p4 : Int32) (x0 : bq_S) : Option (Int32 × bq_S) :=
  (fX4_touches 1 p2 p3 x0).bind (fun o1 => un2 o1 (fun v3 x2 =>
  if v3 = 0 then
  some ((0 : Int32), x2)
  else
  (fJ6_bitCount (p1 &&& (x2.1 28 6)) x2).bind (fun o5 => un2 o5 (fun v7 x6 =>
  if v7 = (1 : Int32) then
  (fX9_has (x6.1 28 6) p3 x6).bind (fun o13 => un2 o13 (fun v15 x14 =>
  if v15 = 0 then
  fX3_ofStep_j43  p4 (1 : Int32) x14
  else
  fX3_ofStep_j43  p4 (0 : Int32) x14))
  else
  fX3_ofStep_j43  p4 (0 : Int32) x6))))
theorem dX3_ofStep_0 : decode cX3_ofStep 0 = .ok (.aload_n 0, 1) := by decide +kernel
theorem dX3_ofStep_1 : decode cX3_ofStep 1 = .ok (.getfield 21, 3) := by decide +kernel
theorem dX3_ofStep_4 : decode cX3_ofStep 4 = .ok (.iload_n 2, 1) := by decide +kernel
theorem dX3_ofStep_5 : decode cX3_ofStep 5 = .ok (.iload_n 3, 1) := by decide +kernel
theorem dX3_ofStep_6 : decode cX3_ofStep 6 = .ok (.invokevirtual 61, 3) := by decide +kernel
theorem dX3_ofStep_9 : decode cX3_ofStep 9 = .ok (.ifCond .ne 5, 3) := by decide +kernel
theorem dX3_ofStep_12 : decode cX3_ofStep 12 = .ok (.iconst 0, 1) := by decide +kernel
theorem dX3_ofStep_13 : decode cX3_ofStep 13 = .ok (.ireturn, 1) := by decide +kernel
theorem dX3_ofStep_14 : decode cX3_ofStep 14 = .ok (.iload_n 1, 1) := by decide +kernel
theorem dX3_ofStep_15 : decode cX3_ofStep 15 = .ok (.aload_n 0, 1) := by decide +kernel
theorem dX3_ofStep_16 : decode cX3_ofStep 16 = .ok (.getfield 9, 3) := by decide +kernel
theorem dX3_ofStep_19 : decode cX3_ofStep 19 = .ok (.iand, 1) := by decide +kernel
theorem dX3_ofStep_20 : decode cX3_ofStep 20 = .ok (.invokestatic 15, 3) := by decide +kernel
theorem dX3_ofStep_23 : decode cX3_ofStep 23 = .ok (.iconst 1, 1) := by decide +kernel
theorem dX3_ofStep_24 : decode cX3_ofStep 24 = .ok (.if_icmp .ne 18, 3) := by decide +kernel
theorem dX3_ofStep_27 : decode cX3_ofStep 27 = .ok (.aload_n 0, 1) := by decide +kernel
theorem dX3_ofStep_28 : decode cX3_ofStep 28 = .ok (.getfield 9, 3) := by decide +kernel
theorem dX3_ofStep_31 : decode cX3_ofStep 31 = .ok (.iload_n 3, 1) := by decide +kernel
theorem dX3_ofStep_32 : decode cX3_ofStep 32 = .ok (.invokestatic 38, 3) := by decide +kernel
theorem dX3_ofStep_35 : decode cX3_ofStep 35 = .ok (.ifCond .ne 7, 3) := by decide +kernel
theorem dX3_ofStep_38 : decode cX3_ofStep 38 = .ok (.iconst 1, 1) := by decide +kernel
theorem dX3_ofStep_39 : decode cX3_ofStep 39 = .ok (.goto 4, 3) := by decide +kernel
theorem dX3_ofStep_42 : decode cX3_ofStep 42 = .ok (.iconst 0, 1) := by decide +kernel
theorem dX3_ofStep_43 : decode cX3_ofStep 43 = .ok (.istore 5, 2) := by decide +kernel
theorem dX3_ofStep_45 : decode cX3_ofStep 45 = .ok (.iload 5, 2) := by decide +kernel
theorem dX3_ofStep_47 : decode cX3_ofStep 47 = .ok (.ifCond .eq 10, 3) := by decide +kernel
theorem dX3_ofStep_50 : decode cX3_ofStep 50 = .ok (.iload 4, 2) := by decide +kernel
theorem dX3_ofStep_52 : decode cX3_ofStep 52 = .ok (.iconst 1, 1) := by decide +kernel
theorem dX3_ofStep_53 : decode cX3_ofStep 53 = .ok (.ishl, 1) := by decide +kernel
theorem dX3_ofStep_54 : decode cX3_ofStep 54 = .ok (.goto 5, 3) := by decide +kernel
theorem dX3_ofStep_57 : decode cX3_ofStep 57 = .ok (.iload 4, 2) := by decide +kernel
theorem dX3_ofStep_59 : decode cX3_ofStep 59 = .ok (.ireturn, 1) := by decide +kernel
set_option maxHeartbeats 4000000 in
set_option maxRecDepth 100000 in
theorem cX3_ofStep_k_28 {l : Launch} {D : va_G} {a : Nat → Nat} {k : Nat → ClassId} {p1 : Int32} {p2 : Int32} {p3 : Int32} {p4 : Int32} {x0 xz : bq_S} {rz : Int32} (h : fX3_ofStep  p1 p2 p3 p4 x0 = some (rz, xz)) : bq_M l D bq_cl (bq_ty k) (bq_wC a k) yX3_ofStep cX3_ofStep 6 (some .int) { frames := 1, cells := 0, slots := 0, locals := 22 } [.ref (a 28), .int p1, .int p2, .int p3, .int p4] x0 (some rz) xz := by
  refine bq_ofW RX3 [(0, .ref (a 28)), (1, .int p1), (2, .int p2), (3, .int p3), (4, .int p4)] (by decide +kernel) rfl (Nat.le_of_ble_eq_true rfl) rfl (bq_adC a k) ?_
  intro p e s m below meth c A Q ls S hK hD hA hR hS hP hl
  have hx := S.1; have hb := S.2.1; have hml := S.2.2.1; have hown := S.2.2.2.1; have hts := S.2.2.2.2
  have hret : ∀ z, some z = some (rz, xz) → (rz, xz) = z := fun z h => (Option.some.inj h).symm
  unfold fX3_ofStep at h
  have hj43 : ∀ (v9 : Int32) (v10 : Int32) (x11 : bq_S) (H : Heap) (locs : List Loc) (ls : Array Slot), fX3_ofStep_j43  v9 v10 x11 = some (rz, xz) → va_P D bq_cl (bq_wC a k x11) H → va_S A s.heap H locs → lv_has ls 6 [(4, .int v9)] → W p l e { frames := 1, cells := 0, slots := 0, locals := 22 } s m [.ref (a 28), .int p1, .int p2, .int p3, .int p4].toArray below meth c H locs 0 0 Q (F0 m 43 ls [.int v10]) := by
    intro v9 v10 x11 H locs ls h hP hS hl
    unfold fX3_ofStep_j43 at h
    refine lv_istore (lv' := [(5, .int v10), (4, .int v9)]) hx hb dX3_ofStep_43 hl (by decide) rfl (fun ls hl => ?_)
    refine lv_iload hx hb dX3_ofStep_45 (lv_at hl 0 rfl) ?_
    refine lv_if_eq (tgt := 57) hx hb dX3_ofStep_47 (by decide) (fun c12 => ?_) (fun c12 => ?_)
    · replace h := (if_pos c12).symm.trans h
      refine lv_iload hx hb dX3_ofStep_57 (lv_at hl 1 rfl) ?_
      obtain ⟨e1, e2⟩ := Prod.mk.inj (hret _ h)
      exact hR _ _ _ _ _ (congrArg some e1) rfl (by rw [e2]; exact hP) hS dX3_ofStep_59
    · replace h := (if_neg c12).symm.trans h
      refine lv_iload hx hb dX3_ofStep_50 (lv_at hl 1 rfl) ?_
      refine lv_iconst (v := (1 : Int32)) hx hb dX3_ofStep_52 (by decide) ?_
      refine lv_ishl hx hb dX3_ofStep_53 ?_
      refine lv_goto (tgt := 59) hx hb dX3_ofStep_54 (by decide) ?_
      obtain ⟨e1, e2⟩ := Prod.mk.inj (hret _ h)
      exact hR _ _ _ _ _ (congrArg some e1) rfl (by rw [e2]; exact hP) hS dX3_ofStep_59
  refine lv_aload_n hx hb dX3_ofStep_0 rfl (lv_at hl 0 rfl) ?_
  refine bq_get (q0 := 28) S hK hP fl_X3_21_X3_0 rfl rfl rfl dX3_ofStep_1 ?_
  refine lv_iload_n hx hb dX3_ofStep_4 rfl (lv_at hl 2 rfl) ?_
  refine lv_iload_n hx hb dX3_ofStep_5 rfl (lv_at hl 3 rfl) ?_
  obtain ⟨o1, ho1, h⟩ := Option.bind_eq_some_iff.mp h
  obtain ⟨v3, x2⟩ := o1
  replace h := un2_e h
  refine bq_callVi (q0 := 1) (As := [.int _, .int _]) S hK hD hA hP hS (cX4_touches_k_1 ho1) hd_yX4_touches ml_X3_61 in_yX4_touches (hts _ sl_X4_X4_yX4_touches) ⟨rfl, rfl⟩ ⟨by decide, by decide⟩ rfl rfl rfl hl.1 rfl (Nat.le_of_ble_eq_true rfl) ⟨Nat.zero_le _, Nat.zero_le _⟩ dX3_ofStep_6 (fun H locs hP hS => ?_)
  refine lv_if_ne (tgt := 14) hx hb dX3_ofStep_9 (by decide) (fun c4 => ?_) (fun c4 => ?_)
  · replace h := (if_neg c4).symm.trans h
    refine lv_iload_n hx hb dX3_ofStep_14 rfl (lv_at hl 1 rfl) ?_
    refine lv_aload_n hx hb dX3_ofStep_15 rfl (lv_at hl 0 rfl) ?_
    refine bq_get (q0 := 28) S hK hP fl_X3_9_X3_6 rfl rfl rfl dX3_ofStep_16 ?_
    refine lv_iand hx hb dX3_ofStep_19 ?_
    obtain ⟨o5, ho5, h⟩ := Option.bind_eq_some_iff.mp h
    obtain ⟨v7, x6⟩ := o5
    replace h := un2_e h
    refine bq_callSi (As := [.int _]) S hK hD hA hP hS (cJ6_bitCount_k ho5) hd_yJ6_bitCount_0f7a4 ml_X3_15 st_yJ6_bitCount_0f7a4 ⟨rfl, rfl⟩ ⟨by decide, by decide⟩ rfl hl.1 rfl (Nat.le_of_ble_eq_true rfl) ⟨Nat.zero_le _, Nat.zero_le _⟩ dX3_ofStep_20 (fun H locs hP hS => ?_)
    refine lv_iconst (v := (1 : Int32)) hx hb dX3_ofStep_23 (by decide) ?_
    refine lv_icmp_ne (tgt := 42) hx hb dX3_ofStep_24 (by decide) (fun c8 => ?_) (fun c8 => ?_)
    · replace h := (if_neg c8).symm.trans h
      refine lv_iconst (v := (0 : Int32)) hx hb dX3_ofStep_42 (by decide) ?_
      exact hj43 _ _ _ _ _ _ h hP hS (lv_sub hl [4] rfl)
    · replace h := (if_pos c8).symm.trans h
      refine lv_aload_n hx hb dX3_ofStep_27 rfl (lv_at hl 0 rfl) ?_
      refine bq_get (q0 := 28) S hK hP fl_X3_9_X3_6 rfl rfl rfl dX3_ofStep_28 ?_
      refine lv_iload_n hx hb dX3_ofStep_31 rfl (lv_at hl 3 rfl) ?_
      obtain ⟨o13, ho13, h⟩ := Option.bind_eq_some_iff.mp h
      obtain ⟨v15, x14⟩ := o13
      replace h := un2_e h
      refine bq_callSNi (As := [.int _, .int _]) S hK hD hA hP hS (cX9_has_k ho13) hd_yX9_has mn_X3_38 st_yX9_has ⟨rfl, rfl⟩ ⟨by decide, by decide⟩ rfl hl.1 rfl (Nat.le_of_ble_eq_true rfl) ⟨Nat.zero_le _, Nat.zero_le _⟩ dX3_ofStep_32 (fun H locs hP hS => ?_)
      refine lv_if_ne (tgt := 42) hx hb dX3_ofStep_35 (by decide) (fun c16 => ?_) (fun c16 => ?_)
      · replace h := (if_neg c16).symm.trans h
        refine lv_iconst (v := (0 : Int32)) hx hb dX3_ofStep_42 (by decide) ?_
        exact hj43 _ _ _ _ _ _ h hP hS (lv_sub hl [4] rfl)
      · replace h := (if_pos c16).symm.trans h
        refine lv_iconst (v := (1 : Int32)) hx hb dX3_ofStep_38 (by decide) ?_
        refine lv_goto (tgt := 43) hx hb dX3_ofStep_39 (by decide) ?_
        exact hj43 _ _ _ _ _ _ h hP hS (lv_sub hl [4] rfl)
  · replace h := (if_pos c4).symm.trans h
    refine lv_iconst (v := (0 : Int32)) hx hb dX3_ofStep_12 (by decide) ?_
    obtain ⟨e1, e2⟩ := Prod.mk.inj (hret _ h)
    exact hR _ _ _ _ _ (congrArg some e1) rfl (by rw [e2]; exact hP) hS dX3_ofStep_13
def fX3_ofBoth (p1 : Int32) (p2 : Int32) (x0 : bq_S) : Option (Int32 × bq_S) :=
  some ((p1 ||| p2), x0)
theorem dX3_ofBoth_0 : decode cX3_ofBoth 0 = .ok (.iload_n 1, 1) := by decide +kernel
theorem dX3_ofBoth_1 : decode cX3_ofBoth 1 = .ok (.iload_n 2, 1) := by decide +kernel
theorem dX3_ofBoth_2 : decode cX3_ofBoth 2 = .ok (.ior, 1) := by decide +kernel
theorem dX3_ofBoth_3 : decode cX3_ofBoth 3 = .ok (.ireturn, 1) := by decide +kernel
set_option maxHeartbeats 4000000 in
set_option maxRecDepth 100000 in
theorem cX3_ofBoth_k_28 {l : Launch} {D : va_G} {a : Nat → Nat} {k : Nat → ClassId} {p1 : Int32} {p2 : Int32} {x0 xz : bq_S} {rz : Int32} (h : fX3_ofBoth  p1 p2 x0 = some (rz, xz)) : bq_M l D bq_cl (bq_ty k) (bq_wC a k) yX3_ofBoth cX3_ofBoth 3 (some .int) { frames := 0, cells := 0, slots := 0, locals := 0 } [.ref (a 28), .int p1, .int p2] x0 (some rz) xz := by
  refine bq_ofW RX3 [(0, .ref (a 28)), (1, .int p1), (2, .int p2)] (by decide +kernel) rfl (Nat.le_of_ble_eq_true rfl) rfl (bq_adC a k) ?_
  intro p e s m below meth c A Q ls S hK hD hA hR hS hP hl
  have hx := S.1; have hb := S.2.1; have hml := S.2.2.1; have hown := S.2.2.2.1; have hts := S.2.2.2.2
  have hret : ∀ z, some z = some (rz, xz) → (rz, xz) = z := fun z h => (Option.some.inj h).symm
  unfold fX3_ofBoth at h
  refine lv_iload_n hx hb dX3_ofBoth_0 rfl (lv_at hl 1 rfl) ?_
  refine lv_iload_n hx hb dX3_ofBoth_1 rfl (lv_at hl 2 rfl) ?_
  refine lv_ior hx hb dX3_ofBoth_2 ?_
  obtain ⟨e1, e2⟩ := Prod.mk.inj (hret _ h)
  exact hR _ _ _ _ _ (congrArg some e1) rfl (by rw [e2]; exact hP) hS dX3_ofBoth_3
def fX8X3_ofLonger_b8 (n : Nat) (v4 : Int32) (v5 : Int32) (v : Int32 × Int32 × bq_S) : Option ((Int32 × Int32 × bq_S) ⊕ (Int32 × Int32 × bq_S)) :=
  un3 v (fun v6 v7 x8 =>
  if (8 : Int32) ≤ v7 then
  some (.inr (v6, v7, x8))
  else
  (fX9_has ((x8.1 28 2) &&& (v4 ^^^ (-1 : Int32))) v7 x8).bind (fun o10 => un2 o10 (fun v12 x11 =>
  if v12 = 0 then
  bd (v7 + (1 : Int32)) (fun v14 =>
  some (.inl (v6, v14, x11)))
  else
  (fX9_bit v7 x11).bind (fun o15 => un2 o15 (fun v17 x16 =>
  (fX8_index (v4 ||| v17) v7 x16).bind (fun o18 => un2 o18 (fun v20 x19 =>
  if ok_i v20 2048 then
  (fX3_ofStep v4 v5 v7 (x19.1 25 v20.toNatClampNeg) x19).bind (fun o22 => un2 o22 (fun v24 x23 =>
  (fX3_ofBoth v6 v24 x23).bind (fun o25 => un2 o25 (fun v27 x26 =>
  bd (v7 + (1 : Int32)) (fun v28 =>
  some (.inl (v27, v28, x26)))))))
  else none)))))))
def fX8X3_ofLonger (n : Nat) (p1 : Int32) (p2 : Int32) (x0 : bq_S) : Option (Int32 × bq_S) :=
  (fX3_ofNone  x0).bind (fun o1 => un2 o1 (fun v3 x2 =>
  (wh n (fX8X3_ofLonger_b8 n p1 p2) (v3, (0 : Int32), x2)).bind (fun e29 => un3 e29 (fun v30 v31 x32 =>
  some (v30, x32)))))
set_option maxHeartbeats 4000000 in
set_option maxRecDepth 100000 in
theorem cX8X3_ofLonger_k_28 {l : Launch} {D : va_G} {a : Nat → Nat} {k : Nat → ClassId} {n : Nat} {p1 : Int32} {p2 : Int32} {x0 xz : bq_S} {rz : Int32} (h : fX8X3_ofLonger n p1 p2 x0 = some (rz, xz)) : bq_M l D bq_cl (bq_ty k) (bq_wC a k) yX8_ofLonger cX8_ofLonger 5 (some .int) { frames := 2, cells := 0, slots := 0, locals := 47 } [.ref (a 28), .int p1, .int p2] x0 (some rz) xz := by
  refine bq_ofW RX8 [(0, .ref (a 28)), (1, .int p1), (2, .int p2)] (by decide +kernel) rfl (Nat.le_of_ble_eq_true rfl) rfl (bq_adC a k) ?_
  intro p e s m below meth c A Q ls S hK hD hA hR hS hP hl
  have hx := S.1; have hb := S.2.1; have hml := S.2.2.1; have hown := S.2.2.2.1; have hts := S.2.2.2.2
  have hret : ∀ z, some z = some (rz, xz) → (rz, xz) = z := fun z h => (Option.some.inj h).symm
  unfold fX8X3_ofLonger at h
  refine lv_aload_n hx hb dX8_ofLonger_0 rfl (lv_at hl 0 rfl) ?_
  obtain ⟨o1, ho1, h⟩ := Option.bind_eq_some_iff.mp h
  obtain ⟨v3, x2⟩ := o1
  replace h := un2_e h
  refine bq_callUi (q0 := 28) (owner := "BesideQuotes$Ways") (As := []) S hK hD hA hP hS (cX3_ofNone_k_28 ho1) hd_yX3_ofNone ml_X8_56 in_yX3_ofNone (hts _ sl_X3_X8_yX3_ofNone) sm_X8_ofNone dc_X8_ofNone (by decide +kernel) ⟨rfl, rfl⟩ ⟨by decide, by decide⟩ rfl rfl rfl hl.1 rfl (Nat.le_of_ble_eq_true rfl) ⟨Nat.zero_le _, Nat.zero_le _⟩ dX8_ofLonger_1 (fun H locs hP hS => ?_)
  refine lv_istore_n (lv' := [(3, .int v3), (0, .ref (a 28)), (1, .int p1), (2, .int p2)]) hx hb dX8_ofLonger_4 rfl hl (by decide) rfl (fun ls hl => ?_)
  refine lv_iconst (v := (0 : Int32)) hx hb dX8_ofLonger_5 (by decide) ?_
  refine lv_istore (lv' := [(4, .int (0 : Int32)), (3, .int v3), (0, .ref (a 28)), (1, .int p1), (2, .int p2)]) hx hb dX8_ofLonger_6 hl (by decide) rfl (fun ls hl => ?_)
  have hl8 : ∀ (v4 : Int32) (v5 : Int32) (kf : Nat) (v6 : Int32) (v7 : Int32) (x8 : bq_S) (eo : Int32 × Int32 × bq_S) (H : Heap) (locs : List Loc) (ls : Array Slot), wh kf (fX8X3_ofLonger_b8 n v4 v5) (v6, v7, x8) = some eo → va_P D bq_cl (bq_wC a k x8) H → va_S A s.heap H locs → lv_has ls 5 [(0, .ref (a 28)), (1, .int v4), (2, .int v5), (3, .int v6), (4, .int v7)] → (∀ (H : Heap) (locs : List Loc) (ls : Array Slot) (v30 : Int32) (v31 : Int32) (x32 : bq_S), eo = (v30, v31, x32) → va_P D bq_cl (bq_wC a k x32) H → va_S A s.heap H locs → lv_has ls 5 [(3, .int v30)] → W p l e { frames := 2, cells := 0, slots := 0, locals := 47 } s m [.ref (a 28), .int p1, .int p2].toArray below meth c H locs 0 0 Q (F0 m 68 ls [])) → W p l e { frames := 2, cells := 0, slots := 0, locals := 47 } s m [.ref (a 28), .int p1, .int p2].toArray below meth c H locs 0 0 Q (F0 m 8 ls []) := by
    intro v4 v5 kf
    induction kf with
    | zero => intro v6 v7 x8 eo H locs ls h; cases h
    | succ kf ih =>
      intro v6 v7 x8 eo H locs ls h hP hS hl kx
      obtain ⟨out, h, hw⟩ := wh_s h
      unfold fX8X3_ofLonger_b8 at h
      replace h := un3_e h
      refine lv_iload hx hb dX8_ofLonger_8 (lv_at hl 4 rfl) ?_
      refine lv_bipush (v := (8 : Int32)) hx hb dX8_ofLonger_10 (by decide) ?_
      refine lv_icmp_ge (tgt := 68) hx hb dX8_ofLonger_12 (by decide) (fun c9 => ?_) (fun c9 => ?_)
      · replace h := (if_pos c9).symm.trans h
        cases h
        exact kx _ _ _ _ _ _ (Option.some.inj hw).symm hP hS (lv_sub hl [3] rfl)
      · replace h := (if_neg c9).symm.trans h
        refine lv_aload_n hx hb dX8_ofLonger_15 rfl (lv_at hl 0 rfl) ?_
        refine bq_get (q0 := 28) S hK hP fl_X8_19_X3_2 rfl rfl rfl dX8_ofLonger_16 ?_
        refine lv_iload_n hx hb dX8_ofLonger_19 rfl (lv_at hl 1 rfl) ?_
        refine lv_iconst (v := (-1 : Int32)) hx hb dX8_ofLonger_20 (by decide) ?_
        refine lv_ixor hx hb dX8_ofLonger_21 ?_
        refine lv_iand hx hb dX8_ofLonger_22 ?_
        refine lv_iload hx hb dX8_ofLonger_23 (lv_at hl 4 rfl) ?_
        obtain ⟨o10, ho10, h⟩ := Option.bind_eq_some_iff.mp h
        obtain ⟨v12, x11⟩ := o10
        replace h := un2_e h
        refine bq_callSNi (As := [.int _, .int _]) S hK hD hA hP hS (cX9_has_k ho10) hd_yX9_has mn_X8_39 st_yX9_has ⟨rfl, rfl⟩ ⟨by decide, by decide⟩ rfl hl.1 rfl (Nat.le_of_ble_eq_true rfl) ⟨Nat.zero_le _, Nat.zero_le _⟩ dX8_ofLonger_25 (fun H locs hP hS => ?_)
        refine lv_if_eq (tgt := 62) hx hb dX8_ofLonger_28 (by decide) (fun c13 => ?_) (fun c13 => ?_)
        · replace h := (if_pos c13).symm.trans h
          obtain ⟨v14, hv14, h⟩ := bq_b h
          refine lv_iinc (v := v14) (lv' := [(4, .int v14), (0, .ref (a 28)), (1, .int v4), (2, .int v5), (3, .int v6)]) hx hb dX8_ofLonger_62 hl (k := 4) rfl (by rw [hv14]; rfl) (by decide) rfl (fun ls hl => ?_)
          refine lv_goto (tgt := 8) hx hb dX8_ofLonger_65 (by decide) ?_
          cases h
          exact ih _ _ _ _ _ _ _ hw hP hS (lv_sub hl [1, 2, 3, 4, 0] rfl) kx
        · replace h := (if_neg c13).symm.trans h
          refine lv_aload_n hx hb dX8_ofLonger_31 rfl (lv_at hl 0 rfl) ?_
          refine lv_iload_n hx hb dX8_ofLonger_32 rfl (lv_at hl 3 rfl) ?_
          refine lv_aload_n hx hb dX8_ofLonger_33 rfl (lv_at hl 0 rfl) ?_
          refine lv_iload_n hx hb dX8_ofLonger_34 rfl (lv_at hl 1 rfl) ?_
          refine lv_iload_n hx hb dX8_ofLonger_35 rfl (lv_at hl 2 rfl) ?_
          refine lv_iload hx hb dX8_ofLonger_36 (lv_at hl 4 rfl) ?_
          refine lv_aload_n hx hb dX8_ofLonger_38 rfl (lv_at hl 0 rfl) ?_
          refine bq_get (q0 := 28) S hK hP fl_X8_15_X3_1 rfl rfl rfl dX8_ofLonger_39 ?_
          refine lv_iload_n hx hb dX8_ofLonger_42 rfl (lv_at hl 1 rfl) ?_
          refine lv_iload hx hb dX8_ofLonger_43 (lv_at hl 4 rfl) ?_
          obtain ⟨o15, ho15, h⟩ := Option.bind_eq_some_iff.mp h
          obtain ⟨v17, x16⟩ := o15
          replace h := un2_e h
          refine bq_callSNi (As := [.int _]) S hK hD hA hP hS (cX9_bit_k ho15) hd_yX9_bit mn_X8_53 st_yX9_bit ⟨rfl, rfl⟩ ⟨by decide, by decide⟩ rfl hl.1 rfl (Nat.le_of_ble_eq_true rfl) ⟨Nat.zero_le _, Nat.zero_le _⟩ dX8_ofLonger_45 (fun H locs hP hS => ?_)
          refine lv_ior hx hb dX8_ofLonger_48 ?_
          refine lv_iload hx hb dX8_ofLonger_49 (lv_at hl 4 rfl) ?_
          obtain ⟨o18, ho18, h⟩ := Option.bind_eq_some_iff.mp h
          obtain ⟨v20, x19⟩ := o18
          replace h := un2_e h
          refine bq_callSi (As := [.int _, .int _]) S hK hD hA hP hS (cX8_index_k ho18) hd_yX8_index ml_X8_43 st_yX8_index ⟨rfl, rfl⟩ ⟨by decide, by decide⟩ rfl hl.1 rfl (Nat.le_of_ble_eq_true rfl) ⟨Nat.zero_le _, Nat.zero_le _⟩ dX8_ofLonger_51 (fun H locs hP hS => ?_)
          obtain ⟨g21, h⟩ := bq_gd h
          refine va_iald (D := D) hx hb hK hP 25 0 rfl rfl g21 dX8_ofLonger_54 ?_
          obtain ⟨o22, ho22, h⟩ := Option.bind_eq_some_iff.mp h
          obtain ⟨v24, x23⟩ := o22
          replace h := un2_e h
          refine bq_callUi (q0 := 28) (owner := "BesideQuotes$Ways") (As := [.int _, .int _, .int _, .int _]) S hK hD hA hP hS (cX3_ofStep_k_28 ho22) hd_yX3_ofStep ml_X8_60 in_yX3_ofStep (hts _ sl_X3_X8_yX3_ofStep) sm_X8_ofStep dc_X8_ofStep (by decide +kernel) ⟨rfl, rfl⟩ ⟨by decide, by decide⟩ rfl rfl rfl hl.1 rfl (Nat.le_of_ble_eq_true rfl) ⟨Nat.zero_le _, Nat.zero_le _⟩ dX8_ofLonger_55 (fun H locs hP hS => ?_)
          obtain ⟨o25, ho25, h⟩ := Option.bind_eq_some_iff.mp h
          obtain ⟨v27, x26⟩ := o25
          replace h := un2_e h
          refine bq_callUi (q0 := 28) (owner := "BesideQuotes$Ways") (As := [.int _, .int _]) S hK hD hA hP hS (cX3_ofBoth_k_28 ho25) hd_yX3_ofBoth ml_X8_64 in_yX3_ofBoth (hts _ sl_X3_X8_yX3_ofBoth) sm_X8_ofBoth dc_X8_ofBoth (by decide +kernel) ⟨rfl, rfl⟩ ⟨by decide, by decide⟩ rfl rfl rfl hl.1 rfl (Nat.le_of_ble_eq_true rfl) ⟨Nat.zero_le _, Nat.zero_le _⟩ dX8_ofLonger_58 (fun H locs hP hS => ?_)
          refine lv_istore_n (lv' := [(3, .int v27), (0, .ref (a 28)), (1, .int v4), (2, .int v5), (4, .int v7)]) hx hb dX8_ofLonger_61 rfl hl (by decide) rfl (fun ls hl => ?_)
          obtain ⟨v28, hv28, h⟩ := bq_b h
          refine lv_iinc (v := v28) (lv' := [(4, .int v28), (3, .int v27), (0, .ref (a 28)), (1, .int v4), (2, .int v5)]) hx hb dX8_ofLonger_62 hl (k := 4) rfl (by rw [hv28]; rfl) (by decide) rfl (fun ls hl => ?_)
          refine lv_goto (tgt := 8) hx hb dX8_ofLonger_65 (by decide) ?_
          cases h
          exact ih _ _ _ _ _ _ _ hw hP hS (lv_sub hl [2, 3, 4, 1, 0] rfl) kx
  obtain ⟨e29, he29, h⟩ := Option.bind_eq_some_iff.mp h
  refine hl8 _ _ n _ _ _ e29 _ _ _ he29 hP hS (lv_sub hl [2, 3, 4, 1, 0] rfl) (fun H locs ls v30 v31 x32 hz hP hS hl => ?_)
  subst hz
  replace h := un3_e h
  refine lv_iload_n hx hb dX8_ofLonger_68 rfl (lv_at hl 0 rfl) ?_
  obtain ⟨e1, e2⟩ := Prod.mk.inj (hret _ h)
  exact hR _ _ _ _ _ (congrArg some e1) rfl (by rw [e2]; exact hP) hS dX8_ofLonger_69
def fX3_ofWhole (p1 : Int32) (p2 : Int32) (x0 : bq_S) : Option (Int32 × bq_S) :=
  if (x0.1 28 5) = 0 then
  some ((1 : Int32), x0)
  else
  (fX4_touches 1 p2 (x0.1 28 4) x0).bind (fun o2 => un2 o2 (fun v4 x3 =>
  if v4 = 0 then
  some ((0 : Int32), x3)
  else
  some ((1 : Int32), x3)))
theorem dX3_ofWhole_0 : decode cX3_ofWhole 0 = .ok (.aload_n 0, 1) := by decide +kernel
theorem dX3_ofWhole_1 : decode cX3_ofWhole 1 = .ok (.getfield 45, 3) := by decide +kernel
theorem dX3_ofWhole_4 : decode cX3_ofWhole 4 = .ok (.ifCond .eq 22, 3) := by decide +kernel
theorem dX3_ofWhole_7 : decode cX3_ofWhole 7 = .ok (.aload_n 0, 1) := by decide +kernel
theorem dX3_ofWhole_8 : decode cX3_ofWhole 8 = .ok (.getfield 21, 3) := by decide +kernel
theorem dX3_ofWhole_11 : decode cX3_ofWhole 11 = .ok (.iload_n 2, 1) := by decide +kernel
theorem dX3_ofWhole_12 : decode cX3_ofWhole 12 = .ok (.aload_n 0, 1) := by decide +kernel
theorem dX3_ofWhole_13 : decode cX3_ofWhole 13 = .ok (.getfield 58, 3) := by decide +kernel
theorem dX3_ofWhole_16 : decode cX3_ofWhole 16 = .ok (.invokevirtual 61, 3) := by decide +kernel
theorem dX3_ofWhole_19 : decode cX3_ofWhole 19 = .ok (.ifCond .ne 7, 3) := by decide +kernel
theorem dX3_ofWhole_22 : decode cX3_ofWhole 22 = .ok (.iconst 0, 1) := by decide +kernel
theorem dX3_ofWhole_23 : decode cX3_ofWhole 23 = .ok (.goto 4, 3) := by decide +kernel
theorem dX3_ofWhole_26 : decode cX3_ofWhole 26 = .ok (.iconst 1, 1) := by decide +kernel
theorem dX3_ofWhole_27 : decode cX3_ofWhole 27 = .ok (.ireturn, 1) := by decide +kernel
set_option maxHeartbeats 4000000 in
set_option maxRecDepth 100000 in
theorem cX3_ofWhole_k_28 {l : Launch} {D : va_G} {a : Nat → Nat} {k : Nat → ClassId} {p1 : Int32} {p2 : Int32} {x0 xz : bq_S} {rz : Int32} (h : fX3_ofWhole  p1 p2 x0 = some (rz, xz)) : bq_M l D bq_cl (bq_ty k) (bq_wC a k) yX3_ofWhole cX3_ofWhole 3 (some .int) { frames := 1, cells := 0, slots := 0, locals := 22 } [.ref (a 28), .int p1, .int p2] x0 (some rz) xz := by
  refine bq_ofW RX3 [(0, .ref (a 28)), (1, .int p1), (2, .int p2)] (by decide +kernel) rfl (Nat.le_of_ble_eq_true rfl) rfl (bq_adC a k) ?_
  intro p e s m below meth c A Q ls S hK hD hA hR hS hP hl
  have hx := S.1; have hb := S.2.1; have hml := S.2.2.1; have hown := S.2.2.2.1; have hts := S.2.2.2.2
  have hret : ∀ z, some z = some (rz, xz) → (rz, xz) = z := fun z h => (Option.some.inj h).symm
  unfold fX3_ofWhole at h
  refine lv_aload_n hx hb dX3_ofWhole_0 rfl (lv_at hl 0 rfl) ?_
  refine bq_get (q0 := 28) S hK hP fl_X3_45_X3_5 rfl rfl rfl dX3_ofWhole_1 ?_
  refine lv_if_eq (tgt := 26) hx hb dX3_ofWhole_4 (by decide) (fun c1 => ?_) (fun c1 => ?_)
  · replace h := (if_pos c1).symm.trans h
    refine lv_iconst (v := (1 : Int32)) hx hb dX3_ofWhole_26 (by decide) ?_
    obtain ⟨e1, e2⟩ := Prod.mk.inj (hret _ h)
    exact hR _ _ _ _ _ (congrArg some e1) rfl (by rw [e2]; exact hP) hS dX3_ofWhole_27
  · replace h := (if_neg c1).symm.trans h
    refine lv_aload_n hx hb dX3_ofWhole_7 rfl (lv_at hl 0 rfl) ?_
    refine bq_get (q0 := 28) S hK hP fl_X3_21_X3_0 rfl rfl rfl dX3_ofWhole_8 ?_
    refine lv_iload_n hx hb dX3_ofWhole_11 rfl (lv_at hl 2 rfl) ?_
    refine lv_aload_n hx hb dX3_ofWhole_12 rfl (lv_at hl 0 rfl) ?_
    refine bq_get (q0 := 28) S hK hP fl_X3_58_X3_4 rfl rfl rfl dX3_ofWhole_13 ?_
    obtain ⟨o2, ho2, h⟩ := Option.bind_eq_some_iff.mp h
    obtain ⟨v4, x3⟩ := o2
    replace h := un2_e h
    refine bq_callVi (q0 := 1) (As := [.int _, .int _]) S hK hD hA hP hS (cX4_touches_k_1 ho2) hd_yX4_touches ml_X3_61 in_yX4_touches (hts _ sl_X4_X4_yX4_touches) ⟨rfl, rfl⟩ ⟨by decide, by decide⟩ rfl rfl rfl hl.1 rfl (Nat.le_of_ble_eq_true rfl) ⟨Nat.zero_le _, Nat.zero_le _⟩ dX3_ofWhole_16 (fun H locs hP hS => ?_)
    refine lv_if_ne (tgt := 26) hx hb dX3_ofWhole_19 (by decide) (fun c5 => ?_) (fun c5 => ?_)
    · replace h := (if_neg c5).symm.trans h
      refine lv_iconst (v := (1 : Int32)) hx hb dX3_ofWhole_26 (by decide) ?_
      obtain ⟨e1, e2⟩ := Prod.mk.inj (hret _ h)
      exact hR _ _ _ _ _ (congrArg some e1) rfl (by rw [e2]; exact hP) hS dX3_ofWhole_27
    · replace h := (if_pos c5).symm.trans h
      refine lv_iconst (v := (0 : Int32)) hx hb dX3_ofWhole_22 (by decide) ?_
      refine lv_goto (tgt := 27) hx hb dX3_ofWhole_23 (by decide) ?_
      obtain ⟨e1, e2⟩ := Prod.mk.inj (hret _ h)
      exact hR _ _ _ _ _ (congrArg some e1) rfl (by rw [e2]; exact hP) hS dX3_ofWhole_27
def fX8X3_from_b54 (n : Nat) (v16 : Int32) (v17 : Int32) (v : Int32 × bq_S) : Option ((Int32 × bq_S) ⊕ (Int32 × bq_S)) :=
  un2 v (fun v18 x19 =>
  if (8 : Int32) ≤ v18 then
  some (.inr (v18, x19))
  else
  (fX9_has v16 v18 x19).bind (fun o21 => un2 o21 (fun v23 x22 =>
  if v23 = 0 then
  bd (v18 + (1 : Int32)) (fun v25 =>
  some (.inl (v25, x22)))
  else
  (fX8_index v16 v18 x22).bind (fun o26 => un2 o26 (fun v28 x27 =>
  if v17 = (x27.1 28 3) then
  (fX3_ofWhole v16 v18 x27).bind (fun o36 => un2 o36 (fun v38 x37 =>
  if ok_i v28 2048 then
  bd (bq_sI x37 25 v28.toNatClampNeg v38) (fun x39 =>
  bd (v18 + (1 : Int32)) (fun v41 =>
  some (.inl (v41, x39))))
  else none))
  else
  (fX8X3_ofLonger n v16 v18 x27).bind (fun o30 => un2 o30 (fun v32 x31 =>
  if ok_i v28 2048 then
  bd (bq_sI x31 25 v28.toNatClampNeg v32) (fun x33 =>
  bd (v18 + (1 : Int32)) (fun v35 =>
  some (.inl (v35, x33))))
  else none)))))))
def fX8X3_from_b9 (n : Nat) (v : Int32 × bq_S) : Option ((Int32 × bq_S) ⊕ (Int32 × bq_S)) :=
  un2 v (fun v2 x3 =>
  if v2 ≤ 0 then
  some (.inr (v2, x3))
  else
  (fJ6_bitCount v2 x3).bind (fun o5 => un2 o5 (fun v7 x6 =>
  if (v2 &&& ((x6.1 28 2) ^^^ (-1 : Int32))) = 0 then
  (fX9_has v2 (x6.1 28 4) x6).bind (fun o10 => un2 o10 (fun v12 x11 =>
  if v12 = 0 then
  bd (v2 + (-1 : Int32)) (fun v14 =>
  some (.inl (v14, x11)))
  else
  if v7 ≤ (x11.1 28 3) then
  (wh n (fX8X3_from_b54 n v2 v7) ((0 : Int32), x11)).bind (fun e42 => un2 e42 (fun v43 x44 =>
  bd (v2 + (-1 : Int32)) (fun v45 =>
  some (.inl (v45, x44)))))
  else
  bd (v2 + (-1 : Int32)) (fun v46 =>
  some (.inl (v46, x11)))))
  else
  bd (v2 + (-1 : Int32)) (fun v9 =>
  some (.inl (v9, x6))))))
def fX8X3_from (n : Nat) (p1 : Int32) (x0 : bq_S) : Option (Int32 × bq_S) :=
  bd (bq_sI x0 28 4 p1) (fun x1 =>
  (wh n (fX8X3_from_b9 n) ((255 : Int32), x1)).bind (fun e47 => un2 e47 (fun v48 x49 =>
  (fX9_bit (x49.1 28 4) x49).bind (fun o50 => un2 o50 (fun v52 x51 =>
  (fX8_index v52 (x51.1 28 4) x51).bind (fun o53 => un2 o53 (fun v55 x54 =>
  if ok_i v55 2048 then
  some ((x54.1 25 v55.toNatClampNeg), x54)
  else none)))))))
set_option maxHeartbeats 4000000 in
set_option maxRecDepth 100000 in
theorem cX8X3_from_k_28 {l : Launch} {D : va_G} {a : Nat → Nat} {k : Nat → ClassId} {n : Nat} {p1 : Int32} {x0 xz : bq_S} {rz : Int32} (h : fX8X3_from n p1 x0 = some (rz, xz)) : bq_M l D bq_cl (bq_ty k) (bq_wC a k) yX8_from cX8_from 5 (some .int) { frames := 3, cells := 0, slots := 0, locals := 71 } [.ref (a 28), .int p1] x0 (some rz) xz := by
  refine bq_ofW RX8 [(0, .ref (a 28)), (1, .int p1)] (by decide +kernel) rfl (Nat.le_of_ble_eq_true rfl) rfl (bq_adC a k) ?_
  intro p e s m below meth c A Q ls S hK hD hA hR hS hP hl
  have hx := S.1; have hb := S.2.1; have hml := S.2.2.1; have hown := S.2.2.2.1; have hts := S.2.2.2.2
  have hret : ∀ z, some z = some (rz, xz) → (rz, xz) = z := fun z h => (Option.some.inj h).symm
  unfold fX8X3_from at h
  refine lv_aload_n hx hb dX8_from_0 rfl (lv_at hl 0 rfl) ?_
  refine lv_iload_n hx hb dX8_from_1 rfl (lv_at hl 1 rfl) ?_
  obtain ⟨x1, hx1, h⟩ := bq_b h
  refine bq_put (x1 := x1) (q0 := 28) (ty := .int) S hK hD hP hS fl_X8_26_X3_4 bt_X3 rfl (by decide +kernel) rfl rfl (Nat.le_of_ble_eq_true rfl) rfl rfl (by rw [hx1]; rfl) dX8_from_2 (fun H locs hP hS => ?_)
  refine lv_sipush (v := (255 : Int32)) hx hb dX8_from_5 (by decide) ?_
  refine lv_istore_n (lv' := [(2, .int (255 : Int32)), (0, .ref (a 28)), (1, .int p1)]) hx hb dX8_from_8 rfl hl (by decide) rfl (fun ls hl => ?_)
  have hl9 : ∀ (kf : Nat) (v2 : Int32) (x3 : bq_S) (eo : Int32 × bq_S) (H : Heap) (locs : List Loc) (ls : Array Slot), wh kf (fX8X3_from_b9 n ) (v2, x3) = some eo → va_P D bq_cl (bq_wC a k x3) H → va_S A s.heap H locs → lv_has ls 5 [(0, .ref (a 28)), (2, .int v2)] → (∀ (H : Heap) (locs : List Loc) (ls : Array Slot) (v48 : Int32) (x49 : bq_S), eo = (v48, x49) → va_P D bq_cl (bq_wC a k x49) H → va_S A s.heap H locs → lv_has ls 5 [(0, .ref (a 28))] → W p l e { frames := 3, cells := 0, slots := 0, locals := 71 } s m [.ref (a 28), .int p1].toArray below meth c H locs 0 0 Q (F0 m 118 ls [])) → W p l e { frames := 3, cells := 0, slots := 0, locals := 71 } s m [.ref (a 28), .int p1].toArray below meth c H locs 0 0 Q (F0 m 9 ls []) := by
    intro  kf
    induction kf with
    | zero => intro v2 x3 eo H locs ls h; cases h
    | succ kf ih =>
      intro v2 x3 eo H locs ls h hP hS hl kx
      obtain ⟨out, h, hw⟩ := wh_s h
      unfold fX8X3_from_b9 at h
      replace h := un2_e h
      refine lv_iload_n hx hb dX8_from_9 rfl (lv_at hl 1 rfl) ?_
      refine lv_if_le (tgt := 118) hx hb dX8_from_10 (by decide) (fun c4 => ?_) (fun c4 => ?_)
      · replace h := (if_pos c4).symm.trans h
        cases h
        exact kx _ _ _ _ _ (Option.some.inj hw).symm hP hS (lv_sub hl [0] rfl)
      · replace h := (if_neg c4).symm.trans h
        refine lv_iload_n hx hb dX8_from_13 rfl (lv_at hl 1 rfl) ?_
        obtain ⟨o5, ho5, h⟩ := Option.bind_eq_some_iff.mp h
        obtain ⟨v7, x6⟩ := o5
        replace h := un2_e h
        refine bq_callSi (As := [.int _]) S hK hD hA hP hS (cJ6_bitCount_k ho5) hd_yJ6_bitCount_0f7a4 ml_X8_33 st_yJ6_bitCount_0f7a4 ⟨rfl, rfl⟩ ⟨by decide, by decide⟩ rfl hl.1 rfl (Nat.le_of_ble_eq_true rfl) ⟨Nat.zero_le _, Nat.zero_le _⟩ dX8_from_14 (fun H locs hP hS => ?_)
        refine lv_istore_n (lv' := [(3, .int v7), (0, .ref (a 28)), (2, .int v2)]) hx hb dX8_from_17 rfl hl (by decide) rfl (fun ls hl => ?_)
        refine lv_iload_n hx hb dX8_from_18 rfl (lv_at hl 2 rfl) ?_
        refine lv_aload_n hx hb dX8_from_19 rfl (lv_at hl 1 rfl) ?_
        refine bq_get (q0 := 28) S hK hP fl_X8_19_X3_2 rfl rfl rfl dX8_from_20 ?_
        refine lv_iconst (v := (-1 : Int32)) hx hb dX8_from_23 (by decide) ?_
        refine lv_ixor hx hb dX8_from_24 ?_
        refine lv_iand hx hb dX8_from_25 ?_
        refine lv_if_ne (tgt := 112) hx hb dX8_from_26 (by decide) (fun c8 => ?_) (fun c8 => ?_)
        · replace h := (if_neg c8).symm.trans h
          obtain ⟨v9, hv9, h⟩ := bq_b h
          refine lv_iinc (v := v9) (lv' := [(2, .int v9), (3, .int v7), (0, .ref (a 28))]) hx hb dX8_from_112 hl (k := 2) rfl (by rw [hv9]; rfl) (by decide) rfl (fun ls hl => ?_)
          refine lv_goto (tgt := 9) hx hb dX8_from_115 (by decide) ?_
          cases h
          exact ih _ _ _ _ _ _ hw hP hS (lv_sub hl [2, 0] rfl) kx
        · replace h := (if_pos c8).symm.trans h
          refine lv_iload_n hx hb dX8_from_29 rfl (lv_at hl 2 rfl) ?_
          refine lv_aload_n hx hb dX8_from_30 rfl (lv_at hl 1 rfl) ?_
          refine bq_get (q0 := 28) S hK hP fl_X8_26_X3_4 rfl rfl rfl dX8_from_31 ?_
          obtain ⟨o10, ho10, h⟩ := Option.bind_eq_some_iff.mp h
          obtain ⟨v12, x11⟩ := o10
          replace h := un2_e h
          refine bq_callSNi (As := [.int _, .int _]) S hK hD hA hP hS (cX9_has_k ho10) hd_yX9_has mn_X8_39 st_yX9_has ⟨rfl, rfl⟩ ⟨by decide, by decide⟩ rfl hl.1 rfl (Nat.le_of_ble_eq_true rfl) ⟨Nat.zero_le _, Nat.zero_le _⟩ dX8_from_34 (fun H locs hP hS => ?_)
          refine lv_if_eq (tgt := 112) hx hb dX8_from_37 (by decide) (fun c13 => ?_) (fun c13 => ?_)
          · replace h := (if_pos c13).symm.trans h
            obtain ⟨v14, hv14, h⟩ := bq_b h
            refine lv_iinc (v := v14) (lv' := [(2, .int v14), (3, .int v7), (0, .ref (a 28))]) hx hb dX8_from_112 hl (k := 2) rfl (by rw [hv14]; rfl) (by decide) rfl (fun ls hl => ?_)
            refine lv_goto (tgt := 9) hx hb dX8_from_115 (by decide) ?_
            cases h
            exact ih _ _ _ _ _ _ hw hP hS (lv_sub hl [2, 0] rfl) kx
          · replace h := (if_neg c13).symm.trans h
            refine lv_iload_n hx hb dX8_from_40 rfl (lv_at hl 0 rfl) ?_
            refine lv_aload_n hx hb dX8_from_41 rfl (lv_at hl 1 rfl) ?_
            refine bq_get (q0 := 28) S hK hP fl_X8_23_X3_3 rfl rfl rfl dX8_from_42 ?_
            refine lv_icmp_le (tgt := 51) hx hb dX8_from_45 (by decide) (fun c15 => ?_) (fun c15 => ?_)
            · replace h := (if_pos c15).symm.trans h
              refine lv_iconst (v := (0 : Int32)) hx hb dX8_from_51 (by decide) ?_
              refine lv_istore (lv' := [(4, .int (0 : Int32)), (3, .int v7), (0, .ref (a 28)), (2, .int v2)]) hx hb dX8_from_52 hl (by decide) rfl (fun ls hl => ?_)
              have hl54 : ∀ (v16 : Int32) (v17 : Int32) (kf : Nat) (v18 : Int32) (x19 : bq_S) (eo : Int32 × bq_S) (H : Heap) (locs : List Loc) (ls : Array Slot), wh kf (fX8X3_from_b54 n v16 v17) (v18, x19) = some eo → va_P D bq_cl (bq_wC a k x19) H → va_S A s.heap H locs → lv_has ls 5 [(0, .ref (a 28)), (2, .int v16), (3, .int v17), (4, .int v18)] → (∀ (H : Heap) (locs : List Loc) (ls : Array Slot) (v43 : Int32) (x44 : bq_S), eo = (v43, x44) → va_P D bq_cl (bq_wC a k x44) H → va_S A s.heap H locs → lv_has ls 5 [(0, .ref (a 28)), (2, .int v16)] → W p l e { frames := 3, cells := 0, slots := 0, locals := 71 } s m [.ref (a 28), .int p1].toArray below meth c H locs 0 0 Q (F0 m 112 ls [])) → W p l e { frames := 3, cells := 0, slots := 0, locals := 71 } s m [.ref (a 28), .int p1].toArray below meth c H locs 0 0 Q (F0 m 54 ls []) := by
                intro v16 v17 kf
                induction kf with
                | zero => intro v18 x19 eo H locs ls h; cases h
                | succ kf ih =>
                  intro v18 x19 eo H locs ls h hP hS hl kx
                  obtain ⟨out, h, hw⟩ := wh_s h
                  unfold fX8X3_from_b54 at h
                  replace h := un2_e h
                  refine lv_iload hx hb dX8_from_54 (lv_at hl 3 rfl) ?_
                  refine lv_bipush (v := (8 : Int32)) hx hb dX8_from_56 (by decide) ?_
                  refine lv_icmp_ge (tgt := 112) hx hb dX8_from_58 (by decide) (fun c20 => ?_) (fun c20 => ?_)
                  · replace h := (if_pos c20).symm.trans h
                    cases h
                    exact kx _ _ _ _ _ (Option.some.inj hw).symm hP hS (lv_sub hl [0, 1] rfl)
                  · replace h := (if_neg c20).symm.trans h
                    refine lv_iload_n hx hb dX8_from_61 rfl (lv_at hl 1 rfl) ?_
                    refine lv_iload hx hb dX8_from_62 (lv_at hl 3 rfl) ?_
                    obtain ⟨o21, ho21, h⟩ := Option.bind_eq_some_iff.mp h
                    obtain ⟨v23, x22⟩ := o21
                    replace h := un2_e h
                    refine bq_callSNi (As := [.int _, .int _]) S hK hD hA hP hS (cX9_has_k ho21) hd_yX9_has mn_X8_39 st_yX9_has ⟨rfl, rfl⟩ ⟨by decide, by decide⟩ rfl hl.1 rfl (Nat.le_of_ble_eq_true rfl) ⟨Nat.zero_le _, Nat.zero_le _⟩ dX8_from_64 (fun H locs hP hS => ?_)
                    refine lv_if_eq (tgt := 106) hx hb dX8_from_67 (by decide) (fun c24 => ?_) (fun c24 => ?_)
                    · replace h := (if_pos c24).symm.trans h
                      obtain ⟨v25, hv25, h⟩ := bq_b h
                      refine lv_iinc (v := v25) (lv' := [(4, .int v25), (0, .ref (a 28)), (2, .int v16), (3, .int v17)]) hx hb dX8_from_106 hl (k := 3) rfl (by rw [hv25]; rfl) (by decide) rfl (fun ls hl => ?_)
                      refine lv_goto (tgt := 54) hx hb dX8_from_109 (by decide) ?_
                      cases h
                      exact ih _ _ _ _ _ _ hw hP hS (lv_sub hl [1, 2, 3, 0] rfl) kx
                    · replace h := (if_neg c24).symm.trans h
                      refine lv_aload_n hx hb dX8_from_70 rfl (lv_at hl 0 rfl) ?_
                      refine bq_get (q0 := 28) S hK hP fl_X8_15_X3_1 rfl rfl rfl dX8_from_71 ?_
                      refine lv_iload_n hx hb dX8_from_74 rfl (lv_at hl 1 rfl) ?_
                      refine lv_iload hx hb dX8_from_75 (lv_at hl 3 rfl) ?_
                      obtain ⟨o26, ho26, h⟩ := Option.bind_eq_some_iff.mp h
                      obtain ⟨v28, x27⟩ := o26
                      replace h := un2_e h
                      refine bq_callSi (As := [.int _, .int _]) S hK hD hA hP hS (cX8_index_k ho26) hd_yX8_index ml_X8_43 st_yX8_index ⟨rfl, rfl⟩ ⟨by decide, by decide⟩ rfl hl.1 rfl (Nat.le_of_ble_eq_true rfl) ⟨Nat.zero_le _, Nat.zero_le _⟩ dX8_from_77 (fun H locs hP hS => ?_)
                      refine lv_iload_n hx hb dX8_from_80 rfl (lv_at hl 2 rfl) ?_
                      refine lv_aload_n hx hb dX8_from_81 rfl (lv_at hl 0 rfl) ?_
                      refine bq_get (q0 := 28) S hK hP fl_X8_23_X3_3 rfl rfl rfl dX8_from_82 ?_
                      refine lv_icmp_ne (tgt := 98) hx hb dX8_from_85 (by decide) (fun c29 => ?_) (fun c29 => ?_)
                      · replace h := (if_neg c29).symm.trans h
                        refine lv_aload_n hx hb dX8_from_98 rfl (lv_at hl 0 rfl) ?_
                        refine lv_iload_n hx hb dX8_from_99 rfl (lv_at hl 1 rfl) ?_
                        refine lv_iload hx hb dX8_from_100 (lv_at hl 3 rfl) ?_
                        obtain ⟨o30, ho30, h⟩ := Option.bind_eq_some_iff.mp h
                        obtain ⟨v32, x31⟩ := o30
                        replace h := un2_e h
                        refine bq_callVi (q0 := 28) (As := [.int _, .int _]) S hK hD hA hP hS (cX8X3_ofLonger_k_28 ho30) hd_yX8_ofLonger ml_X8_50 in_yX8_ofLonger (hts _ sl_X3_X8_yX8_ofLonger) ⟨rfl, rfl⟩ ⟨by decide, by decide⟩ rfl rfl rfl hl.1 rfl (Nat.le_of_ble_eq_true rfl) ⟨Nat.zero_le _, Nat.zero_le _⟩ dX8_from_102 (fun H locs hP hS => ?_)
                        obtain ⟨g34, h⟩ := bq_gd h
                        obtain ⟨x33, hx33, h⟩ := bq_b h
                        refine bq_iast (x1 := x33) (q0 := 25) (t0 := 0) S hK hD hP hS rfl rfl g34 (by rw [hx33]; rfl) dX8_from_105 (fun H locs hP hS => ?_)
                        obtain ⟨v35, hv35, h⟩ := bq_b h
                        refine lv_iinc (v := v35) (lv' := [(4, .int v35), (0, .ref (a 28)), (2, .int v16), (3, .int v17)]) hx hb dX8_from_106 hl (k := 3) rfl (by rw [hv35]; rfl) (by decide) rfl (fun ls hl => ?_)
                        refine lv_goto (tgt := 54) hx hb dX8_from_109 (by decide) ?_
                        cases h
                        exact ih _ _ _ _ _ _ hw hP hS (lv_sub hl [1, 2, 3, 0] rfl) kx
                      · replace h := (if_pos c29).symm.trans h
                        refine lv_aload_n hx hb dX8_from_88 rfl (lv_at hl 0 rfl) ?_
                        refine lv_iload_n hx hb dX8_from_89 rfl (lv_at hl 1 rfl) ?_
                        refine lv_iload hx hb dX8_from_90 (lv_at hl 3 rfl) ?_
                        obtain ⟨o36, ho36, h⟩ := Option.bind_eq_some_iff.mp h
                        obtain ⟨v38, x37⟩ := o36
                        replace h := un2_e h
                        refine bq_callUi (q0 := 28) (owner := "BesideQuotes$Ways") (As := [.int _, .int _]) S hK hD hA hP hS (cX3_ofWhole_k_28 ho36) hd_yX3_ofWhole ml_X8_47 in_yX3_ofWhole (hts _ sl_X3_X8_yX3_ofWhole) sm_X8_ofWhole dc_X8_ofWhole (by decide +kernel) ⟨rfl, rfl⟩ ⟨by decide, by decide⟩ rfl rfl rfl hl.1 rfl (Nat.le_of_ble_eq_true rfl) ⟨Nat.zero_le _, Nat.zero_le _⟩ dX8_from_92 (fun H locs hP hS => ?_)
                        refine lv_goto (tgt := 105) hx hb dX8_from_95 (by decide) ?_
                        obtain ⟨g40, h⟩ := bq_gd h
                        obtain ⟨x39, hx39, h⟩ := bq_b h
                        refine bq_iast (x1 := x39) (q0 := 25) (t0 := 0) S hK hD hP hS rfl rfl g40 (by rw [hx39]; rfl) dX8_from_105 (fun H locs hP hS => ?_)
                        obtain ⟨v41, hv41, h⟩ := bq_b h
                        refine lv_iinc (v := v41) (lv' := [(4, .int v41), (0, .ref (a 28)), (2, .int v16), (3, .int v17)]) hx hb dX8_from_106 hl (k := 3) rfl (by rw [hv41]; rfl) (by decide) rfl (fun ls hl => ?_)
                        refine lv_goto (tgt := 54) hx hb dX8_from_109 (by decide) ?_
                        cases h
                        exact ih _ _ _ _ _ _ hw hP hS (lv_sub hl [1, 2, 3, 0] rfl) kx
              obtain ⟨e42, he42, h⟩ := Option.bind_eq_some_iff.mp h
              refine hl54 _ _ n _ _ e42 _ _ _ he42 hP hS (lv_sub hl [2, 3, 1, 0] rfl) (fun H locs ls v43 x44 hz hP hS hl => ?_)
              subst hz
              replace h := un2_e h
              obtain ⟨v45, hv45, h⟩ := bq_b h
              refine lv_iinc (v := v45) (lv' := [(2, .int v45), (0, .ref (a 28))]) hx hb dX8_from_112 hl (k := 1) rfl (by rw [hv45]; rfl) (by decide) rfl (fun ls hl => ?_)
              refine lv_goto (tgt := 9) hx hb dX8_from_115 (by decide) ?_
              cases h
              exact ih _ _ _ _ _ _ hw hP hS (lv_sub hl [1, 0] rfl) kx
            · replace h := (if_neg c15).symm.trans h
              refine lv_goto (tgt := 112) hx hb dX8_from_48 (by decide) ?_
              obtain ⟨v46, hv46, h⟩ := bq_b h
              refine lv_iinc (v := v46) (lv' := [(2, .int v46), (3, .int v7), (0, .ref (a 28))]) hx hb dX8_from_112 hl (k := 2) rfl (by rw [hv46]; rfl) (by decide) rfl (fun ls hl => ?_)
              refine lv_goto (tgt := 9) hx hb dX8_from_115 (by decide) ?_
              cases h
              exact ih _ _ _ _ _ _ hw hP hS (lv_sub hl [2, 0] rfl) kx
  obtain ⟨e47, he47, h⟩ := Option.bind_eq_some_iff.mp h
  refine hl9 n _ _ e47 _ _ _ he47 hP hS (lv_sub hl [1, 0] rfl) (fun H locs ls v48 x49 hz hP hS hl => ?_)
  subst hz
  replace h := un2_e h
  refine lv_aload_n hx hb dX8_from_118 rfl (lv_at hl 0 rfl) ?_
  refine bq_get (q0 := 28) S hK hP fl_X8_15_X3_1 rfl rfl rfl dX8_from_119 ?_
  refine lv_aload_n hx hb dX8_from_122 rfl (lv_at hl 0 rfl) ?_
  refine bq_get (q0 := 28) S hK hP fl_X8_26_X3_4 rfl rfl rfl dX8_from_123 ?_
  obtain ⟨o50, ho50, h⟩ := Option.bind_eq_some_iff.mp h
  obtain ⟨v52, x51⟩ := o50
  replace h := un2_e h
  refine bq_callSNi (As := [.int _]) S hK hD hA hP hS (cX9_bit_k ho50) hd_yX9_bit mn_X8_53 st_yX9_bit ⟨rfl, rfl⟩ ⟨by decide, by decide⟩ rfl hl.1 rfl (Nat.le_of_ble_eq_true rfl) ⟨Nat.zero_le _, Nat.zero_le _⟩ dX8_from_126 (fun H locs hP hS => ?_)
  refine lv_aload_n hx hb dX8_from_129 rfl (lv_at hl 0 rfl) ?_
  refine bq_get (q0 := 28) S hK hP fl_X8_26_X3_4 rfl rfl rfl dX8_from_130 ?_
  obtain ⟨o53, ho53, h⟩ := Option.bind_eq_some_iff.mp h
  obtain ⟨v55, x54⟩ := o53
  replace h := un2_e h
  refine bq_callSi (As := [.int _, .int _]) S hK hD hA hP hS (cX8_index_k ho53) hd_yX8_index ml_X8_43 st_yX8_index ⟨rfl, rfl⟩ ⟨by decide, by decide⟩ rfl hl.1 rfl (Nat.le_of_ble_eq_true rfl) ⟨Nat.zero_le _, Nat.zero_le _⟩ dX8_from_133 (fun H locs hP hS => ?_)
  obtain ⟨g56, h⟩ := bq_gd h
  refine va_iald (D := D) hx hb hK hP 25 0 rfl rfl g56 dX8_from_136 ?_
  obtain ⟨e1, e2⟩ := Prod.mk.inj (hret _ h)
  exact hR _ _ _ _ _ (congrArg some e1) rfl (by rw [e2]; exact hP) hS dX8_from_137
def fX3_greatest_b30 (n : Nat) (v10 : Int32) (v : Int32 × Int32 × bq_S) : Option ((Int32 × Int32 × bq_S) ⊕ (Int32 × Int32 × bq_S)) :=
  un3 v (fun v11 v12 x13 =>
  if (8 : Int32) ≤ v12 then
  some (.inr (v11, v12, x13))
  else
  (fX9_has (x13.1 28 2) v12 x13).bind (fun o15 => un2 o15 (fun v17 x16 =>
  if v17 = 0 then
  bd (v12 + (1 : Int32)) (fun v19 =>
  some (.inl (v11, v19, x16)))
  else
  (fX8X3_from n v12 x16).bind (fun o20 => un2 o20 (fun v22 x21 =>
  bd (v11 ||| v22) (fun v23 =>
  bd (v12 + (1 : Int32)) (fun v24 =>
  some (.inl (v23, v24, x21)))))))))
def fX3_greatest_j115 (n : Nat) (v29 : Int32) (v30 : Int32) (v41 : Int32) (v42 : Int32) (v43 : Int32) (x44 : bq_S) : Option ((Int32 × Int32 × bq_S) ⊕ (Int32 × Int32 × bq_S)) :=
  bd (if v42 < v43 then v43 else v42) (fun v45 =>
  bd (v41 + (1 : Int32)) (fun v46 =>
  some (.inl (v45, v46, x44))))
def fX3_greatest_b73 (n : Nat) (v29 : Int32) (v30 : Int32) (v : Int32 × Int32 × bq_S) : Option ((Int32 × Int32 × bq_S) ⊕ (Int32 × Int32 × bq_S)) :=
  un3 v (fun v31 v32 x33 =>
  if (8 : Int32) ≤ v32 then
  some (.inr (v31, v32, x33))
  else
  (fX9_has v30 v32 x33).bind (fun o35 => un2 o35 (fun v37 x36 =>
  if v37 = 0 then
  bd (v32 + (1 : Int32)) (fun v39 =>
  some (.inl (v31, v39, x36)))
  else
  if (x36.1 28 5) = 0 then
  fX3_greatest_j115 n v29 v30 v32 v31 v32 x36
  else
  fX3_greatest_j115 n v29 v30 v32 v31 (if ((v29 - (2 : Int32)) - v32) < v32 then ((v29 - (2 : Int32)) - v32) else v32) x36)))
def fX3_greatest (n : Nat) (p1 : Int32) (p2 : Int32) (x0 : bq_S) : Option (Int32 × bq_S) :=
  (fJ6_bitCount p1 x0).bind (fun o1 => un2 o1 (fun v3 x2 =>
  (fX4_closes 1 v3 x2).bind (fun o4 => un2 o4 (fun v6 x5 =>
  (fX8X3_ask p1 v3 v6 x5).bind (fun x8 =>
  bd (bq_sI x8 28 6 p2) (fun x9 =>
  (wh n (fX3_greatest_b30 n v3) ((0 : Int32), (0 : Int32), x9)).bind (fun e25 => un3 e25 (fun v26 v27 x28 =>
  (wh n (fX3_greatest_b73 n v3 v26) ((-4 : Int32), (0 : Int32), x28)).bind (fun e47 => un3 e47 (fun v48 v49 x50 =>
  some (v48, x50)))))))))))
theorem dX3_greatest_0 : decode cX3_greatest 0 = .ok (.iload_n 1, 1) := by decide +kernel
theorem dX3_greatest_1 : decode cX3_greatest 1 = .ok (.invokestatic 15, 3) := by decide +kernel
theorem dX3_greatest_4 : decode cX3_greatest 4 = .ok (.istore_n 3, 1) := by decide +kernel
theorem dX3_greatest_5 : decode cX3_greatest 5 = .ok (.aload_n 0, 1) := by decide +kernel
theorem dX3_greatest_6 : decode cX3_greatest 6 = .ok (.iload_n 1, 1) := by decide +kernel
theorem dX3_greatest_7 : decode cX3_greatest 7 = .ok (.iload_n 3, 1) := by decide +kernel
theorem dX3_greatest_8 : decode cX3_greatest 8 = .ok (.aload_n 0, 1) := by decide +kernel
theorem dX3_greatest_9 : decode cX3_greatest 9 = .ok (.getfield 21, 3) := by decide +kernel
theorem dX3_greatest_12 : decode cX3_greatest 12 = .ok (.iload_n 3, 1) := by decide +kernel
theorem dX3_greatest_13 : decode cX3_greatest 13 = .ok (.invokevirtual 25, 3) := by decide +kernel
theorem dX3_greatest_16 : decode cX3_greatest 16 = .ok (.invokevirtual 31, 3) := by decide +kernel
theorem dX3_greatest_19 : decode cX3_greatest 19 = .ok (.aload_n 0, 1) := by decide +kernel
theorem dX3_greatest_20 : decode cX3_greatest 20 = .ok (.iload_n 2, 1) := by decide +kernel
theorem dX3_greatest_21 : decode cX3_greatest 21 = .ok (.putfield 9, 3) := by decide +kernel
theorem dX3_greatest_24 : decode cX3_greatest 24 = .ok (.iconst 0, 1) := by decide +kernel
theorem dX3_greatest_25 : decode cX3_greatest 25 = .ok (.istore 4, 2) := by decide +kernel
theorem dX3_greatest_27 : decode cX3_greatest 27 = .ok (.iconst 0, 1) := by decide +kernel
theorem dX3_greatest_28 : decode cX3_greatest 28 = .ok (.istore 5, 2) := by decide +kernel
theorem dX3_greatest_30 : decode cX3_greatest 30 = .ok (.iload 5, 2) := by decide +kernel
theorem dX3_greatest_32 : decode cX3_greatest 32 = .ok (.bipush 8, 2) := by decide +kernel
theorem dX3_greatest_34 : decode cX3_greatest 34 = .ok (.if_icmp .ge 32, 3) := by decide +kernel
theorem dX3_greatest_37 : decode cX3_greatest 37 = .ok (.aload_n 0, 1) := by decide +kernel
theorem dX3_greatest_38 : decode cX3_greatest 38 = .ok (.getfield 35, 3) := by decide +kernel
theorem dX3_greatest_41 : decode cX3_greatest 41 = .ok (.iload 5, 2) := by decide +kernel
theorem dX3_greatest_43 : decode cX3_greatest 43 = .ok (.invokestatic 38, 3) := by decide +kernel
theorem dX3_greatest_46 : decode cX3_greatest 46 = .ok (.ifCond .eq 14, 3) := by decide +kernel
theorem dX3_greatest_49 : decode cX3_greatest 49 = .ok (.iload 4, 2) := by decide +kernel
theorem dX3_greatest_51 : decode cX3_greatest 51 = .ok (.aload_n 0, 1) := by decide +kernel
theorem dX3_greatest_52 : decode cX3_greatest 52 = .ok (.iload 5, 2) := by decide +kernel
theorem dX3_greatest_54 : decode cX3_greatest 54 = .ok (.invokevirtual 42, 3) := by decide +kernel
theorem dX3_greatest_57 : decode cX3_greatest 57 = .ok (.ior, 1) := by decide +kernel
theorem dX3_greatest_58 : decode cX3_greatest 58 = .ok (.istore 4, 2) := by decide +kernel
theorem dX3_greatest_60 : decode cX3_greatest 60 = .ok (.iinc 5 1, 3) := by decide +kernel
theorem dX3_greatest_63 : decode cX3_greatest 63 = .ok (.goto (-33), 3) := by decide +kernel
theorem dX3_greatest_66 : decode cX3_greatest 66 = .ok (.bipush (-4), 2) := by decide +kernel
theorem dX3_greatest_68 : decode cX3_greatest 68 = .ok (.istore 5, 2) := by decide +kernel
theorem dX3_greatest_70 : decode cX3_greatest 70 = .ok (.iconst 0, 1) := by decide +kernel
theorem dX3_greatest_71 : decode cX3_greatest 71 = .ok (.istore 6, 2) := by decide +kernel
theorem dX3_greatest_73 : decode cX3_greatest 73 = .ok (.iload 6, 2) := by decide +kernel
theorem dX3_greatest_75 : decode cX3_greatest 75 = .ok (.bipush 8, 2) := by decide +kernel
theorem dX3_greatest_77 : decode cX3_greatest 77 = .ok (.if_icmp .ge 49, 3) := by decide +kernel
theorem dX3_greatest_80 : decode cX3_greatest 80 = .ok (.iload 4, 2) := by decide +kernel
theorem dX3_greatest_82 : decode cX3_greatest 82 = .ok (.iload 6, 2) := by decide +kernel
theorem dX3_greatest_84 : decode cX3_greatest 84 = .ok (.invokestatic 38, 3) := by decide +kernel
theorem dX3_greatest_87 : decode cX3_greatest 87 = .ok (.ifCond .eq 33, 3) := by decide +kernel
theorem dX3_greatest_90 : decode cX3_greatest 90 = .ok (.iload 5, 2) := by decide +kernel
theorem dX3_greatest_92 : decode cX3_greatest 92 = .ok (.aload_n 0, 1) := by decide +kernel
theorem dX3_greatest_93 : decode cX3_greatest 93 = .ok (.getfield 45, 3) := by decide +kernel
theorem dX3_greatest_96 : decode cX3_greatest 96 = .ok (.ifCond .eq 17, 3) := by decide +kernel
theorem dX3_greatest_99 : decode cX3_greatest 99 = .ok (.iload 6, 2) := by decide +kernel
theorem dX3_greatest_101 : decode cX3_greatest 101 = .ok (.iload_n 3, 1) := by decide +kernel
theorem dX3_greatest_102 : decode cX3_greatest 102 = .ok (.iconst 2, 1) := by decide +kernel
theorem dX3_greatest_103 : decode cX3_greatest 103 = .ok (.isub, 1) := by decide +kernel
theorem dX3_greatest_104 : decode cX3_greatest 104 = .ok (.iload 6, 2) := by decide +kernel
theorem dX3_greatest_106 : decode cX3_greatest 106 = .ok (.isub, 1) := by decide +kernel
theorem dX3_greatest_107 : decode cX3_greatest 107 = .ok (.invokestatic 49, 3) := by decide +kernel
theorem dX3_greatest_110 : decode cX3_greatest 110 = .ok (.goto 5, 3) := by decide +kernel
theorem dX3_greatest_113 : decode cX3_greatest 113 = .ok (.iload 6, 2) := by decide +kernel
theorem dX3_greatest_115 : decode cX3_greatest 115 = .ok (.invokestatic 55, 3) := by decide +kernel
theorem dX3_greatest_118 : decode cX3_greatest 118 = .ok (.istore 5, 2) := by decide +kernel
theorem dX3_greatest_120 : decode cX3_greatest 120 = .ok (.iinc 6 1, 3) := by decide +kernel
theorem dX3_greatest_123 : decode cX3_greatest 123 = .ok (.goto (-50), 3) := by decide +kernel
theorem dX3_greatest_126 : decode cX3_greatest 126 = .ok (.iload 5, 2) := by decide +kernel
theorem dX3_greatest_128 : decode cX3_greatest 128 = .ok (.ireturn, 1) := by decide +kernel
set_option maxHeartbeats 4000000 in
set_option maxRecDepth 100000 in
theorem cX3_greatest_k_28 {l : Launch} {D : va_G} {a : Nat → Nat} {k : Nat → ClassId} {n : Nat} {p1 : Int32} {p2 : Int32} {x0 xz : bq_S} {rz : Int32} (h : fX3_greatest n p1 p2 x0 = some (rz, xz)) : bq_M l D bq_cl (bq_ty k) (bq_wC a k) yX3_greatest cX3_greatest 7 (some .int) { frames := 4, cells := 0, slots := 0, locals := 95 } [.ref (a 28), .int p1, .int p2] x0 (some rz) xz := by
  refine bq_ofW RX3 [(0, .ref (a 28)), (1, .int p1), (2, .int p2)] (by decide +kernel) rfl (Nat.le_of_ble_eq_true rfl) rfl (bq_adC a k) ?_
  intro p e s m below meth c A Q ls S hK hD hA hR hS hP hl
  have hx := S.1; have hb := S.2.1; have hml := S.2.2.1; have hown := S.2.2.2.1; have hts := S.2.2.2.2
  have hret : ∀ z, some z = some (rz, xz) → (rz, xz) = z := fun z h => (Option.some.inj h).symm
  unfold fX3_greatest at h
  refine lv_iload_n hx hb dX3_greatest_0 rfl (lv_at hl 1 rfl) ?_
  obtain ⟨o1, ho1, h⟩ := Option.bind_eq_some_iff.mp h
  obtain ⟨v3, x2⟩ := o1
  replace h := un2_e h
  refine bq_callSi (As := [.int _]) S hK hD hA hP hS (cJ6_bitCount_k ho1) hd_yJ6_bitCount_0f7a4 ml_X3_15 st_yJ6_bitCount_0f7a4 ⟨rfl, rfl⟩ ⟨by decide, by decide⟩ rfl hl.1 rfl (Nat.le_of_ble_eq_true rfl) ⟨Nat.zero_le _, Nat.zero_le _⟩ dX3_greatest_1 (fun H locs hP hS => ?_)
  refine lv_istore_n (lv' := [(3, .int v3), (0, .ref (a 28)), (1, .int p1), (2, .int p2)]) hx hb dX3_greatest_4 rfl hl (by decide) rfl (fun ls hl => ?_)
  refine lv_aload_n hx hb dX3_greatest_5 rfl (lv_at hl 1 rfl) ?_
  refine lv_iload_n hx hb dX3_greatest_6 rfl (lv_at hl 2 rfl) ?_
  refine lv_iload_n hx hb dX3_greatest_7 rfl (lv_at hl 0 rfl) ?_
  refine lv_aload_n hx hb dX3_greatest_8 rfl (lv_at hl 1 rfl) ?_
  refine bq_get (q0 := 28) S hK hP fl_X3_21_X3_0 rfl rfl rfl dX3_greatest_9 ?_
  refine lv_iload_n hx hb dX3_greatest_12 rfl (lv_at hl 0 rfl) ?_
  obtain ⟨o4, ho4, h⟩ := Option.bind_eq_some_iff.mp h
  obtain ⟨v6, x5⟩ := o4
  replace h := un2_e h
  refine bq_callVi (q0 := 1) (As := [.int _]) S hK hD hA hP hS (cX4_closes_k_1 ho4) hd_yX4_closes ml_X3_25 in_yX4_closes (hts _ sl_X4_X4_yX4_closes) ⟨rfl, rfl⟩ ⟨by decide, by decide⟩ rfl rfl rfl hl.1 rfl (Nat.le_of_ble_eq_true rfl) ⟨Nat.zero_le _, Nat.zero_le _⟩ dX3_greatest_13 (fun H locs hP hS => ?_)
  obtain ⟨x8, ho7, h⟩ := Option.bind_eq_some_iff.mp h
  refine bq_callUv (q0 := 28) (owner := "BesideQuotes$Ways") (As := [.int _, .int _, .int _]) S hK hD hA hP hS (cX8X3_ask_k_28 ho7) hd_yX8_ask ml_X3_31 in_yX8_ask (hts _ sl_X3_X3_yX8_ask) sm_X3_ask dc_X8_ask (by decide +kernel) ⟨rfl, rfl⟩ ⟨by decide, by decide⟩ rfl rfl rfl hl.1 rfl (Nat.le_of_ble_eq_true rfl) ⟨Nat.zero_le _, Nat.zero_le _⟩ dX3_greatest_16 (fun H locs hP hS => ?_)
  refine lv_aload_n hx hb dX3_greatest_19 rfl (lv_at hl 1 rfl) ?_
  refine lv_iload_n hx hb dX3_greatest_20 rfl (lv_at hl 3 rfl) ?_
  obtain ⟨x9, hx9, h⟩ := bq_b h
  refine bq_put (x1 := x9) (q0 := 28) (ty := .int) S hK hD hP hS fl_X3_9_X3_6 bt_X3 rfl (by decide +kernel) rfl rfl (Nat.le_of_ble_eq_true rfl) rfl rfl (by rw [hx9]; rfl) dX3_greatest_21 (fun H locs hP hS => ?_)
  refine lv_iconst (v := (0 : Int32)) hx hb dX3_greatest_24 (by decide) ?_
  refine lv_istore (lv' := [(4, .int (0 : Int32)), (3, .int v3), (0, .ref (a 28)), (1, .int p1), (2, .int p2)]) hx hb dX3_greatest_25 hl (by decide) rfl (fun ls hl => ?_)
  refine lv_iconst (v := (0 : Int32)) hx hb dX3_greatest_27 (by decide) ?_
  refine lv_istore (lv' := [(5, .int (0 : Int32)), (4, .int (0 : Int32)), (3, .int v3), (0, .ref (a 28)), (1, .int p1), (2, .int p2)]) hx hb dX3_greatest_28 hl (by decide) rfl (fun ls hl => ?_)
  have hl30 : ∀ (v10 : Int32) (kf : Nat) (v11 : Int32) (v12 : Int32) (x13 : bq_S) (eo : Int32 × Int32 × bq_S) (H : Heap) (locs : List Loc) (ls : Array Slot), wh kf (fX3_greatest_b30 n v10) (v11, v12, x13) = some eo → va_P D bq_cl (bq_wC a k x13) H → va_S A s.heap H locs → lv_has ls 7 [(0, .ref (a 28)), (3, .int v10), (4, .int v11), (5, .int v12)] → (∀ (H : Heap) (locs : List Loc) (ls : Array Slot) (v26 : Int32) (v27 : Int32) (x28 : bq_S), eo = (v26, v27, x28) → va_P D bq_cl (bq_wC a k x28) H → va_S A s.heap H locs → lv_has ls 7 [(0, .ref (a 28)), (3, .int v10), (4, .int v26)] → W p l e { frames := 4, cells := 0, slots := 0, locals := 95 } s m [.ref (a 28), .int p1, .int p2].toArray below meth c H locs 0 0 Q (F0 m 66 ls [])) → W p l e { frames := 4, cells := 0, slots := 0, locals := 95 } s m [.ref (a 28), .int p1, .int p2].toArray below meth c H locs 0 0 Q (F0 m 30 ls []) := by
    intro v10 kf
    induction kf with
    | zero => intro v11 v12 x13 eo H locs ls h; cases h
    | succ kf ih =>
      intro v11 v12 x13 eo H locs ls h hP hS hl kx
      obtain ⟨out, h, hw⟩ := wh_s h
      unfold fX3_greatest_b30 at h
      replace h := un3_e h
      refine lv_iload hx hb dX3_greatest_30 (lv_at hl 3 rfl) ?_
      refine lv_bipush (v := (8 : Int32)) hx hb dX3_greatest_32 (by decide) ?_
      refine lv_icmp_ge (tgt := 66) hx hb dX3_greatest_34 (by decide) (fun c14 => ?_) (fun c14 => ?_)
      · replace h := (if_pos c14).symm.trans h
        cases h
        exact kx _ _ _ _ _ _ (Option.some.inj hw).symm hP hS (lv_sub hl [0, 1, 2] rfl)
      · replace h := (if_neg c14).symm.trans h
        refine lv_aload_n hx hb dX3_greatest_37 rfl (lv_at hl 0 rfl) ?_
        refine bq_get (q0 := 28) S hK hP fl_X3_35_X3_2 rfl rfl rfl dX3_greatest_38 ?_
        refine lv_iload hx hb dX3_greatest_41 (lv_at hl 3 rfl) ?_
        obtain ⟨o15, ho15, h⟩ := Option.bind_eq_some_iff.mp h
        obtain ⟨v17, x16⟩ := o15
        replace h := un2_e h
        refine bq_callSNi (As := [.int _, .int _]) S hK hD hA hP hS (cX9_has_k ho15) hd_yX9_has mn_X3_38 st_yX9_has ⟨rfl, rfl⟩ ⟨by decide, by decide⟩ rfl hl.1 rfl (Nat.le_of_ble_eq_true rfl) ⟨Nat.zero_le _, Nat.zero_le _⟩ dX3_greatest_43 (fun H locs hP hS => ?_)
        refine lv_if_eq (tgt := 60) hx hb dX3_greatest_46 (by decide) (fun c18 => ?_) (fun c18 => ?_)
        · replace h := (if_pos c18).symm.trans h
          obtain ⟨v19, hv19, h⟩ := bq_b h
          refine lv_iinc (v := v19) (lv' := [(5, .int v19), (0, .ref (a 28)), (3, .int v10), (4, .int v11)]) hx hb dX3_greatest_60 hl (k := 3) rfl (by rw [hv19]; rfl) (by decide) rfl (fun ls hl => ?_)
          refine lv_goto (tgt := 30) hx hb dX3_greatest_63 (by decide) ?_
          cases h
          exact ih _ _ _ _ _ _ _ hw hP hS (lv_sub hl [1, 2, 3, 0] rfl) kx
        · replace h := (if_neg c18).symm.trans h
          refine lv_iload hx hb dX3_greatest_49 (lv_at hl 2 rfl) ?_
          refine lv_aload_n hx hb dX3_greatest_51 rfl (lv_at hl 0 rfl) ?_
          refine lv_iload hx hb dX3_greatest_52 (lv_at hl 3 rfl) ?_
          obtain ⟨o20, ho20, h⟩ := Option.bind_eq_some_iff.mp h
          obtain ⟨v22, x21⟩ := o20
          replace h := un2_e h
          refine bq_callUi (q0 := 28) (owner := "BesideQuotes$Ways") (As := [.int _]) S hK hD hA hP hS (cX8X3_from_k_28 ho20) hd_yX8_from ml_X3_42 in_yX8_from (hts _ sl_X3_X3_yX8_from) sm_X3_from dc_X8_from (by decide +kernel) ⟨rfl, rfl⟩ ⟨by decide, by decide⟩ rfl rfl rfl hl.1 rfl (Nat.le_of_ble_eq_true rfl) ⟨Nat.zero_le _, Nat.zero_le _⟩ dX3_greatest_54 (fun H locs hP hS => ?_)
          refine lv_ior hx hb dX3_greatest_57 ?_
          refine lv_topi (fun v23 hv23 => ?_)
          replace h := bq_bv h hv23
          refine lv_istore (lv' := [(4, .int v23), (0, .ref (a 28)), (3, .int v10), (5, .int v12)]) hx hb dX3_greatest_58 hl (by decide) rfl (fun ls hl => ?_)
          obtain ⟨v24, hv24, h⟩ := bq_b h
          refine lv_iinc (v := v24) (lv' := [(5, .int v24), (4, .int v23), (0, .ref (a 28)), (3, .int v10)]) hx hb dX3_greatest_60 hl (k := 3) rfl (by rw [hv24]; rfl) (by decide) rfl (fun ls hl => ?_)
          refine lv_goto (tgt := 30) hx hb dX3_greatest_63 (by decide) ?_
          cases h
          exact ih _ _ _ _ _ _ _ hw hP hS (lv_sub hl [2, 3, 1, 0] rfl) kx
  obtain ⟨e25, he25, h⟩ := Option.bind_eq_some_iff.mp h
  refine hl30 _ n _ _ _ e25 _ _ _ he25 hP hS (lv_sub hl [3, 2, 1, 0] rfl) (fun H locs ls v26 v27 x28 hz hP hS hl => ?_)
  subst hz
  replace h := un3_e h
  refine lv_bipush (v := (-4 : Int32)) hx hb dX3_greatest_66 (by decide) ?_
  refine lv_istore (lv' := [(5, .int (-4 : Int32)), (0, .ref (a 28)), (3, .int v3), (4, .int v26)]) hx hb dX3_greatest_68 hl (by decide) rfl (fun ls hl => ?_)
  refine lv_iconst (v := (0 : Int32)) hx hb dX3_greatest_70 (by decide) ?_
  refine lv_istore (lv' := [(6, .int (0 : Int32)), (5, .int (-4 : Int32)), (0, .ref (a 28)), (3, .int v3), (4, .int v26)]) hx hb dX3_greatest_71 hl (by decide) rfl (fun ls hl => ?_)
  have hl73 : ∀ (v29 : Int32) (v30 : Int32) (kf : Nat) (v31 : Int32) (v32 : Int32) (x33 : bq_S) (eo : Int32 × Int32 × bq_S) (H : Heap) (locs : List Loc) (ls : Array Slot), wh kf (fX3_greatest_b73 n v29 v30) (v31, v32, x33) = some eo → va_P D bq_cl (bq_wC a k x33) H → va_S A s.heap H locs → lv_has ls 7 [(0, .ref (a 28)), (3, .int v29), (4, .int v30), (5, .int v31), (6, .int v32)] → (∀ (H : Heap) (locs : List Loc) (ls : Array Slot) (v48 : Int32) (v49 : Int32) (x50 : bq_S), eo = (v48, v49, x50) → va_P D bq_cl (bq_wC a k x50) H → va_S A s.heap H locs → lv_has ls 7 [(5, .int v48)] → W p l e { frames := 4, cells := 0, slots := 0, locals := 95 } s m [.ref (a 28), .int p1, .int p2].toArray below meth c H locs 0 0 Q (F0 m 126 ls [])) → W p l e { frames := 4, cells := 0, slots := 0, locals := 95 } s m [.ref (a 28), .int p1, .int p2].toArray below meth c H locs 0 0 Q (F0 m 73 ls []) := by
    intro v29 v30 kf
    induction kf with
    | zero => intro v31 v32 x33 eo H locs ls h; cases h
    | succ kf ih =>
      intro v31 v32 x33 eo H locs ls h hP hS hl kx
      obtain ⟨out, h, hw⟩ := wh_s h
      unfold fX3_greatest_b73 at h
      replace h := un3_e h
      have hj115 : ∀ (v41 : Int32) (v42 : Int32) (v43 : Int32) (x44 : bq_S) (H : Heap) (locs : List Loc) (ls : Array Slot), fX3_greatest_j115 n v29 v30 v41 v42 v43 x44 = some out → va_P D bq_cl (bq_wC a k x44) H → va_S A s.heap H locs → lv_has ls 7 [(0, .ref (a 28)), (3, .int v29), (4, .int v30), (6, .int v41)] → W p l e { frames := 4, cells := 0, slots := 0, locals := 95 } s m [.ref (a 28), .int p1, .int p2].toArray below meth c H locs 0 0 Q (F0 m 115 ls [.int v43, .int v42]) := by
        intro v41 v42 v43 x44 H locs ls h hP hS hl
        unfold fX3_greatest_j115 at h
        refine va_mmax hx hb (hml.trans hl.1.symm) hown (hts _ ml_X3_55) (hts _ st_yJ9_max_7cf53) (hts _ ini_Math) (hts _ cd_Math_max) (by decide) (Nat.le_of_ble_eq_true rfl) (Nat.zero_le _) (Nat.zero_le _) dX3_greatest_115 ?_
        refine lv_topi (fun v45 hv45 => ?_)
        replace h := bq_bv h hv45
        refine lv_istore (lv' := [(5, .int v45), (0, .ref (a 28)), (3, .int v29), (4, .int v30), (6, .int v41)]) hx hb dX3_greatest_118 hl (by decide) rfl (fun ls hl => ?_)
        obtain ⟨v46, hv46, h⟩ := bq_b h
        refine lv_iinc (v := v46) (lv' := [(6, .int v46), (5, .int v45), (0, .ref (a 28)), (3, .int v29), (4, .int v30)]) hx hb dX3_greatest_120 hl (k := 4) rfl (by rw [hv46]; rfl) (by decide) rfl (fun ls hl => ?_)
        refine lv_goto (tgt := 73) hx hb dX3_greatest_123 (by decide) ?_
        cases h
        exact ih _ _ _ _ _ _ _ hw hP hS (lv_sub hl [2, 3, 4, 1, 0] rfl) kx
      refine lv_iload hx hb dX3_greatest_73 (lv_at hl 4 rfl) ?_
      refine lv_bipush (v := (8 : Int32)) hx hb dX3_greatest_75 (by decide) ?_
      refine lv_icmp_ge (tgt := 126) hx hb dX3_greatest_77 (by decide) (fun c34 => ?_) (fun c34 => ?_)
      · replace h := (if_pos c34).symm.trans h
        cases h
        exact kx _ _ _ _ _ _ (Option.some.inj hw).symm hP hS (lv_sub hl [3] rfl)
      · replace h := (if_neg c34).symm.trans h
        refine lv_iload hx hb dX3_greatest_80 (lv_at hl 2 rfl) ?_
        refine lv_iload hx hb dX3_greatest_82 (lv_at hl 4 rfl) ?_
        obtain ⟨o35, ho35, h⟩ := Option.bind_eq_some_iff.mp h
        obtain ⟨v37, x36⟩ := o35
        replace h := un2_e h
        refine bq_callSNi (As := [.int _, .int _]) S hK hD hA hP hS (cX9_has_k ho35) hd_yX9_has mn_X3_38 st_yX9_has ⟨rfl, rfl⟩ ⟨by decide, by decide⟩ rfl hl.1 rfl (Nat.le_of_ble_eq_true rfl) ⟨Nat.zero_le _, Nat.zero_le _⟩ dX3_greatest_84 (fun H locs hP hS => ?_)
        refine lv_if_eq (tgt := 120) hx hb dX3_greatest_87 (by decide) (fun c38 => ?_) (fun c38 => ?_)
        · replace h := (if_pos c38).symm.trans h
          obtain ⟨v39, hv39, h⟩ := bq_b h
          refine lv_iinc (v := v39) (lv' := [(6, .int v39), (0, .ref (a 28)), (3, .int v29), (4, .int v30), (5, .int v31)]) hx hb dX3_greatest_120 hl (k := 4) rfl (by rw [hv39]; rfl) (by decide) rfl (fun ls hl => ?_)
          refine lv_goto (tgt := 73) hx hb dX3_greatest_123 (by decide) ?_
          cases h
          exact ih _ _ _ _ _ _ _ hw hP hS (lv_sub hl [1, 2, 3, 4, 0] rfl) kx
        · replace h := (if_neg c38).symm.trans h
          refine lv_iload hx hb dX3_greatest_90 (lv_at hl 3 rfl) ?_
          refine lv_aload_n hx hb dX3_greatest_92 rfl (lv_at hl 0 rfl) ?_
          refine bq_get (q0 := 28) S hK hP fl_X3_45_X3_5 rfl rfl rfl dX3_greatest_93 ?_
          refine lv_if_eq (tgt := 113) hx hb dX3_greatest_96 (by decide) (fun c40 => ?_) (fun c40 => ?_)
          · replace h := (if_pos c40).symm.trans h
            refine lv_iload hx hb dX3_greatest_113 (lv_at hl 4 rfl) ?_
            exact hj115 _ _ _ _ _ _ _ h hP hS (lv_sub hl [0, 1, 2, 4] rfl)
          · replace h := (if_neg c40).symm.trans h
            refine lv_iload hx hb dX3_greatest_99 (lv_at hl 4 rfl) ?_
            refine lv_iload_n hx hb dX3_greatest_101 rfl (lv_at hl 1 rfl) ?_
            refine lv_iconst (v := (2 : Int32)) hx hb dX3_greatest_102 (by decide) ?_
            refine lv_isub hx hb dX3_greatest_103 ?_
            refine lv_iload hx hb dX3_greatest_104 (lv_at hl 4 rfl) ?_
            refine lv_isub hx hb dX3_greatest_106 ?_
            refine va_mmin hx hb (hml.trans hl.1.symm) hown (hts _ ml_X3_49) (hts _ st_yJ9_min_7cf53) (hts _ ini_Math) (hts _ cd_Math_min) (by decide) (Nat.le_of_ble_eq_true rfl) (Nat.zero_le _) (Nat.zero_le _) dX3_greatest_107 ?_
            refine lv_goto (tgt := 115) hx hb dX3_greatest_110 (by decide) ?_
            exact hj115 _ _ _ _ _ _ _ h hP hS (lv_sub hl [0, 1, 2, 4] rfl)
  obtain ⟨e47, he47, h⟩ := Option.bind_eq_some_iff.mp h
  refine hl73 _ _ n _ _ _ e47 _ _ _ he47 hP hS (lv_sub hl [2, 3, 4, 1, 0] rfl) (fun H locs ls v48 v49 x50 hz hP hS hl => ?_)
  subst hz
  replace h := un3_e h
  refine lv_iload hx hb dX3_greatest_126 (lv_at hl 0 rfl) ?_
  obtain ⟨e1, e2⟩ := Prod.mk.inj (hret _ h)
  exact hR _ _ _ _ _ (congrArg some e1) rfl (by rw [e2]; exact hP) hS dX3_greatest_128
def fX9_apart (n : Nat) (p1 : Int32) (p2 : Int32) (p3 : Int32) (x0 : bq_S) : Option (Int32 × bq_S) :=
  (fX4_isSet 1 p1 x0).bind (fun o1 => un2 o1 (fun v3 x2 =>
  if v3 = 0 then
  some ((-1 : Int32), x2)
  else
  (fX4_areTwo 1 p2 p3 x2).bind (fun o5 => un2 o5 (fun v7 x6 =>
  if v7 = 0 then
  some ((-1 : Int32), x6)
  else
  (fX9_has p1 p2 x6).bind (fun o9 => un2 o9 (fun v11 x10 =>
  if v11 = 0 then
  some ((-1 : Int32), x10)
  else
  (fX9_has p1 p3 x10).bind (fun o13 => un2 o13 (fun v15 x14 =>
  if v15 = 0 then
  some ((-1 : Int32), x14)
  else
  (fX9_bit p2 x14).bind (fun o17 => un2 o17 (fun v19 x18 =>
  (fX9_bit p3 x18).bind (fun o20 => un2 o20 (fun v22 x21 =>
  (fX3_greatest n p1 (v19 ||| v22) x21).bind (fun o23 => un2 o23 (fun v25 x24 =>
  some (v25, x24)))))))))))))))
theorem dX9_apart_0 : decode cX9_apart 0 = .ok (.aload_n 0, 1) := by decide +kernel
theorem dX9_apart_1 : decode cX9_apart 1 = .ok (.getfield 10, 3) := by decide +kernel
theorem dX9_apart_4 : decode cX9_apart 4 = .ok (.iload_n 1, 1) := by decide +kernel
theorem dX9_apart_5 : decode cX9_apart 5 = .ok (.invokevirtual 186, 3) := by decide +kernel
theorem dX9_apart_8 : decode cX9_apart 8 = .ok (.ifCond .eq 31, 3) := by decide +kernel
theorem dX9_apart_11 : decode cX9_apart 11 = .ok (.aload_n 0, 1) := by decide +kernel
theorem dX9_apart_12 : decode cX9_apart 12 = .ok (.getfield 10, 3) := by decide +kernel
theorem dX9_apart_15 : decode cX9_apart 15 = .ok (.iload_n 2, 1) := by decide +kernel
theorem dX9_apart_16 : decode cX9_apart 16 = .ok (.iload_n 3, 1) := by decide +kernel
theorem dX9_apart_17 : decode cX9_apart 17 = .ok (.invokevirtual 95, 3) := by decide +kernel
theorem dX9_apart_20 : decode cX9_apart 20 = .ok (.ifCond .eq 19, 3) := by decide +kernel
theorem dX9_apart_23 : decode cX9_apart 23 = .ok (.iload_n 1, 1) := by decide +kernel
theorem dX9_apart_24 : decode cX9_apart 24 = .ok (.iload_n 2, 1) := by decide +kernel
theorem dX9_apart_25 : decode cX9_apart 25 = .ok (.invokestatic 208, 3) := by decide +kernel
theorem dX9_apart_28 : decode cX9_apart 28 = .ok (.ifCond .eq 11, 3) := by decide +kernel
theorem dX9_apart_31 : decode cX9_apart 31 = .ok (.iload_n 1, 1) := by decide +kernel
theorem dX9_apart_32 : decode cX9_apart 32 = .ok (.iload_n 3, 1) := by decide +kernel
theorem dX9_apart_33 : decode cX9_apart 33 = .ok (.invokestatic 208, 3) := by decide +kernel
theorem dX9_apart_36 : decode cX9_apart 36 = .ok (.ifCond .ne 5, 3) := by decide +kernel
theorem dX9_apart_39 : decode cX9_apart 39 = .ok (.iconst (-1), 1) := by decide +kernel
theorem dX9_apart_40 : decode cX9_apart 40 = .ok (.ireturn, 1) := by decide +kernel
theorem dX9_apart_41 : decode cX9_apart 41 = .ok (.aload_n 0, 1) := by decide +kernel
theorem dX9_apart_42 : decode cX9_apart 42 = .ok (.getfield 48, 3) := by decide +kernel
theorem dX9_apart_45 : decode cX9_apart 45 = .ok (.iload_n 1, 1) := by decide +kernel
theorem dX9_apart_46 : decode cX9_apart 46 = .ok (.iload_n 2, 1) := by decide +kernel
theorem dX9_apart_47 : decode cX9_apart 47 = .ok (.invokestatic 211, 3) := by decide +kernel
theorem dX9_apart_50 : decode cX9_apart 50 = .ok (.iload_n 3, 1) := by decide +kernel
theorem dX9_apart_51 : decode cX9_apart 51 = .ok (.invokestatic 211, 3) := by decide +kernel
theorem dX9_apart_54 : decode cX9_apart 54 = .ok (.ior, 1) := by decide +kernel
theorem dX9_apart_55 : decode cX9_apart 55 = .ok (.invokevirtual 220, 3) := by decide +kernel
theorem dX9_apart_58 : decode cX9_apart 58 = .ok (.ireturn, 1) := by decide +kernel
set_option maxHeartbeats 4000000 in
set_option maxRecDepth 100000 in
theorem cX9_apart_k_0 {l : Launch} {D : va_G} {a : Nat → Nat} {k : Nat → ClassId} {n : Nat} {p1 : Int32} {p2 : Int32} {p3 : Int32} {x0 xz : bq_S} {rz : Int32} (h : fX9_apart n p1 p2 p3 x0 = some (rz, xz)) : bq_M l D bq_cl (bq_ty k) (bq_wC a k) yX9_apart cX9_apart 4 (some .int) { frames := 5, cells := 0, slots := 0, locals := 121 } [.ref (a 0), .int p1, .int p2, .int p3] x0 (some rz) xz := by
  refine bq_ofW RX9 [(0, .ref (a 0)), (1, .int p1), (2, .int p2), (3, .int p3)] (by decide +kernel) rfl (Nat.le_of_ble_eq_true rfl) rfl (bq_adC a k) ?_
  intro p e s m below meth c A Q ls S hK hD hA hR hS hP hl
  have hx := S.1; have hb := S.2.1; have hml := S.2.2.1; have hown := S.2.2.2.1; have hts := S.2.2.2.2
  have hret : ∀ z, some z = some (rz, xz) → (rz, xz) = z := fun z h => (Option.some.inj h).symm
  unfold fX9_apart at h
  refine lv_aload_n hx hb dX9_apart_0 rfl (lv_at hl 0 rfl) ?_
  refine bq_get (q0 := 0) S hK hP fl_X9_10_X9_0 rfl rfl rfl dX9_apart_1 ?_
  refine lv_iload_n hx hb dX9_apart_4 rfl (lv_at hl 1 rfl) ?_
  obtain ⟨o1, ho1, h⟩ := Option.bind_eq_some_iff.mp h
  obtain ⟨v3, x2⟩ := o1
  replace h := un2_e h
  refine bq_callVi (q0 := 1) (As := [.int _]) S hK hD hA hP hS (cX4_isSet_k_1 ho1) hd_yX4_isSet ml_X9_186 in_yX4_isSet (hts _ sl_X4_X4_yX4_isSet) ⟨rfl, rfl⟩ ⟨by decide, by decide⟩ rfl rfl rfl hl.1 rfl (Nat.le_of_ble_eq_true rfl) ⟨Nat.zero_le _, Nat.zero_le _⟩ dX9_apart_5 (fun H locs hP hS => ?_)
  refine lv_if_eq (tgt := 39) hx hb dX9_apart_8 (by decide) (fun c4 => ?_) (fun c4 => ?_)
  · replace h := (if_pos c4).symm.trans h
    refine lv_iconst (v := (-1 : Int32)) hx hb dX9_apart_39 (by decide) ?_
    obtain ⟨e1, e2⟩ := Prod.mk.inj (hret _ h)
    exact hR _ _ _ _ _ (congrArg some e1) rfl (by rw [e2]; exact hP) hS dX9_apart_40
  · replace h := (if_neg c4).symm.trans h
    refine lv_aload_n hx hb dX9_apart_11 rfl (lv_at hl 0 rfl) ?_
    refine bq_get (q0 := 0) S hK hP fl_X9_10_X9_0 rfl rfl rfl dX9_apart_12 ?_
    refine lv_iload_n hx hb dX9_apart_15 rfl (lv_at hl 2 rfl) ?_
    refine lv_iload_n hx hb dX9_apart_16 rfl (lv_at hl 3 rfl) ?_
    obtain ⟨o5, ho5, h⟩ := Option.bind_eq_some_iff.mp h
    obtain ⟨v7, x6⟩ := o5
    replace h := un2_e h
    refine bq_callVi (q0 := 1) (As := [.int _, .int _]) S hK hD hA hP hS (cX4_areTwo_k_1 ho5) hd_yX4_areTwo ml_X9_95 in_yX4_areTwo (hts _ sl_X4_X4_yX4_areTwo) ⟨rfl, rfl⟩ ⟨by decide, by decide⟩ rfl rfl rfl hl.1 rfl (Nat.le_of_ble_eq_true rfl) ⟨Nat.zero_le _, Nat.zero_le _⟩ dX9_apart_17 (fun H locs hP hS => ?_)
    refine lv_if_eq (tgt := 39) hx hb dX9_apart_20 (by decide) (fun c8 => ?_) (fun c8 => ?_)
    · replace h := (if_pos c8).symm.trans h
      refine lv_iconst (v := (-1 : Int32)) hx hb dX9_apart_39 (by decide) ?_
      obtain ⟨e1, e2⟩ := Prod.mk.inj (hret _ h)
      exact hR _ _ _ _ _ (congrArg some e1) rfl (by rw [e2]; exact hP) hS dX9_apart_40
    · replace h := (if_neg c8).symm.trans h
      refine lv_iload_n hx hb dX9_apart_23 rfl (lv_at hl 1 rfl) ?_
      refine lv_iload_n hx hb dX9_apart_24 rfl (lv_at hl 2 rfl) ?_
      obtain ⟨o9, ho9, h⟩ := Option.bind_eq_some_iff.mp h
      obtain ⟨v11, x10⟩ := o9
      replace h := un2_e h
      refine bq_callSi (As := [.int _, .int _]) S hK hD hA hP hS (cX9_has_k ho9) hd_yX9_has ml_X9_208 st_yX9_has ⟨rfl, rfl⟩ ⟨by decide, by decide⟩ rfl hl.1 rfl (Nat.le_of_ble_eq_true rfl) ⟨Nat.zero_le _, Nat.zero_le _⟩ dX9_apart_25 (fun H locs hP hS => ?_)
      refine lv_if_eq (tgt := 39) hx hb dX9_apart_28 (by decide) (fun c12 => ?_) (fun c12 => ?_)
      · replace h := (if_pos c12).symm.trans h
        refine lv_iconst (v := (-1 : Int32)) hx hb dX9_apart_39 (by decide) ?_
        obtain ⟨e1, e2⟩ := Prod.mk.inj (hret _ h)
        exact hR _ _ _ _ _ (congrArg some e1) rfl (by rw [e2]; exact hP) hS dX9_apart_40
      · replace h := (if_neg c12).symm.trans h
        refine lv_iload_n hx hb dX9_apart_31 rfl (lv_at hl 1 rfl) ?_
        refine lv_iload_n hx hb dX9_apart_32 rfl (lv_at hl 3 rfl) ?_
        obtain ⟨o13, ho13, h⟩ := Option.bind_eq_some_iff.mp h
        obtain ⟨v15, x14⟩ := o13
        replace h := un2_e h
        refine bq_callSi (As := [.int _, .int _]) S hK hD hA hP hS (cX9_has_k ho13) hd_yX9_has ml_X9_208 st_yX9_has ⟨rfl, rfl⟩ ⟨by decide, by decide⟩ rfl hl.1 rfl (Nat.le_of_ble_eq_true rfl) ⟨Nat.zero_le _, Nat.zero_le _⟩ dX9_apart_33 (fun H locs hP hS => ?_)
        refine lv_if_ne (tgt := 41) hx hb dX9_apart_36 (by decide) (fun c16 => ?_) (fun c16 => ?_)
        · replace h := (if_neg c16).symm.trans h
          refine lv_aload_n hx hb dX9_apart_41 rfl (lv_at hl 0 rfl) ?_
          refine bq_get (q0 := 0) S hK hP fl_X9_48_X9_6 rfl rfl rfl dX9_apart_42 ?_
          refine lv_iload_n hx hb dX9_apart_45 rfl (lv_at hl 1 rfl) ?_
          refine lv_iload_n hx hb dX9_apart_46 rfl (lv_at hl 2 rfl) ?_
          obtain ⟨o17, ho17, h⟩ := Option.bind_eq_some_iff.mp h
          obtain ⟨v19, x18⟩ := o17
          replace h := un2_e h
          refine bq_callSi (As := [.int _]) S hK hD hA hP hS (cX9_bit_k ho17) hd_yX9_bit ml_X9_211 st_yX9_bit ⟨rfl, rfl⟩ ⟨by decide, by decide⟩ rfl hl.1 rfl (Nat.le_of_ble_eq_true rfl) ⟨Nat.zero_le _, Nat.zero_le _⟩ dX9_apart_47 (fun H locs hP hS => ?_)
          refine lv_iload_n hx hb dX9_apart_50 rfl (lv_at hl 3 rfl) ?_
          obtain ⟨o20, ho20, h⟩ := Option.bind_eq_some_iff.mp h
          obtain ⟨v22, x21⟩ := o20
          replace h := un2_e h
          refine bq_callSi (As := [.int _]) S hK hD hA hP hS (cX9_bit_k ho20) hd_yX9_bit ml_X9_211 st_yX9_bit ⟨rfl, rfl⟩ ⟨by decide, by decide⟩ rfl hl.1 rfl (Nat.le_of_ble_eq_true rfl) ⟨Nat.zero_le _, Nat.zero_le _⟩ dX9_apart_51 (fun H locs hP hS => ?_)
          refine lv_ior hx hb dX9_apart_54 ?_
          obtain ⟨o23, ho23, h⟩ := Option.bind_eq_some_iff.mp h
          obtain ⟨v25, x24⟩ := o23
          replace h := un2_e h
          refine bq_callVi (q0 := 28) (As := [.int _, .int _]) S hK hD hA hP hS (cX3_greatest_k_28 ho23) hd_yX3_greatest ml_X9_220 in_yX3_greatest (hts _ sl_X3_X3_yX3_greatest) ⟨rfl, rfl⟩ ⟨by decide, by decide⟩ rfl rfl rfl hl.1 rfl (Nat.le_of_ble_eq_true rfl) ⟨Nat.zero_le _, Nat.zero_le _⟩ dX9_apart_55 (fun H locs hP hS => ?_)
          obtain ⟨e1, e2⟩ := Prod.mk.inj (hret _ h)
          exact hR _ _ _ _ _ (congrArg some e1) rfl (by rw [e2]; exact hP) hS dX9_apart_58
        · replace h := (if_pos c16).symm.trans h
          refine lv_iconst (v := (-1 : Int32)) hx hb dX9_apart_39 (by decide) ?_
          obtain ⟨e1, e2⟩ := Prod.mk.inj (hret _ h)
          exact hR _ _ _ _ _ (congrArg some e1) rfl (by rw [e2]; exact hP) hS dX9_apart_40
set_option maxHeartbeats 4000000 in
set_option maxRecDepth 100000 in
theorem cX4_firstApart_k_1_42 {l : Launch} {D : va_G} {a : Nat → Nat} {k : Nat → ClassId} {n : Nat} {p2 : Int32} {x0 xz : bq_S} {rz : Int32} (h : fX4_firstApart n 1 42 8 p2 x0 = some (rz, xz)) : bq_M l D bq_cl (bq_ty k) (bq_wC a k) yX4_firstApart cX4_firstApart 4 (some .int) { frames := 1, cells := 0, slots := 0, locals := 22 } [.ref (a 1), .ref (a 42), .int p2] x0 (some rz) xz := by
  refine bq_ofW RX4 [(0, .ref (a 1)), (1, .ref (a 42)), (2, .int p2)] (by decide +kernel) rfl (Nat.le_of_ble_eq_true rfl) rfl (bq_adC a k) ?_
  intro p e s m below meth c A Q ls S hK hD hA hR hS hP hl
  have hx := S.1; have hb := S.2.1; have hml := S.2.2.1; have hown := S.2.2.2.1; have hts := S.2.2.2.2
  have hret : ∀ z, some z = some (rz, xz) → (rz, xz) = z := fun z h => (Option.some.inj h).symm
  unfold fX4_firstApart at h
  refine lv_iconst (v := (0 : Int32)) hx hb dX4_firstApart_0 (by decide) ?_
  refine lv_istore_n (lv' := [(3, .int (0 : Int32)), (0, .ref (a 1)), (1, .ref (a 42)), (2, .int p2)]) hx hb dX4_firstApart_1 rfl hl (by decide) rfl (fun ls hl => ?_)
  have hl2 : ∀ (v4 : Int32) (kf : Nat) (v5 : Int32) (x6 : bq_S) (eo : (Int32 × bq_S) ⊕ (Int32 × bq_S)) (H : Heap) (locs : List Loc) (ls : Array Slot), wh kf (fX4_firstApart_b2 n 1 42 8 v4) (v5, x6) = some eo → va_P D bq_cl (bq_wC a k x6) H → va_S A s.heap H locs → lv_has ls 4 [(0, .ref (a 1)), (1, .ref (a 42)), (2, .int v4), (3, .int v5)] → (∀ (H : Heap) (locs : List Loc) (ls : Array Slot) (v16 : Int32) (x17 : bq_S), eo = .inl (v16, x17) → va_P D bq_cl (bq_wC a k x17) H → va_S A s.heap H locs → lv_has ls 4 [(0, .ref (a 1)), (1, .ref (a 42)), (2, .int v4)] → W p l e { frames := 1, cells := 0, slots := 0, locals := 22 } s m [.ref (a 1), .ref (a 42), .int p2].toArray below meth c H locs 0 0 Q (F0 m 32 ls [])) → (∀ z, eo = .inr z → (rz, xz) = z) → W p l e { frames := 1, cells := 0, slots := 0, locals := 22 } s m [.ref (a 1), .ref (a 42), .int p2].toArray below meth c H locs 0 0 Q (F0 m 2 ls []) := by
    intro v4 kf
    induction kf with
    | zero => intro v5 x6 eo H locs ls h; cases h
    | succ kf ih =>
      intro v5 x6 eo H locs ls h hP hS hl kx kr
      obtain ⟨out, h, hw⟩ := wh_s h
      have hret : ∀ z, (some (.inr (.inr z)) : Option ((Int32 × bq_S) ⊕ ((Int32 × bq_S) ⊕ (Int32 × bq_S)))) = some out → (rz, xz) = z := fun z h => kr z (by cases h; exact (Option.some.inj hw).symm)
      unfold fX4_firstApart_b2 at h
      replace h := un2_e h
      refine lv_iload_n hx hb dX4_firstApart_2 rfl (lv_at hl 3 rfl) ?_
      refine lv_iconst (v := (1 : Int32)) hx hb dX4_firstApart_3 (by decide) ?_
      refine lv_iadd hx hb dX4_firstApart_4 ?_
      refine lv_iload_n hx hb dX4_firstApart_5 rfl (lv_at hl 2 rfl) ?_
      refine lv_icmp_ge (tgt := 32) hx hb dX4_firstApart_6 (by decide) (fun c7 => ?_) (fun c7 => ?_)
      · replace h := (if_pos c7).symm.trans h
        cases h
        exact kx _ _ _ _ _ (Option.some.inj hw).symm hP hS (lv_sub hl [0, 1, 2] rfl)
      · replace h := (if_neg c7).symm.trans h
        refine lv_aload_n hx hb dX4_firstApart_9 rfl (lv_at hl 0 rfl) ?_
        refine lv_aload_n hx hb dX4_firstApart_10 rfl (lv_at hl 1 rfl) ?_
        refine lv_iload_n hx hb dX4_firstApart_11 rfl (lv_at hl 3 rfl) ?_
        obtain ⟨g8, h⟩ := bq_gd h
        refine va_iald (D := D) hx hb hK hP 42 0 rfl rfl g8 dX4_firstApart_12 ?_
        refine lv_aload_n hx hb dX4_firstApart_13 rfl (lv_at hl 1 rfl) ?_
        refine lv_iload_n hx hb dX4_firstApart_14 rfl (lv_at hl 3 rfl) ?_
        refine lv_iconst (v := (1 : Int32)) hx hb dX4_firstApart_15 (by decide) ?_
        refine lv_iadd hx hb dX4_firstApart_16 ?_
        obtain ⟨g9, h⟩ := bq_gd h
        refine va_iald (D := D) hx hb hK hP 42 0 rfl rfl g9 dX4_firstApart_17 ?_
        obtain ⟨o10, ho10, h⟩ := Option.bind_eq_some_iff.mp h
        obtain ⟨v12, x11⟩ := o10
        replace h := un2_e h
        refine bq_callVi (q0 := 1) (As := [.int _, .int _]) S hK hD hA hP hS (cX4_touches_k_1 ho10) hd_yX4_touches ml_X4_84 in_yX4_touches (hts _ sl_X4_X4_yX4_touches) ⟨rfl, rfl⟩ ⟨by decide, by decide⟩ rfl rfl rfl hl.1 rfl (Nat.le_of_ble_eq_true rfl) ⟨Nat.zero_le _, Nat.zero_le _⟩ dX4_firstApart_18 (fun H locs hP hS => ?_)
        refine lv_if_ne (tgt := 26) hx hb dX4_firstApart_21 (by decide) (fun c13 => ?_) (fun c13 => ?_)
        · replace h := (if_neg c13).symm.trans h
          obtain ⟨v14, hv14, h⟩ := bq_b h
          refine lv_iinc (v := v14) (lv' := [(3, .int v14), (0, .ref (a 1)), (1, .ref (a 42)), (2, .int v4)]) hx hb dX4_firstApart_26 hl (k := 3) rfl (by rw [hv14]; rfl) (by decide) rfl (fun ls hl => ?_)
          refine lv_goto (tgt := 2) hx hb dX4_firstApart_29 (by decide) ?_
          cases h
          exact ih _ _ _ _ _ _ hw hP hS (lv_sub hl [1, 2, 3, 0] rfl) kx kr
        · replace h := (if_pos c13).symm.trans h
          refine lv_iload_n hx hb dX4_firstApart_24 rfl (lv_at hl 3 rfl) ?_
          obtain ⟨e1, e2⟩ := Prod.mk.inj (hret _ h)
          exact hR _ _ _ _ _ (congrArg some e1) rfl (by rw [e2]; exact hP) hS dX4_firstApart_25
  obtain ⟨e15, he15, h⟩ := Option.bind_eq_some_iff.mp h
  refine hl2 _ n _ _ e15 _ _ _ he15 hP hS (lv_sub hl [1, 2, 3, 0] rfl) (fun H locs ls v16 x17 hz hP hS hl => ?_) (fun z hz => hret z (bq_ir h hz :))
  replace h := bq_il h hz
  replace h := un2_e h
  refine lv_aload_n hx hb dX4_firstApart_32 rfl (lv_at hl 0 rfl) ?_
  refine lv_iload_n hx hb dX4_firstApart_33 rfl (lv_at hl 2 rfl) ?_
  obtain ⟨o18, ho18, h⟩ := Option.bind_eq_some_iff.mp h
  obtain ⟨v20, x19⟩ := o18
  replace h := un2_e h
  refine bq_callVi (q0 := 1) (As := [.int _]) S hK hD hA hP hS (cX4_closes_k_1 ho18) hd_yX4_closes ml_X4_87 in_yX4_closes (hts _ sl_X4_X4_yX4_closes) ⟨rfl, rfl⟩ ⟨by decide, by decide⟩ rfl rfl rfl hl.1 rfl (Nat.le_of_ble_eq_true rfl) ⟨Nat.zero_le _, Nat.zero_le _⟩ dX4_firstApart_34 (fun H locs hP hS => ?_)
  refine lv_if_eq (tgt := 59) hx hb dX4_firstApart_37 (by decide) (fun c21 => ?_) (fun c21 => ?_)
  · replace h := (if_pos c21).symm.trans h
    refine lv_bipush (v := (-4 : Int32)) hx hb dX4_firstApart_59 (by decide) ?_
    obtain ⟨e1, e2⟩ := Prod.mk.inj (hret _ h)
    exact hR _ _ _ _ _ (congrArg some e1) rfl (by rw [e2]; exact hP) hS dX4_firstApart_61
  · replace h := (if_neg c21).symm.trans h
    refine lv_aload_n hx hb dX4_firstApart_40 rfl (lv_at hl 0 rfl) ?_
    refine lv_aload_n hx hb dX4_firstApart_41 rfl (lv_at hl 1 rfl) ?_
    refine lv_iload_n hx hb dX4_firstApart_42 rfl (lv_at hl 2 rfl) ?_
    refine lv_iconst (v := (1 : Int32)) hx hb dX4_firstApart_43 (by decide) ?_
    refine lv_isub hx hb dX4_firstApart_44 ?_
    obtain ⟨g22, h⟩ := bq_gd h
    refine va_iald (D := D) hx hb hK hP 42 0 rfl rfl g22 dX4_firstApart_45 ?_
    refine lv_aload_n hx hb dX4_firstApart_46 rfl (lv_at hl 1 rfl) ?_
    refine lv_iconst (v := (0 : Int32)) hx hb dX4_firstApart_47 (by decide) ?_
    obtain ⟨g23, h⟩ := bq_gd h
    refine va_iald (D := D) hx hb hK hP 42 0 rfl rfl g23 dX4_firstApart_48 ?_
    obtain ⟨o24, ho24, h⟩ := Option.bind_eq_some_iff.mp h
    obtain ⟨v26, x25⟩ := o24
    replace h := un2_e h
    refine bq_callVi (q0 := 1) (As := [.int _, .int _]) S hK hD hA hP hS (cX4_touches_k_1 ho24) hd_yX4_touches ml_X4_84 in_yX4_touches (hts _ sl_X4_X4_yX4_touches) ⟨rfl, rfl⟩ ⟨by decide, by decide⟩ rfl rfl rfl hl.1 rfl (Nat.le_of_ble_eq_true rfl) ⟨Nat.zero_le _, Nat.zero_le _⟩ dX4_firstApart_49 (fun H locs hP hS => ?_)
    refine lv_if_ne (tgt := 59) hx hb dX4_firstApart_52 (by decide) (fun c27 => ?_) (fun c27 => ?_)
    · replace h := (if_neg c27).symm.trans h
      refine lv_bipush (v := (-4 : Int32)) hx hb dX4_firstApart_59 (by decide) ?_
      obtain ⟨e1, e2⟩ := Prod.mk.inj (hret _ h)
      exact hR _ _ _ _ _ (congrArg some e1) rfl (by rw [e2]; exact hP) hS dX4_firstApart_61
    · replace h := (if_pos c27).symm.trans h
      refine lv_iload_n hx hb dX4_firstApart_55 rfl (lv_at hl 2 rfl) ?_
      refine lv_iconst (v := (1 : Int32)) hx hb dX4_firstApart_56 (by decide) ?_
      refine lv_isub hx hb dX4_firstApart_57 ?_
      obtain ⟨e1, e2⟩ := Prod.mk.inj (hret _ h)
      exact hR _ _ _ _ _ (congrArg some e1) rfl (by rw [e2]; exact hP) hS dX4_firstApart_58
set_option maxHeartbeats 4000000 in
set_option maxRecDepth 100000 in
theorem cX4_isLawful_k_1_42 {l : Launch} {D : va_G} {a : Nat → Nat} {k : Nat → ClassId} {n : Nat} {p2 : Int32} {x0 xz : bq_S} {rz : Int32} (h : fX4_isLawful n 1 42 8 p2 x0 = some (rz, xz)) : bq_M l D bq_cl (bq_ty k) (bq_wC a k) yX4_isLawful cX4_isLawful 3 (some .boolean) { frames := 2, cells := 0, slots := 0, locals := 45 } [.ref (a 1), .ref (a 42), .int p2] x0 (some rz) xz := by
  refine bq_ofW RX4 [(0, .ref (a 1)), (1, .ref (a 42)), (2, .int p2)] (by decide +kernel) rfl (Nat.le_of_ble_eq_true rfl) rfl (bq_adC a k) ?_
  intro p e s m below meth c A Q ls S hK hD hA hR hS hP hl
  have hx := S.1; have hb := S.2.1; have hml := S.2.2.1; have hown := S.2.2.2.1; have hts := S.2.2.2.2
  have hret : ∀ z, some z = some (rz, xz) → (rz, xz) = z := fun z h => (Option.some.inj h).symm
  unfold fX4_isLawful at h
  refine lv_aload_n hx hb dX4_isLawful_0 rfl (lv_at hl 0 rfl) ?_
  refine lv_aload_n hx hb dX4_isLawful_1 rfl (lv_at hl 1 rfl) ?_
  refine lv_iload_n hx hb dX4_isLawful_2 rfl (lv_at hl 2 rfl) ?_
  obtain ⟨o1, ho1, h⟩ := Option.bind_eq_some_iff.mp h
  obtain ⟨v3, x2⟩ := o1
  replace h := un2_e h
  refine bq_callVi (q0 := 1) (As := [.ref (a 42), .int _]) S hK hD hA hP hS (cX4_firstApart_k_1_42 ho1) hd_yX4_firstApart ml_X4_91 in_yX4_firstApart (hts _ sl_X4_X4_yX4_firstApart) ⟨rfl, rfl⟩ ⟨by decide, by decide⟩ rfl rfl rfl hl.1 rfl (Nat.le_of_ble_eq_true rfl) ⟨Nat.zero_le _, Nat.zero_le _⟩ dX4_isLawful_3 (fun H locs hP hS => ?_)
  refine lv_bipush (v := (-4 : Int32)) hx hb dX4_isLawful_6 (by decide) ?_
  refine lv_icmp_ne (tgt := 15) hx hb dX4_isLawful_8 (by decide) (fun c4 => ?_) (fun c4 => ?_)
  · replace h := (if_neg c4).symm.trans h
    refine lv_iconst (v := (0 : Int32)) hx hb dX4_isLawful_15 (by decide) ?_
    obtain ⟨e1, e2⟩ := Prod.mk.inj (hret _ h)
    exact hR _ _ _ _ _ (congrArg some e1) rfl (by rw [e2]; exact hP) hS dX4_isLawful_16
  · replace h := (if_pos c4).symm.trans h
    refine lv_iconst (v := (1 : Int32)) hx hb dX4_isLawful_11 (by decide) ?_
    refine lv_goto (tgt := 16) hx hb dX4_isLawful_12 (by decide) ?_
    obtain ⟨e1, e2⟩ := Prod.mk.inj (hret _ h)
    exact hR _ _ _ _ _ (congrArg some e1) rfl (by rw [e2]; exact hP) hS dX4_isLawful_16
def fX9_isLawfulWithout_b4 (n : Nat) (v1 : Int32) (v : Int32 × Int32 × bq_S) : Option ((Int32 × Int32 × bq_S) ⊕ (Int32 × Int32 × bq_S)) :=
  un3 v (fun v2 v3 x4 =>
  if (x4.1 1 2) ≤ v3 then
  some (.inr (v2, v3, x4))
  else
  (fX9_has v1 v3 x4).bind (fun o6 => un2 o6 (fun v8 x7 =>
  if v8 = 0 then
  if ok_i v3 8 then
  if ok_i v2 8 then
  bd (bq_sI x7 42 v2.toNatClampNeg (x7.1 6 v3.toNatClampNeg)) (fun x12 =>
  bd (v2 + (1 : Int32)) (fun v14 =>
  bd (v3 + (1 : Int32)) (fun v15 =>
  some (.inl (v14, v15, x12)))))
  else none
  else none
  else
  bd (v3 + (1 : Int32)) (fun v10 =>
  some (.inl (v2, v10, x7))))))
def fX9_isLawfulWithout (n : Nat) (p1 : Int32) (x0 : bq_S) : Option (Int32 × bq_S) :=
  (wh n (fX9_isLawfulWithout_b4 n p1) ((0 : Int32), (0 : Int32), x0)).bind (fun e16 => un3 e16 (fun v17 v18 x19 =>
  (fX4_isLawful n 1 42 8 v17 x19).bind (fun o20 => un2 o20 (fun v22 x21 =>
  if v22 = 0 ∨ v22 = 1 then
  some (v22, x21)
  else none))))
theorem dX9_isLawfulWithout_0 : decode cX9_isLawfulWithout 0 = .ok (.iconst 0, 1) := by decide +kernel
theorem dX9_isLawfulWithout_1 : decode cX9_isLawfulWithout 1 = .ok (.istore_n 2, 1) := by decide +kernel
theorem dX9_isLawfulWithout_2 : decode cX9_isLawfulWithout 2 = .ok (.iconst 0, 1) := by decide +kernel
theorem dX9_isLawfulWithout_3 : decode cX9_isLawfulWithout 3 = .ok (.istore_n 3, 1) := by decide +kernel
theorem dX9_isLawfulWithout_4 : decode cX9_isLawfulWithout 4 = .ok (.iload_n 3, 1) := by decide +kernel
theorem dX9_isLawfulWithout_5 : decode cX9_isLawfulWithout 5 = .ok (.aload_n 0, 1) := by decide +kernel
theorem dX9_isLawfulWithout_6 : decode cX9_isLawfulWithout 6 = .ok (.getfield 10, 3) := by decide +kernel
theorem dX9_isLawfulWithout_9 : decode cX9_isLawfulWithout 9 = .ok (.getfield 159, 3) := by decide +kernel
theorem dX9_isLawfulWithout_12 : decode cX9_isLawfulWithout 12 = .ok (.if_icmp .ge 35, 3) := by decide +kernel
theorem dX9_isLawfulWithout_15 : decode cX9_isLawfulWithout 15 = .ok (.iload_n 1, 1) := by decide +kernel
theorem dX9_isLawfulWithout_16 : decode cX9_isLawfulWithout 16 = .ok (.iload_n 3, 1) := by decide +kernel
theorem dX9_isLawfulWithout_17 : decode cX9_isLawfulWithout 17 = .ok (.invokestatic 208, 3) := by decide +kernel
theorem dX9_isLawfulWithout_20 : decode cX9_isLawfulWithout 20 = .ok (.ifCond .ne 21, 3) := by decide +kernel
theorem dX9_isLawfulWithout_23 : decode cX9_isLawfulWithout 23 = .ok (.aload_n 0, 1) := by decide +kernel
theorem dX9_isLawfulWithout_24 : decode cX9_isLawfulWithout 24 = .ok (.getfield 75, 3) := by decide +kernel
theorem dX9_isLawfulWithout_27 : decode cX9_isLawfulWithout 27 = .ok (.iload_n 2, 1) := by decide +kernel
theorem dX9_isLawfulWithout_28 : decode cX9_isLawfulWithout 28 = .ok (.aload_n 0, 1) := by decide +kernel
theorem dX9_isLawfulWithout_29 : decode cX9_isLawfulWithout 29 = .ok (.getfield 10, 3) := by decide +kernel
theorem dX9_isLawfulWithout_32 : decode cX9_isLawfulWithout 32 = .ok (.getfield 156, 3) := by decide +kernel
theorem dX9_isLawfulWithout_35 : decode cX9_isLawfulWithout 35 = .ok (.iload_n 3, 1) := by decide +kernel
theorem dX9_isLawfulWithout_36 : decode cX9_isLawfulWithout 36 = .ok (.iaload, 1) := by decide +kernel
theorem dX9_isLawfulWithout_37 : decode cX9_isLawfulWithout 37 = .ok (.iastore, 1) := by decide +kernel
theorem dX9_isLawfulWithout_38 : decode cX9_isLawfulWithout 38 = .ok (.iinc 2 1, 3) := by decide +kernel
theorem dX9_isLawfulWithout_41 : decode cX9_isLawfulWithout 41 = .ok (.iinc 3 1, 3) := by decide +kernel
theorem dX9_isLawfulWithout_44 : decode cX9_isLawfulWithout 44 = .ok (.goto (-40), 3) := by decide +kernel
theorem dX9_isLawfulWithout_47 : decode cX9_isLawfulWithout 47 = .ok (.aload_n 0, 1) := by decide +kernel
theorem dX9_isLawfulWithout_48 : decode cX9_isLawfulWithout 48 = .ok (.getfield 10, 3) := by decide +kernel
theorem dX9_isLawfulWithout_51 : decode cX9_isLawfulWithout 51 = .ok (.aload_n 0, 1) := by decide +kernel
theorem dX9_isLawfulWithout_52 : decode cX9_isLawfulWithout 52 = .ok (.getfield 75, 3) := by decide +kernel
theorem dX9_isLawfulWithout_55 : decode cX9_isLawfulWithout 55 = .ok (.iload_n 2, 1) := by decide +kernel
theorem dX9_isLawfulWithout_56 : decode cX9_isLawfulWithout 56 = .ok (.invokevirtual 284, 3) := by decide +kernel
theorem dX9_isLawfulWithout_59 : decode cX9_isLawfulWithout 59 = .ok (.ireturn, 1) := by decide +kernel
set_option maxHeartbeats 4000000 in
set_option maxRecDepth 100000 in
theorem cX9_isLawfulWithout_k_0 {l : Launch} {D : va_G} {a : Nat → Nat} {k : Nat → ClassId} {n : Nat} {p1 : Int32} {x0 xz : bq_S} {rz : Int32} (h : fX9_isLawfulWithout n p1 x0 = some (rz, xz)) : bq_M l D bq_cl (bq_ty k) (bq_wC a k) yX9_isLawfulWithout cX9_isLawfulWithout 4 (some .boolean) { frames := 3, cells := 0, slots := 0, locals := 67 } [.ref (a 0), .int p1] x0 (some rz) xz := by
  refine bq_ofW RX9 [(0, .ref (a 0)), (1, .int p1)] (by decide +kernel) rfl (Nat.le_of_ble_eq_true rfl) rfl (bq_adC a k) ?_
  intro p e s m below meth c A Q ls S hK hD hA hR hS hP hl
  have hx := S.1; have hb := S.2.1; have hml := S.2.2.1; have hown := S.2.2.2.1; have hts := S.2.2.2.2
  have hret : ∀ z, some z = some (rz, xz) → (rz, xz) = z := fun z h => (Option.some.inj h).symm
  unfold fX9_isLawfulWithout at h
  refine lv_iconst (v := (0 : Int32)) hx hb dX9_isLawfulWithout_0 (by decide) ?_
  refine lv_istore_n (lv' := [(2, .int (0 : Int32)), (0, .ref (a 0)), (1, .int p1)]) hx hb dX9_isLawfulWithout_1 rfl hl (by decide) rfl (fun ls hl => ?_)
  refine lv_iconst (v := (0 : Int32)) hx hb dX9_isLawfulWithout_2 (by decide) ?_
  refine lv_istore_n (lv' := [(3, .int (0 : Int32)), (2, .int (0 : Int32)), (0, .ref (a 0)), (1, .int p1)]) hx hb dX9_isLawfulWithout_3 rfl hl (by decide) rfl (fun ls hl => ?_)
  have hl4 : ∀ (v1 : Int32) (kf : Nat) (v2 : Int32) (v3 : Int32) (x4 : bq_S) (eo : Int32 × Int32 × bq_S) (H : Heap) (locs : List Loc) (ls : Array Slot), wh kf (fX9_isLawfulWithout_b4 n v1) (v2, v3, x4) = some eo → va_P D bq_cl (bq_wC a k x4) H → va_S A s.heap H locs → lv_has ls 4 [(0, .ref (a 0)), (1, .int v1), (2, .int v2), (3, .int v3)] → (∀ (H : Heap) (locs : List Loc) (ls : Array Slot) (v17 : Int32) (v18 : Int32) (x19 : bq_S), eo = (v17, v18, x19) → va_P D bq_cl (bq_wC a k x19) H → va_S A s.heap H locs → lv_has ls 4 [(0, .ref (a 0)), (2, .int v17)] → W p l e { frames := 3, cells := 0, slots := 0, locals := 67 } s m [.ref (a 0), .int p1].toArray below meth c H locs 0 0 Q (F0 m 47 ls [])) → W p l e { frames := 3, cells := 0, slots := 0, locals := 67 } s m [.ref (a 0), .int p1].toArray below meth c H locs 0 0 Q (F0 m 4 ls []) := by
    intro v1 kf
    induction kf with
    | zero => intro v2 v3 x4 eo H locs ls h; cases h
    | succ kf ih =>
      intro v2 v3 x4 eo H locs ls h hP hS hl kx
      obtain ⟨out, h, hw⟩ := wh_s h
      unfold fX9_isLawfulWithout_b4 at h
      replace h := un3_e h
      refine lv_iload_n hx hb dX9_isLawfulWithout_4 rfl (lv_at hl 3 rfl) ?_
      refine lv_aload_n hx hb dX9_isLawfulWithout_5 rfl (lv_at hl 0 rfl) ?_
      refine bq_get (q0 := 0) S hK hP fl_X9_10_X9_0 rfl rfl rfl dX9_isLawfulWithout_6 ?_
      refine bq_get (q0 := 1) S hK hP fl_X9_159_X4_2 rfl rfl rfl dX9_isLawfulWithout_9 ?_
      refine lv_icmp_ge (tgt := 47) hx hb dX9_isLawfulWithout_12 (by decide) (fun c5 => ?_) (fun c5 => ?_)
      · replace h := (if_pos c5).symm.trans h
        cases h
        exact kx _ _ _ _ _ _ (Option.some.inj hw).symm hP hS (lv_sub hl [0, 2] rfl)
      · replace h := (if_neg c5).symm.trans h
        refine lv_iload_n hx hb dX9_isLawfulWithout_15 rfl (lv_at hl 1 rfl) ?_
        refine lv_iload_n hx hb dX9_isLawfulWithout_16 rfl (lv_at hl 3 rfl) ?_
        obtain ⟨o6, ho6, h⟩ := Option.bind_eq_some_iff.mp h
        obtain ⟨v8, x7⟩ := o6
        replace h := un2_e h
        refine bq_callSi (As := [.int _, .int _]) S hK hD hA hP hS (cX9_has_k ho6) hd_yX9_has ml_X9_208 st_yX9_has ⟨rfl, rfl⟩ ⟨by decide, by decide⟩ rfl hl.1 rfl (Nat.le_of_ble_eq_true rfl) ⟨Nat.zero_le _, Nat.zero_le _⟩ dX9_isLawfulWithout_17 (fun H locs hP hS => ?_)
        refine lv_if_ne (tgt := 41) hx hb dX9_isLawfulWithout_20 (by decide) (fun c9 => ?_) (fun c9 => ?_)
        · replace h := (if_neg c9).symm.trans h
          obtain ⟨v10, hv10, h⟩ := bq_b h
          refine lv_iinc (v := v10) (lv' := [(3, .int v10), (0, .ref (a 0)), (1, .int v1), (2, .int v2)]) hx hb dX9_isLawfulWithout_41 hl (k := 3) rfl (by rw [hv10]; rfl) (by decide) rfl (fun ls hl => ?_)
          refine lv_goto (tgt := 4) hx hb dX9_isLawfulWithout_44 (by decide) ?_
          cases h
          exact ih _ _ _ _ _ _ _ hw hP hS (lv_sub hl [1, 2, 3, 0] rfl) kx
        · replace h := (if_pos c9).symm.trans h
          refine lv_aload_n hx hb dX9_isLawfulWithout_23 rfl (lv_at hl 0 rfl) ?_
          refine bq_get (q0 := 0) S hK hP fl_X9_75_X9_10 rfl rfl rfl dX9_isLawfulWithout_24 ?_
          refine lv_iload_n hx hb dX9_isLawfulWithout_27 rfl (lv_at hl 2 rfl) ?_
          refine lv_aload_n hx hb dX9_isLawfulWithout_28 rfl (lv_at hl 0 rfl) ?_
          refine bq_get (q0 := 0) S hK hP fl_X9_10_X9_0 rfl rfl rfl dX9_isLawfulWithout_29 ?_
          refine bq_get (q0 := 1) S hK hP fl_X9_156_X4_7 rfl rfl rfl dX9_isLawfulWithout_32 ?_
          refine lv_iload_n hx hb dX9_isLawfulWithout_35 rfl (lv_at hl 3 rfl) ?_
          obtain ⟨g11, h⟩ := bq_gd h
          refine va_iald (D := D) hx hb hK hP 6 0 rfl rfl g11 dX9_isLawfulWithout_36 ?_
          obtain ⟨g13, h⟩ := bq_gd h
          obtain ⟨x12, hx12, h⟩ := bq_b h
          refine bq_iast (x1 := x12) (q0 := 42) (t0 := 0) S hK hD hP hS rfl rfl g13 (by rw [hx12]; rfl) dX9_isLawfulWithout_37 (fun H locs hP hS => ?_)
          obtain ⟨v14, hv14, h⟩ := bq_b h
          refine lv_iinc (v := v14) (lv' := [(2, .int v14), (0, .ref (a 0)), (1, .int v1), (3, .int v3)]) hx hb dX9_isLawfulWithout_38 hl (k := 2) rfl (by rw [hv14]; rfl) (by decide) rfl (fun ls hl => ?_)
          obtain ⟨v15, hv15, h⟩ := bq_b h
          refine lv_iinc (v := v15) (lv' := [(3, .int v15), (2, .int v14), (0, .ref (a 0)), (1, .int v1)]) hx hb dX9_isLawfulWithout_41 hl (k := 3) rfl (by rw [hv15]; rfl) (by decide) rfl (fun ls hl => ?_)
          refine lv_goto (tgt := 4) hx hb dX9_isLawfulWithout_44 (by decide) ?_
          cases h
          exact ih _ _ _ _ _ _ _ hw hP hS (lv_sub hl [2, 3, 1, 0] rfl) kx
  obtain ⟨e16, he16, h⟩ := Option.bind_eq_some_iff.mp h
  refine hl4 _ n _ _ _ e16 _ _ _ he16 hP hS (lv_sub hl [2, 3, 1, 0] rfl) (fun H locs ls v17 v18 x19 hz hP hS hl => ?_)
  subst hz
  replace h := un3_e h
  refine lv_aload_n hx hb dX9_isLawfulWithout_47 rfl (lv_at hl 0 rfl) ?_
  refine bq_get (q0 := 0) S hK hP fl_X9_10_X9_0 rfl rfl rfl dX9_isLawfulWithout_48 ?_
  refine lv_aload_n hx hb dX9_isLawfulWithout_51 rfl (lv_at hl 0 rfl) ?_
  refine bq_get (q0 := 0) S hK hP fl_X9_75_X9_10 rfl rfl rfl dX9_isLawfulWithout_52 ?_
  refine lv_iload_n hx hb dX9_isLawfulWithout_55 rfl (lv_at hl 1 rfl) ?_
  obtain ⟨o20, ho20, h⟩ := Option.bind_eq_some_iff.mp h
  obtain ⟨v22, x21⟩ := o20
  replace h := un2_e h
  refine bq_callVi (q0 := 1) (As := [.ref (a 42), .int _]) S hK hD hA hP hS (cX4_isLawful_k_1_42 ho20) hd_yX4_isLawful ml_X9_284 in_yX4_isLawful (hts _ sl_X4_X4_yX4_isLawful) ⟨rfl, rfl⟩ ⟨by decide, by decide⟩ rfl rfl rfl hl.1 rfl (Nat.le_of_ble_eq_true rfl) ⟨Nat.zero_le _, Nat.zero_le _⟩ dX9_isLawfulWithout_56 (fun H locs hP hS => ?_)
  obtain ⟨g23, h⟩ := bq_gp h
  obtain ⟨e1, e2⟩ := Prod.mk.inj (hret _ h)
  exact hR _ _ _ _ _ (congrArg some e1) (bq_z g23) (by rw [e2]; exact hP) hS dX9_isLawfulWithout_59
