def fX9_free_b22 (n : Nat) (v3 : Int32) (v : Int32 × Int32 × bq_S) : Option ((Int32 × Int32 × bq_S) ⊕ (Int32 × Int32 × bq_S)) :=
  un3 v (fun v4 v5 x6 =>
  (fX9_bit (x6.1 1 2) x6).bind (fun o7 => un2 o7 (fun v9 x8 =>
  if v9 ≤ v5 then
  some (.inr (v4, v5, x8))
  else
  (fJ6_bitCount v5 x8).bind (fun o11 => un2 o11 (fun v13 x12 =>
  if v13 = v3 then
  (fX9_isLawfulWithout n v5 x12).bind (fun o16 => un2 o16 (fun v18 x17 =>
  if v18 = 0 then
  bd (v5 + (1 : Int32)) (fun v20 =>
  some (.inl (v4, v20, x17)))
  else
  bd (v4 + (1 : Int32)) (fun v21 =>
  bd (v5 + (1 : Int32)) (fun v22 =>
  some (.inl (v21, v22, x17))))))
  else
  bd (v5 + (1 : Int32)) (fun v15 =>
  some (.inl (v4, v15, x12))))))))
def fX9_free (n : Nat) (p1 : Int32) (x0 : bq_S) : Option (Int32 × bq_S) :=
  if p1 < (1 : Int32) then
  some ((-1 : Int32), x0)
  else
  if p1 ≤ (x0.1 1 2) then
  (wh n (fX9_free_b22 n p1) ((0 : Int32), (0 : Int32), x0)).bind (fun e23 => un3 e23 (fun v24 v25 x26 =>
  some (v24, x26)))
  else
  some ((-1 : Int32), x0)
theorem dX9_free_0 : decode cX9_free 0 = .ok (.iload_n 1, 1) := by decide +kernel
theorem dX9_free_1 : decode cX9_free 1 = .ok (.iconst 1, 1) := by decide +kernel
theorem dX9_free_2 : decode cX9_free 2 = .ok (.if_icmp .lt 14, 3) := by decide +kernel
theorem dX9_free_5 : decode cX9_free 5 = .ok (.iload_n 1, 1) := by decide +kernel
theorem dX9_free_6 : decode cX9_free 6 = .ok (.aload_n 0, 1) := by decide +kernel
theorem dX9_free_7 : decode cX9_free 7 = .ok (.getfield 10, 3) := by decide +kernel
theorem dX9_free_10 : decode cX9_free 10 = .ok (.getfield 159, 3) := by decide +kernel
theorem dX9_free_13 : decode cX9_free 13 = .ok (.if_icmp .le 5, 3) := by decide +kernel
theorem dX9_free_16 : decode cX9_free 16 = .ok (.iconst (-1), 1) := by decide +kernel
theorem dX9_free_17 : decode cX9_free 17 = .ok (.ireturn, 1) := by decide +kernel
theorem dX9_free_18 : decode cX9_free 18 = .ok (.iconst 0, 1) := by decide +kernel
theorem dX9_free_19 : decode cX9_free 19 = .ok (.istore_n 2, 1) := by decide +kernel
theorem dX9_free_20 : decode cX9_free 20 = .ok (.iconst 0, 1) := by decide +kernel
theorem dX9_free_21 : decode cX9_free 21 = .ok (.istore_n 3, 1) := by decide +kernel
theorem dX9_free_22 : decode cX9_free 22 = .ok (.iload_n 3, 1) := by decide +kernel
theorem dX9_free_23 : decode cX9_free 23 = .ok (.aload_n 0, 1) := by decide +kernel
theorem dX9_free_24 : decode cX9_free 24 = .ok (.getfield 10, 3) := by decide +kernel
theorem dX9_free_27 : decode cX9_free 27 = .ok (.getfield 159, 3) := by decide +kernel
theorem dX9_free_30 : decode cX9_free 30 = .ok (.invokestatic 211, 3) := by decide +kernel
theorem dX9_free_33 : decode cX9_free 33 = .ok (.if_icmp .ge 28, 3) := by decide +kernel
theorem dX9_free_36 : decode cX9_free 36 = .ok (.iload_n 3, 1) := by decide +kernel
theorem dX9_free_37 : decode cX9_free 37 = .ok (.invokestatic 196, 3) := by decide +kernel
theorem dX9_free_40 : decode cX9_free 40 = .ok (.iload_n 1, 1) := by decide +kernel
theorem dX9_free_41 : decode cX9_free 41 = .ok (.if_icmp .ne 14, 3) := by decide +kernel
theorem dX9_free_44 : decode cX9_free 44 = .ok (.aload_n 0, 1) := by decide +kernel
theorem dX9_free_45 : decode cX9_free 45 = .ok (.iload_n 3, 1) := by decide +kernel
theorem dX9_free_46 : decode cX9_free 46 = .ok (.invokevirtual 223, 3) := by decide +kernel
theorem dX9_free_49 : decode cX9_free 49 = .ok (.ifCond .eq 6, 3) := by decide +kernel
theorem dX9_free_52 : decode cX9_free 52 = .ok (.iinc 2 1, 3) := by decide +kernel
theorem dX9_free_55 : decode cX9_free 55 = .ok (.iinc 3 1, 3) := by decide +kernel
theorem dX9_free_58 : decode cX9_free 58 = .ok (.goto (-36), 3) := by decide +kernel
theorem dX9_free_61 : decode cX9_free 61 = .ok (.iload_n 2, 1) := by decide +kernel
theorem dX9_free_62 : decode cX9_free 62 = .ok (.ireturn, 1) := by decide +kernel
set_option maxHeartbeats 4000000 in
set_option maxRecDepth 100000 in
theorem cX9_free_k_0 {l : Launch} {D : va_G} {a : Nat → Nat} {k : Nat → ClassId} {n : Nat} {p1 : Int32} {x0 xz : bq_S} {rz : Int32} (h : fX9_free n p1 x0 = some (rz, xz)) : bq_M l D bq_cl (bq_ty k) (bq_wC a k) yX9_free cX9_free 4 (some .int) { frames := 4, cells := 0, slots := 0, locals := 90 } [.ref (a 0), .int p1] x0 (some rz) xz := by
  refine bq_ofW RX9 [(0, .ref (a 0)), (1, .int p1)] (by decide +kernel) rfl (Nat.le_of_ble_eq_true rfl) rfl (bq_adC a k) ?_
  intro p e s m below meth c A Q ls S hK hD hA hR hS hP hl
  have hx := S.1; have hb := S.2.1; have hml := S.2.2.1; have hown := S.2.2.2.1; have hts := S.2.2.2.2
  have hret : ∀ z, some z = some (rz, xz) → (rz, xz) = z := fun z h => (Option.some.inj h).symm
  unfold fX9_free at h
  refine lv_iload_n hx hb dX9_free_0 rfl (lv_at hl 1 rfl) ?_
  refine lv_iconst (v := (1 : Int32)) hx hb dX9_free_1 (by decide) ?_
  refine lv_icmp_lt (tgt := 16) hx hb dX9_free_2 (by decide) (fun c1 => ?_) (fun c1 => ?_)
  · replace h := (if_pos c1).symm.trans h
    refine lv_iconst (v := (-1 : Int32)) hx hb dX9_free_16 (by decide) ?_
    obtain ⟨e1, e2⟩ := Prod.mk.inj (hret _ h)
    exact hR _ _ _ _ _ (congrArg some e1) rfl (by rw [e2]; exact hP) hS dX9_free_17
  · replace h := (if_neg c1).symm.trans h
    refine lv_iload_n hx hb dX9_free_5 rfl (lv_at hl 1 rfl) ?_
    refine lv_aload_n hx hb dX9_free_6 rfl (lv_at hl 0 rfl) ?_
    refine bq_get (q0 := 0) S hK hP fl_X9_10_X9_0 rfl rfl rfl dX9_free_7 ?_
    refine bq_get (q0 := 1) S hK hP fl_X9_159_X4_2 rfl rfl rfl dX9_free_10 ?_
    refine lv_icmp_le (tgt := 18) hx hb dX9_free_13 (by decide) (fun c2 => ?_) (fun c2 => ?_)
    · replace h := (if_pos c2).symm.trans h
      refine lv_iconst (v := (0 : Int32)) hx hb dX9_free_18 (by decide) ?_
      refine lv_istore_n (lv' := [(2, .int (0 : Int32)), (0, .ref (a 0)), (1, .int p1)]) hx hb dX9_free_19 rfl hl (by decide) rfl (fun ls hl => ?_)
      refine lv_iconst (v := (0 : Int32)) hx hb dX9_free_20 (by decide) ?_
      refine lv_istore_n (lv' := [(3, .int (0 : Int32)), (2, .int (0 : Int32)), (0, .ref (a 0)), (1, .int p1)]) hx hb dX9_free_21 rfl hl (by decide) rfl (fun ls hl => ?_)
      have hl22 : ∀ (v3 : Int32) (kf : Nat) (v4 : Int32) (v5 : Int32) (x6 : bq_S) (eo : Int32 × Int32 × bq_S) (H : Heap) (locs : List Loc) (ls : Array Slot), wh kf (fX9_free_b22 n v3) (v4, v5, x6) = some eo → va_P D bq_cl (bq_wC a k x6) H → va_S A s.heap H locs → lv_has ls 4 [(0, .ref (a 0)), (1, .int v3), (2, .int v4), (3, .int v5)] → (∀ (H : Heap) (locs : List Loc) (ls : Array Slot) (v24 : Int32) (v25 : Int32) (x26 : bq_S), eo = (v24, v25, x26) → va_P D bq_cl (bq_wC a k x26) H → va_S A s.heap H locs → lv_has ls 4 [(2, .int v24)] → W p l e { frames := 4, cells := 0, slots := 0, locals := 90 } s m [.ref (a 0), .int p1].toArray below meth c H locs 0 0 Q (F0 m 61 ls [])) → W p l e { frames := 4, cells := 0, slots := 0, locals := 90 } s m [.ref (a 0), .int p1].toArray below meth c H locs 0 0 Q (F0 m 22 ls []) := by
        intro v3 kf
        induction kf with
        | zero => intro v4 v5 x6 eo H locs ls h; cases h
        | succ kf ih =>
          intro v4 v5 x6 eo H locs ls h hP hS hl kx
          obtain ⟨out, h, hw⟩ := wh_s h
          unfold fX9_free_b22 at h
          replace h := un3_e h
          refine lv_iload_n hx hb dX9_free_22 rfl (lv_at hl 3 rfl) ?_
          refine lv_aload_n hx hb dX9_free_23 rfl (lv_at hl 0 rfl) ?_
          refine bq_get (q0 := 0) S hK hP fl_X9_10_X9_0 rfl rfl rfl dX9_free_24 ?_
          refine bq_get (q0 := 1) S hK hP fl_X9_159_X4_2 rfl rfl rfl dX9_free_27 ?_
          obtain ⟨o7, ho7, h⟩ := Option.bind_eq_some_iff.mp h
          obtain ⟨v9, x8⟩ := o7
          replace h := un2_e h
          refine bq_callSi (As := [.int _]) S hK hD hA hP hS (cX9_bit_k ho7) hd_yX9_bit ml_X9_211 st_yX9_bit ⟨rfl, rfl⟩ ⟨by decide, by decide⟩ rfl hl.1 rfl (Nat.le_of_ble_eq_true rfl) ⟨Nat.zero_le _, Nat.zero_le _⟩ dX9_free_30 (fun H locs hP hS => ?_)
          refine lv_icmp_ge (tgt := 61) hx hb dX9_free_33 (by decide) (fun c10 => ?_) (fun c10 => ?_)
          · replace h := (if_pos c10).symm.trans h
            cases h
            exact kx _ _ _ _ _ _ (Option.some.inj hw).symm hP hS (lv_sub hl [2] rfl)
          · replace h := (if_neg c10).symm.trans h
            refine lv_iload_n hx hb dX9_free_36 rfl (lv_at hl 3 rfl) ?_
            obtain ⟨o11, ho11, h⟩ := Option.bind_eq_some_iff.mp h
            obtain ⟨v13, x12⟩ := o11
            replace h := un2_e h
            refine bq_callSi (As := [.int _]) S hK hD hA hP hS (cJ6_bitCount_k ho11) hd_yJ6_bitCount_0f7a4 ml_X9_196 st_yJ6_bitCount_0f7a4 ⟨rfl, rfl⟩ ⟨by decide, by decide⟩ rfl hl.1 rfl (Nat.le_of_ble_eq_true rfl) ⟨Nat.zero_le _, Nat.zero_le _⟩ dX9_free_37 (fun H locs hP hS => ?_)
            refine lv_iload_n hx hb dX9_free_40 rfl (lv_at hl 1 rfl) ?_
            refine lv_icmp_ne (tgt := 55) hx hb dX9_free_41 (by decide) (fun c14 => ?_) (fun c14 => ?_)
            · replace h := (if_neg c14).symm.trans h
              obtain ⟨v15, hv15, h⟩ := bq_b h
              refine lv_iinc (v := v15) (lv' := [(3, .int v15), (0, .ref (a 0)), (1, .int v3), (2, .int v4)]) hx hb dX9_free_55 hl (k := 3) rfl (by rw [hv15]; rfl) (by decide) rfl (fun ls hl => ?_)
              refine lv_goto (tgt := 22) hx hb dX9_free_58 (by decide) ?_
              cases h
              exact ih _ _ _ _ _ _ _ hw hP hS (lv_sub hl [1, 2, 3, 0] rfl) kx
            · replace h := (if_pos c14).symm.trans h
              refine lv_aload_n hx hb dX9_free_44 rfl (lv_at hl 0 rfl) ?_
              refine lv_iload_n hx hb dX9_free_45 rfl (lv_at hl 3 rfl) ?_
              obtain ⟨o16, ho16, h⟩ := Option.bind_eq_some_iff.mp h
              obtain ⟨v18, x17⟩ := o16
              replace h := un2_e h
              refine bq_callVi (q0 := 0) (As := [.int _]) S hK hD hA hP hS (cX9_isLawfulWithout_k_0 ho16) hd_yX9_isLawfulWithout ml_X9_223 in_yX9_isLawfulWithout (hts _ sl_X9_X9_yX9_isLawfulWithout) ⟨rfl, rfl⟩ ⟨by decide, by decide⟩ rfl rfl rfl hl.1 rfl (Nat.le_of_ble_eq_true rfl) ⟨Nat.zero_le _, Nat.zero_le _⟩ dX9_free_46 (fun H locs hP hS => ?_)
              refine lv_if_eq (tgt := 55) hx hb dX9_free_49 (by decide) (fun c19 => ?_) (fun c19 => ?_)
              · replace h := (if_pos c19).symm.trans h
                obtain ⟨v20, hv20, h⟩ := bq_b h
                refine lv_iinc (v := v20) (lv' := [(3, .int v20), (0, .ref (a 0)), (1, .int v3), (2, .int v4)]) hx hb dX9_free_55 hl (k := 3) rfl (by rw [hv20]; rfl) (by decide) rfl (fun ls hl => ?_)
                refine lv_goto (tgt := 22) hx hb dX9_free_58 (by decide) ?_
                cases h
                exact ih _ _ _ _ _ _ _ hw hP hS (lv_sub hl [1, 2, 3, 0] rfl) kx
              · replace h := (if_neg c19).symm.trans h
                obtain ⟨v21, hv21, h⟩ := bq_b h
                refine lv_iinc (v := v21) (lv' := [(2, .int v21), (0, .ref (a 0)), (1, .int v3), (3, .int v5)]) hx hb dX9_free_52 hl (k := 2) rfl (by rw [hv21]; rfl) (by decide) rfl (fun ls hl => ?_)
                obtain ⟨v22, hv22, h⟩ := bq_b h
                refine lv_iinc (v := v22) (lv' := [(3, .int v22), (2, .int v21), (0, .ref (a 0)), (1, .int v3)]) hx hb dX9_free_55 hl (k := 3) rfl (by rw [hv22]; rfl) (by decide) rfl (fun ls hl => ?_)
                refine lv_goto (tgt := 22) hx hb dX9_free_58 (by decide) ?_
                cases h
                exact ih _ _ _ _ _ _ _ hw hP hS (lv_sub hl [2, 3, 1, 0] rfl) kx
      obtain ⟨e23, he23, h⟩ := Option.bind_eq_some_iff.mp h
      refine hl22 _ n _ _ _ e23 _ _ _ he23 hP hS (lv_sub hl [2, 3, 1, 0] rfl) (fun H locs ls v24 v25 x26 hz hP hS hl => ?_)
      subst hz
      replace h := un3_e h
      refine lv_iload_n hx hb dX9_free_61 rfl (lv_at hl 0 rfl) ?_
      obtain ⟨e1, e2⟩ := Prod.mk.inj (hret _ h)
      exact hR _ _ _ _ _ (congrArg some e1) rfl (by rw [e2]; exact hP) hS dX9_free_62
    · replace h := (if_neg c2).symm.trans h
      refine lv_iconst (v := (-1 : Int32)) hx hb dX9_free_16 (by decide) ?_
      obtain ⟨e1, e2⟩ := Prod.mk.inj (hret _ h)
      exact hR _ _ _ _ _ (congrArg some e1) rfl (by rw [e2]; exact hP) hS dX9_free_17
def fX0_besides (p1 : Int32) (p2 : Int32) (x0 : bq_S) : Option (Int32 × bq_S) :=
  bd (x0.1 1 2) (fun v1 =>
  (fX4_isPlace 1 p1.toInt64 x0).bind (fun o2 => un2 o2 (fun v4 x3 =>
  if v4 = 0 then
  if p2 = 0 then
  some ((255 : Int32), x3)
  else
  if 0 ≤ p1 then
  if ok_i (x3.1 6 (0 : Int32).toNatClampNeg) 8 then
  some ((x3.1 7 (x3.1 6 (0 : Int32).toNatClampNeg).toNatClampNeg), x3)
  else none
  else
  if ok_i (v1 - (1 : Int32)) 8 then
  if ok_i (x3.1 6 (v1 - (1 : Int32)).toNatClampNeg) 8 then
  some ((x3.1 7 (x3.1 6 (v1 - (1 : Int32)).toNatClampNeg).toNatClampNeg), x3)
  else none
  else none
  else
  if ok_i p1 8 then
  if ok_i (x3.1 6 p1.toNatClampNeg) 8 then
  some ((x3.1 7 (x3.1 6 p1.toNatClampNeg).toNatClampNeg), x3)
  else none
  else none)))
theorem dX0_besides_0 : decode cX0_besides 0 = .ok (.aload_n 0, 1) := by decide +kernel
theorem dX0_besides_1 : decode cX0_besides 1 = .ok (.getfield 27, 3) := by decide +kernel
theorem dX0_besides_4 : decode cX0_besides 4 = .ok (.getfield 41, 3) := by decide +kernel
theorem dX0_besides_7 : decode cX0_besides 7 = .ok (.istore_n 3, 1) := by decide +kernel
theorem dX0_besides_8 : decode cX0_besides 8 = .ok (.aload_n 0, 1) := by decide +kernel
theorem dX0_besides_9 : decode cX0_besides 9 = .ok (.getfield 27, 3) := by decide +kernel
theorem dX0_besides_12 : decode cX0_besides 12 = .ok (.iload_n 1, 1) := by decide +kernel
theorem dX0_besides_13 : decode cX0_besides 13 = .ok (.i2l, 1) := by decide +kernel
theorem dX0_besides_14 : decode cX0_besides 14 = .ok (.invokevirtual 52, 3) := by decide +kernel
theorem dX0_besides_17 : decode cX0_besides 17 = .ok (.ifCond .eq 21, 3) := by decide +kernel
theorem dX0_besides_20 : decode cX0_besides 20 = .ok (.aload_n 0, 1) := by decide +kernel
theorem dX0_besides_21 : decode cX0_besides 21 = .ok (.getfield 27, 3) := by decide +kernel
theorem dX0_besides_24 : decode cX0_besides 24 = .ok (.getfield 56, 3) := by decide +kernel
theorem dX0_besides_27 : decode cX0_besides 27 = .ok (.aload_n 0, 1) := by decide +kernel
theorem dX0_besides_28 : decode cX0_besides 28 = .ok (.getfield 27, 3) := by decide +kernel
theorem dX0_besides_31 : decode cX0_besides 31 = .ok (.getfield 60, 3) := by decide +kernel
theorem dX0_besides_34 : decode cX0_besides 34 = .ok (.iload_n 1, 1) := by decide +kernel
theorem dX0_besides_35 : decode cX0_besides 35 = .ok (.iaload, 1) := by decide +kernel
theorem dX0_besides_36 : decode cX0_besides 36 = .ok (.iaload, 1) := by decide +kernel
theorem dX0_besides_37 : decode cX0_besides 37 = .ok (.ireturn, 1) := by decide +kernel
theorem dX0_besides_38 : decode cX0_besides 38 = .ok (.iload_n 2, 1) := by decide +kernel
theorem dX0_besides_39 : decode cX0_besides 39 = .ok (.ifCond .ne 7, 3) := by decide +kernel
theorem dX0_besides_42 : decode cX0_besides 42 = .ok (.sipush 255, 3) := by decide +kernel
theorem dX0_besides_45 : decode cX0_besides 45 = .ok (.ireturn, 1) := by decide +kernel
theorem dX0_besides_46 : decode cX0_besides 46 = .ok (.aload_n 0, 1) := by decide +kernel
theorem dX0_besides_47 : decode cX0_besides 47 = .ok (.getfield 27, 3) := by decide +kernel
theorem dX0_besides_50 : decode cX0_besides 50 = .ok (.getfield 56, 3) := by decide +kernel
theorem dX0_besides_53 : decode cX0_besides 53 = .ok (.aload_n 0, 1) := by decide +kernel
theorem dX0_besides_54 : decode cX0_besides 54 = .ok (.getfield 27, 3) := by decide +kernel
theorem dX0_besides_57 : decode cX0_besides 57 = .ok (.getfield 60, 3) := by decide +kernel
theorem dX0_besides_60 : decode cX0_besides 60 = .ok (.iload_n 1, 1) := by decide +kernel
theorem dX0_besides_61 : decode cX0_besides 61 = .ok (.ifCond .ge 9, 3) := by decide +kernel
theorem dX0_besides_64 : decode cX0_besides 64 = .ok (.iload_n 3, 1) := by decide +kernel
theorem dX0_besides_65 : decode cX0_besides 65 = .ok (.iconst 1, 1) := by decide +kernel
theorem dX0_besides_66 : decode cX0_besides 66 = .ok (.isub, 1) := by decide +kernel
theorem dX0_besides_67 : decode cX0_besides 67 = .ok (.goto 4, 3) := by decide +kernel
theorem dX0_besides_70 : decode cX0_besides 70 = .ok (.iconst 0, 1) := by decide +kernel
theorem dX0_besides_71 : decode cX0_besides 71 = .ok (.iaload, 1) := by decide +kernel
theorem dX0_besides_72 : decode cX0_besides 72 = .ok (.iaload, 1) := by decide +kernel
theorem dX0_besides_73 : decode cX0_besides 73 = .ok (.ireturn, 1) := by decide +kernel
set_option maxHeartbeats 4000000 in
set_option maxRecDepth 100000 in
theorem cX0_besides_k_26 {l : Launch} {D : va_G} {a : Nat → Nat} {k : Nat → ClassId} {p1 : Int32} {p2 : Int32} {x0 xz : bq_S} {rz : Int32} (h : fX0_besides  p1 p2 x0 = some (rz, xz)) : bq_M l D bq_cl (bq_ty k) (bq_wC a k) yX0_besides cX0_besides 4 (some .int) { frames := 1, cells := 0, slots := 0, locals := 22 } [.ref (a 26), .int p1, .int p2] x0 (some rz) xz := by
  refine bq_ofW RX0 [(0, .ref (a 26)), (1, .int p1), (2, .int p2)] (by decide +kernel) rfl (Nat.le_of_ble_eq_true rfl) rfl (bq_adC a k) ?_
  intro p e s m below meth c A Q ls S hK hD hA hR hS hP hl
  have hx := S.1; have hb := S.2.1; have hml := S.2.2.1; have hown := S.2.2.2.1; have hts := S.2.2.2.2
  have hret : ∀ z, some z = some (rz, xz) → (rz, xz) = z := fun z h => (Option.some.inj h).symm
  unfold fX0_besides at h
  refine lv_aload_n hx hb dX0_besides_0 rfl (lv_at hl 0 rfl) ?_
  refine bq_get (q0 := 26) S hK hP fl_X0_27_X0_0 rfl rfl rfl dX0_besides_1 ?_
  refine bq_get (q0 := 1) S hK hP fl_X0_41_X4_2 rfl rfl rfl dX0_besides_4 ?_
  refine lv_topi (fun v1 hv1 => ?_)
  replace h := bq_bv h hv1
  refine lv_istore_n (lv' := [(3, .int v1), (0, .ref (a 26)), (1, .int p1), (2, .int p2)]) hx hb dX0_besides_7 rfl hl (by decide) rfl (fun ls hl => ?_)
  refine lv_aload_n hx hb dX0_besides_8 rfl (lv_at hl 1 rfl) ?_
  refine bq_get (q0 := 26) S hK hP fl_X0_27_X0_0 rfl rfl rfl dX0_besides_9 ?_
  refine lv_iload_n hx hb dX0_besides_12 rfl (lv_at hl 2 rfl) ?_
  refine lv_i2l hx hb dX0_besides_13 rfl ?_
  obtain ⟨o2, ho2, h⟩ := Option.bind_eq_some_iff.mp h
  obtain ⟨v4, x3⟩ := o2
  replace h := un2_e h
  refine bq_callVi (q0 := 1) (As := [.long _]) S hK hD hA hP hS (cX4_isPlace_k_1 ho2) hd_yX4_isPlace ml_X0_52 in_yX4_isPlace (hts _ sl_X4_X4_yX4_isPlace) ⟨rfl, rfl⟩ ⟨by decide, by decide⟩ rfl rfl rfl hl.1 rfl (Nat.le_of_ble_eq_true rfl) ⟨Nat.zero_le _, Nat.zero_le _⟩ dX0_besides_14 (fun H locs hP hS => ?_)
  refine lv_if_eq (tgt := 38) hx hb dX0_besides_17 (by decide) (fun c5 => ?_) (fun c5 => ?_)
  · replace h := (if_pos c5).symm.trans h
    refine lv_iload_n hx hb dX0_besides_38 rfl (lv_at hl 3 rfl) ?_
    refine lv_if_ne (tgt := 46) hx hb dX0_besides_39 (by decide) (fun c6 => ?_) (fun c6 => ?_)
    · replace h := (if_neg c6).symm.trans h
      refine lv_aload_n hx hb dX0_besides_46 rfl (lv_at hl 1 rfl) ?_
      refine bq_get (q0 := 26) S hK hP fl_X0_27_X0_0 rfl rfl rfl dX0_besides_47 ?_
      refine bq_get (q0 := 1) S hK hP fl_X0_56_X4_8 rfl rfl rfl dX0_besides_50 ?_
      refine lv_aload_n hx hb dX0_besides_53 rfl (lv_at hl 1 rfl) ?_
      refine bq_get (q0 := 26) S hK hP fl_X0_27_X0_0 rfl rfl rfl dX0_besides_54 ?_
      refine bq_get (q0 := 1) S hK hP fl_X0_60_X4_7 rfl rfl rfl dX0_besides_57 ?_
      refine lv_iload_n hx hb dX0_besides_60 rfl (lv_at hl 2 rfl) ?_
      refine lv_if_ge (tgt := 70) hx hb dX0_besides_61 (by decide) (fun c7 => ?_) (fun c7 => ?_)
      · replace h := (if_pos c7).symm.trans h
        refine lv_iconst (v := (0 : Int32)) hx hb dX0_besides_70 (by decide) ?_
        refine va_iald (D := D) hx hb hK hP 6 0 rfl rfl (bq_inl rfl) dX0_besides_71 ?_
        obtain ⟨g8, h⟩ := bq_gd h
        refine va_iald (D := D) hx hb hK hP 7 0 rfl rfl g8 dX0_besides_72 ?_
        obtain ⟨e1, e2⟩ := Prod.mk.inj (hret _ h)
        exact hR _ _ _ _ _ (congrArg some e1) rfl (by rw [e2]; exact hP) hS dX0_besides_73
      · replace h := (if_neg c7).symm.trans h
        refine lv_iload_n hx hb dX0_besides_64 rfl (lv_at hl 0 rfl) ?_
        refine lv_iconst (v := (1 : Int32)) hx hb dX0_besides_65 (by decide) ?_
        refine lv_isub hx hb dX0_besides_66 ?_
        refine lv_goto (tgt := 71) hx hb dX0_besides_67 (by decide) ?_
        obtain ⟨g9, h⟩ := bq_gd h
        refine va_iald (D := D) hx hb hK hP 6 0 rfl rfl g9 dX0_besides_71 ?_
        obtain ⟨g10, h⟩ := bq_gd h
        refine va_iald (D := D) hx hb hK hP 7 0 rfl rfl g10 dX0_besides_72 ?_
        obtain ⟨e1, e2⟩ := Prod.mk.inj (hret _ h)
        exact hR _ _ _ _ _ (congrArg some e1) rfl (by rw [e2]; exact hP) hS dX0_besides_73
    · replace h := (if_pos c6).symm.trans h
      refine lv_sipush (v := (255 : Int32)) hx hb dX0_besides_42 (by decide) ?_
      obtain ⟨e1, e2⟩ := Prod.mk.inj (hret _ h)
      exact hR _ _ _ _ _ (congrArg some e1) rfl (by rw [e2]; exact hP) hS dX0_besides_45
  · replace h := (if_neg c5).symm.trans h
    refine lv_aload_n hx hb dX0_besides_20 rfl (lv_at hl 1 rfl) ?_
    refine bq_get (q0 := 26) S hK hP fl_X0_27_X0_0 rfl rfl rfl dX0_besides_21 ?_
    refine bq_get (q0 := 1) S hK hP fl_X0_56_X4_8 rfl rfl rfl dX0_besides_24 ?_
    refine lv_aload_n hx hb dX0_besides_27 rfl (lv_at hl 1 rfl) ?_
    refine bq_get (q0 := 26) S hK hP fl_X0_27_X0_0 rfl rfl rfl dX0_besides_28 ?_
    refine bq_get (q0 := 1) S hK hP fl_X0_60_X4_7 rfl rfl rfl dX0_besides_31 ?_
    refine lv_iload_n hx hb dX0_besides_34 rfl (lv_at hl 2 rfl) ?_
    obtain ⟨g11, h⟩ := bq_gd h
    refine va_iald (D := D) hx hb hK hP 6 0 rfl rfl g11 dX0_besides_35 ?_
    obtain ⟨g12, h⟩ := bq_gd h
    refine va_iald (D := D) hx hb hK hP 7 0 rfl rfl g12 dX0_besides_36 ?_
    obtain ⟨e1, e2⟩ := Prod.mk.inj (hret _ h)
    exact hR _ _ _ _ _ (congrArg some e1) rfl (by rw [e2]; exact hP) hS dX0_besides_37
def fX0_askBurnt_j139 (n : Nat) (v46 : Int32) (v47 : Int32) (v48 : Int32) (x49 : bq_S) : Option (bq_S) :=
  (fX0_besides v47 v48 x49).bind (fun o50 => un2 o50 (fun v52 x51 =>
  bd (bq_sI x51 26 7 v52) (fun x53 =>
  bd (bq_sI x53 26 8 v46) (fun x54 =>
  some x54))))
def fX0_askBurnt_j113 (n : Nat) (v34 : Int32) (v35 : Int32) (v36 : Int32) (v37 : Int32) (v38 : Int32) (v39 : Int32) (x40 : bq_S) : Option (bq_S) :=
  (fX0_besides v38 v39 x40).bind (fun o41 => un2 o41 (fun v43 x42 =>
  bd (bq_sI x42 26 6 v43) (fun x44 =>
  if v36 = 0 then
  fX0_askBurnt_j139 n v35 (v34 + (1 : Int32)) (0 : Int32) x44
  else
  if v37 = 0 then
  fX0_askBurnt_j139 n v35 (v34 + (1 : Int32)) (1 : Int32) x44
  else
  fX0_askBurnt_j139 n v35 (v34 + (1 : Int32)) (0 : Int32) x44)))
def fX0_askBurnt_j90 (n : Nat) (v22 : Int32) (v23 : Int32) (v24 : Int32) (v25 : Int32) (v26 : Int32) (v27 : Int32) (v28 : Int32) (v29 : Int32) (x30 : bq_S) : Option (bq_S) :=
  (fX8X0_ask v27 v28 v29 x30).bind (fun x32 =>
  if v25 = 0 then
  fX0_askBurnt_j113 n v23 v24 v25 v26 (v22 - (1 : Int32)) (0 : Int32) x32
  else
  if v26 = 0 then
  fX0_askBurnt_j113 n v23 v24 v25 v26 (v22 - (1 : Int32)) (1 : Int32) x32
  else
  fX0_askBurnt_j113 n v23 v24 v25 v26 (v22 - (1 : Int32)) (0 : Int32) x32)
def fX0_askBurnt_j37 (n : Nat) (v6 : Int32) (v7 : Int32) (v8 : Int32) (v9 : Int32) (v10 : Int32) (v11 : Int32) (v12 : Int32) (x13 : bq_S) : Option (bq_S) :=
  (fX4_setAt n 1 (0 : Int32) v6 x13).bind (fun o14 => un2 o14 (fun v16 x15 =>
  (fX4_setAt n 1 (v7 + (1 : Int32)) v10 x15).bind (fun o17 => un2 o17 (fun v19 x18 =>
  bd (v16 ||| v19) (fun v20 =>
  if v11 = 0 then
  fX0_askBurnt_j90 n v6 v7 v9 v11 v12 (v8 &&& (v20 ^^^ (-1 : Int32))) ((v7 - v6) + (1 : Int32)) (0 : Int32) x18
  else
  if v12 = 0 then
  fX0_askBurnt_j90 n v6 v7 v9 v11 v12 (v8 &&& (v20 ^^^ (-1 : Int32))) ((v7 - v6) + (1 : Int32)) (0 : Int32) x18
  else
  fX0_askBurnt_j90 n v6 v7 v9 v11 v12 (v8 &&& (v20 ^^^ (-1 : Int32))) ((v7 - v6) + (1 : Int32)) (1 : Int32) x18)))))
def fX0_askBurnt (n : Nat) (p1 : Int32) (p2 : Int32) (p3 : Int32) (p4 : Int32) (x0 : bq_S) : Option (bq_S) :=
  bd (x0.1 1 2) (fun v1 =>
  (fX4_closes 1 v1 x0).bind (fun o2 => un2 o2 (fun v4 x3 =>
  if p1 = 0 then
  if p2 = (v1 - (1 : Int32)) then
  fX0_askBurnt_j37 n p1 p2 p3 p4 v1 v4 (1 : Int32) x3
  else
  fX0_askBurnt_j37 n p1 p2 p3 p4 v1 v4 (0 : Int32) x3
  else
  fX0_askBurnt_j37 n p1 p2 p3 p4 v1 v4 (0 : Int32) x3)))
theorem dX0_askBurnt_0 : decode cX0_askBurnt 0 = .ok (.aload_n 0, 1) := by decide +kernel
theorem dX0_askBurnt_1 : decode cX0_askBurnt 1 = .ok (.getfield 27, 3) := by decide +kernel
theorem dX0_askBurnt_4 : decode cX0_askBurnt 4 = .ok (.getfield 41, 3) := by decide +kernel
theorem dX0_askBurnt_7 : decode cX0_askBurnt 7 = .ok (.istore 5, 2) := by decide +kernel
theorem dX0_askBurnt_9 : decode cX0_askBurnt 9 = .ok (.aload_n 0, 1) := by decide +kernel
theorem dX0_askBurnt_10 : decode cX0_askBurnt 10 = .ok (.getfield 27, 3) := by decide +kernel
theorem dX0_askBurnt_13 : decode cX0_askBurnt 13 = .ok (.iload 5, 2) := by decide +kernel
theorem dX0_askBurnt_15 : decode cX0_askBurnt 15 = .ok (.invokevirtual 31, 3) := by decide +kernel
theorem dX0_askBurnt_18 : decode cX0_askBurnt 18 = .ok (.istore 6, 2) := by decide +kernel
theorem dX0_askBurnt_20 : decode cX0_askBurnt 20 = .ok (.iload_n 1, 1) := by decide +kernel
theorem dX0_askBurnt_21 : decode cX0_askBurnt 21 = .ok (.ifCond .ne 15, 3) := by decide +kernel
theorem dX0_askBurnt_24 : decode cX0_askBurnt 24 = .ok (.iload_n 2, 1) := by decide +kernel
theorem dX0_askBurnt_25 : decode cX0_askBurnt 25 = .ok (.iload 5, 2) := by decide +kernel
theorem dX0_askBurnt_27 : decode cX0_askBurnt 27 = .ok (.iconst 1, 1) := by decide +kernel
theorem dX0_askBurnt_28 : decode cX0_askBurnt 28 = .ok (.isub, 1) := by decide +kernel
theorem dX0_askBurnt_29 : decode cX0_askBurnt 29 = .ok (.if_icmp .ne 7, 3) := by decide +kernel
theorem dX0_askBurnt_32 : decode cX0_askBurnt 32 = .ok (.iconst 1, 1) := by decide +kernel
theorem dX0_askBurnt_33 : decode cX0_askBurnt 33 = .ok (.goto 4, 3) := by decide +kernel
theorem dX0_askBurnt_36 : decode cX0_askBurnt 36 = .ok (.iconst 0, 1) := by decide +kernel
theorem dX0_askBurnt_37 : decode cX0_askBurnt 37 = .ok (.istore 7, 2) := by decide +kernel
theorem dX0_askBurnt_39 : decode cX0_askBurnt 39 = .ok (.aload_n 0, 1) := by decide +kernel
theorem dX0_askBurnt_40 : decode cX0_askBurnt 40 = .ok (.getfield 27, 3) := by decide +kernel
theorem dX0_askBurnt_43 : decode cX0_askBurnt 43 = .ok (.iconst 0, 1) := by decide +kernel
theorem dX0_askBurnt_44 : decode cX0_askBurnt 44 = .ok (.iload_n 1, 1) := by decide +kernel
theorem dX0_askBurnt_45 : decode cX0_askBurnt 45 = .ok (.invokevirtual 44, 3) := by decide +kernel
theorem dX0_askBurnt_48 : decode cX0_askBurnt 48 = .ok (.aload_n 0, 1) := by decide +kernel
theorem dX0_askBurnt_49 : decode cX0_askBurnt 49 = .ok (.getfield 27, 3) := by decide +kernel
theorem dX0_askBurnt_52 : decode cX0_askBurnt 52 = .ok (.iload_n 2, 1) := by decide +kernel
theorem dX0_askBurnt_53 : decode cX0_askBurnt 53 = .ok (.iconst 1, 1) := by decide +kernel
theorem dX0_askBurnt_54 : decode cX0_askBurnt 54 = .ok (.iadd, 1) := by decide +kernel
theorem dX0_askBurnt_55 : decode cX0_askBurnt 55 = .ok (.iload 5, 2) := by decide +kernel
theorem dX0_askBurnt_57 : decode cX0_askBurnt 57 = .ok (.invokevirtual 44, 3) := by decide +kernel
theorem dX0_askBurnt_60 : decode cX0_askBurnt 60 = .ok (.ior, 1) := by decide +kernel
theorem dX0_askBurnt_61 : decode cX0_askBurnt 61 = .ok (.istore 8, 2) := by decide +kernel
theorem dX0_askBurnt_63 : decode cX0_askBurnt 63 = .ok (.aload_n 0, 1) := by decide +kernel
theorem dX0_askBurnt_64 : decode cX0_askBurnt 64 = .ok (.iload_n 3, 1) := by decide +kernel
theorem dX0_askBurnt_65 : decode cX0_askBurnt 65 = .ok (.iload 8, 2) := by decide +kernel
theorem dX0_askBurnt_67 : decode cX0_askBurnt 67 = .ok (.iconst (-1), 1) := by decide +kernel
theorem dX0_askBurnt_68 : decode cX0_askBurnt 68 = .ok (.ixor, 1) := by decide +kernel
theorem dX0_askBurnt_69 : decode cX0_askBurnt 69 = .ok (.iand, 1) := by decide +kernel
theorem dX0_askBurnt_70 : decode cX0_askBurnt 70 = .ok (.iload_n 2, 1) := by decide +kernel
theorem dX0_askBurnt_71 : decode cX0_askBurnt 71 = .ok (.iload_n 1, 1) := by decide +kernel
theorem dX0_askBurnt_72 : decode cX0_askBurnt 72 = .ok (.isub, 1) := by decide +kernel
theorem dX0_askBurnt_73 : decode cX0_askBurnt 73 = .ok (.iconst 1, 1) := by decide +kernel
theorem dX0_askBurnt_74 : decode cX0_askBurnt 74 = .ok (.iadd, 1) := by decide +kernel
theorem dX0_askBurnt_75 : decode cX0_askBurnt 75 = .ok (.iload 6, 2) := by decide +kernel
theorem dX0_askBurnt_77 : decode cX0_askBurnt 77 = .ok (.ifCond .eq 12, 3) := by decide +kernel
theorem dX0_askBurnt_80 : decode cX0_askBurnt 80 = .ok (.iload 7, 2) := by decide +kernel
theorem dX0_askBurnt_82 : decode cX0_askBurnt 82 = .ok (.ifCond .eq 7, 3) := by decide +kernel
theorem dX0_askBurnt_85 : decode cX0_askBurnt 85 = .ok (.iconst 1, 1) := by decide +kernel
theorem dX0_askBurnt_86 : decode cX0_askBurnt 86 = .ok (.goto 4, 3) := by decide +kernel
theorem dX0_askBurnt_89 : decode cX0_askBurnt 89 = .ok (.iconst 0, 1) := by decide +kernel
theorem dX0_askBurnt_90 : decode cX0_askBurnt 90 = .ok (.invokevirtual 37, 3) := by decide +kernel
theorem dX0_askBurnt_93 : decode cX0_askBurnt 93 = .ok (.aload_n 0, 1) := by decide +kernel
theorem dX0_askBurnt_94 : decode cX0_askBurnt 94 = .ok (.aload_n 0, 1) := by decide +kernel
theorem dX0_askBurnt_95 : decode cX0_askBurnt 95 = .ok (.iload_n 1, 1) := by decide +kernel
theorem dX0_askBurnt_96 : decode cX0_askBurnt 96 = .ok (.iconst 1, 1) := by decide +kernel
theorem dX0_askBurnt_97 : decode cX0_askBurnt 97 = .ok (.isub, 1) := by decide +kernel
theorem dX0_askBurnt_98 : decode cX0_askBurnt 98 = .ok (.iload 6, 2) := by decide +kernel
theorem dX0_askBurnt_100 : decode cX0_askBurnt 100 = .ok (.ifCond .eq 12, 3) := by decide +kernel
theorem dX0_askBurnt_103 : decode cX0_askBurnt 103 = .ok (.iload 7, 2) := by decide +kernel
theorem dX0_askBurnt_105 : decode cX0_askBurnt 105 = .ok (.ifCond .ne 7, 3) := by decide +kernel
theorem dX0_askBurnt_108 : decode cX0_askBurnt 108 = .ok (.iconst 1, 1) := by decide +kernel
theorem dX0_askBurnt_109 : decode cX0_askBurnt 109 = .ok (.goto 4, 3) := by decide +kernel
theorem dX0_askBurnt_112 : decode cX0_askBurnt 112 = .ok (.iconst 0, 1) := by decide +kernel
theorem dX0_askBurnt_113 : decode cX0_askBurnt 113 = .ok (.invokevirtual 48, 3) := by decide +kernel
theorem dX0_askBurnt_116 : decode cX0_askBurnt 116 = .ok (.putfield 9, 3) := by decide +kernel
theorem dX0_askBurnt_119 : decode cX0_askBurnt 119 = .ok (.aload_n 0, 1) := by decide +kernel
theorem dX0_askBurnt_120 : decode cX0_askBurnt 120 = .ok (.aload_n 0, 1) := by decide +kernel
theorem dX0_askBurnt_121 : decode cX0_askBurnt 121 = .ok (.iload_n 2, 1) := by decide +kernel
theorem dX0_askBurnt_122 : decode cX0_askBurnt 122 = .ok (.iconst 1, 1) := by decide +kernel
theorem dX0_askBurnt_123 : decode cX0_askBurnt 123 = .ok (.iadd, 1) := by decide +kernel
theorem dX0_askBurnt_124 : decode cX0_askBurnt 124 = .ok (.iload 6, 2) := by decide +kernel
theorem dX0_askBurnt_126 : decode cX0_askBurnt 126 = .ok (.ifCond .eq 12, 3) := by decide +kernel
theorem dX0_askBurnt_129 : decode cX0_askBurnt 129 = .ok (.iload 7, 2) := by decide +kernel
theorem dX0_askBurnt_131 : decode cX0_askBurnt 131 = .ok (.ifCond .ne 7, 3) := by decide +kernel
theorem dX0_askBurnt_134 : decode cX0_askBurnt 134 = .ok (.iconst 1, 1) := by decide +kernel
theorem dX0_askBurnt_135 : decode cX0_askBurnt 135 = .ok (.goto 4, 3) := by decide +kernel
theorem dX0_askBurnt_138 : decode cX0_askBurnt 138 = .ok (.iconst 0, 1) := by decide +kernel
theorem dX0_askBurnt_139 : decode cX0_askBurnt 139 = .ok (.invokevirtual 48, 3) := by decide +kernel
theorem dX0_askBurnt_142 : decode cX0_askBurnt 142 = .ok (.putfield 15, 3) := by decide +kernel
theorem dX0_askBurnt_145 : decode cX0_askBurnt 145 = .ok (.aload_n 0, 1) := by decide +kernel
theorem dX0_askBurnt_146 : decode cX0_askBurnt 146 = .ok (.iload 4, 2) := by decide +kernel
theorem dX0_askBurnt_148 : decode cX0_askBurnt 148 = .ok (.putfield 18, 3) := by decide +kernel
theorem dX0_askBurnt_151 : decode cX0_askBurnt 151 = .ok (.return_, 1) := by decide +kernel
set_option maxHeartbeats 4000000 in
set_option maxRecDepth 100000 in
theorem cX0_askBurnt_k_26 {l : Launch} {D : va_G} {a : Nat → Nat} {k : Nat → ClassId} {n : Nat} {p1 : Int32} {p2 : Int32} {p3 : Int32} {p4 : Int32} {x0 xz : bq_S} (h : fX0_askBurnt n p1 p2 p3 p4 x0 = some xz) : bq_M l D bq_cl (bq_ty k) (bq_wC a k) yX0_askBurnt cX0_askBurnt 9 none { frames := 2, cells := 0, slots := 0, locals := 45 } [.ref (a 26), .int p1, .int p2, .int p3, .int p4] x0 none xz := by
  refine bq_ofWv RX0 [(0, .ref (a 26)), (1, .int p1), (2, .int p2), (3, .int p3), (4, .int p4)] (by decide +kernel) rfl (Nat.le_of_ble_eq_true rfl) rfl (bq_adC a k) ?_
  intro p e s m below meth c A Q ls S hK hD hA hR hS hP hl
  have hx := S.1; have hb := S.2.1; have hml := S.2.2.1; have hown := S.2.2.2.1; have hts := S.2.2.2.2
  have hret : ∀ z, some z = some xz → xz = z := fun z h => (Option.some.inj h).symm
  unfold fX0_askBurnt at h
  have hj139 : ∀ (v46 : Int32) (v47 : Int32) (v48 : Int32) (x49 : bq_S) (H : Heap) (locs : List Loc) (ls : Array Slot), fX0_askBurnt_j139 n v46 v47 v48 x49 = some xz → va_P D bq_cl (bq_wC a k x49) H → va_S A s.heap H locs → lv_has ls 9 [(0, .ref (a 26)), (4, .int v46)] → W p l e { frames := 2, cells := 0, slots := 0, locals := 45 } s m [.ref (a 26), .int p1, .int p2, .int p3, .int p4].toArray below meth c H locs 0 0 Q (F0 m 139 ls [.int v48, .int v47, .ref (a 26), .ref (a 26)]) := by
    intro v46 v47 v48 x49 H locs ls h hP hS hl
    unfold fX0_askBurnt_j139 at h
    obtain ⟨o50, ho50, h⟩ := Option.bind_eq_some_iff.mp h
    obtain ⟨v52, x51⟩ := o50
    replace h := un2_e h
    refine bq_callVi (q0 := 26) (As := [.int _, .int _]) S hK hD hA hP hS (cX0_besides_k_26 ho50) hd_yX0_besides ml_X0_48 in_yX0_besides (hts _ sl_X0_X0_yX0_besides) ⟨rfl, rfl⟩ ⟨by decide, by decide⟩ rfl rfl rfl hl.1 rfl (Nat.le_of_ble_eq_true rfl) ⟨Nat.zero_le _, Nat.zero_le _⟩ dX0_askBurnt_139 (fun H locs hP hS => ?_)
    obtain ⟨x53, hx53, h⟩ := bq_b h
    refine bq_put (x1 := x53) (q0 := 26) (ty := .int) S hK hD hP hS fl_X0_15_X0_7 bt_X0 rfl (by decide +kernel) rfl rfl (Nat.le_of_ble_eq_true rfl) rfl rfl (by rw [hx53]; rfl) dX0_askBurnt_142 (fun H locs hP hS => ?_)
    refine lv_aload_n hx hb dX0_askBurnt_145 rfl (lv_at hl 0 rfl) ?_
    refine lv_iload hx hb dX0_askBurnt_146 (lv_at hl 1 rfl) ?_
    obtain ⟨x54, hx54, h⟩ := bq_b h
    refine bq_put (x1 := x54) (q0 := 26) (ty := .int) S hK hD hP hS fl_X0_18_X0_8 bt_X0 rfl (by decide +kernel) rfl rfl (Nat.le_of_ble_eq_true rfl) rfl rfl (by rw [hx54]; rfl) dX0_askBurnt_148 (fun H locs hP hS => ?_)
    have e2 := hret _ h
    exact hR _ _ _ _ rfl (by rw [e2]; exact hP) hS dX0_askBurnt_151
  have hj113 : ∀ (v34 : Int32) (v35 : Int32) (v36 : Int32) (v37 : Int32) (v38 : Int32) (v39 : Int32) (x40 : bq_S) (H : Heap) (locs : List Loc) (ls : Array Slot), fX0_askBurnt_j113 n v34 v35 v36 v37 v38 v39 x40 = some xz → va_P D bq_cl (bq_wC a k x40) H → va_S A s.heap H locs → lv_has ls 9 [(0, .ref (a 26)), (2, .int v34), (4, .int v35), (6, .int v36), (7, .int v37)] → W p l e { frames := 2, cells := 0, slots := 0, locals := 45 } s m [.ref (a 26), .int p1, .int p2, .int p3, .int p4].toArray below meth c H locs 0 0 Q (F0 m 113 ls [.int v39, .int v38, .ref (a 26), .ref (a 26)]) := by
    intro v34 v35 v36 v37 v38 v39 x40 H locs ls h hP hS hl
    unfold fX0_askBurnt_j113 at h
    obtain ⟨o41, ho41, h⟩ := Option.bind_eq_some_iff.mp h
    obtain ⟨v43, x42⟩ := o41
    replace h := un2_e h
    refine bq_callVi (q0 := 26) (As := [.int _, .int _]) S hK hD hA hP hS (cX0_besides_k_26 ho41) hd_yX0_besides ml_X0_48 in_yX0_besides (hts _ sl_X0_X0_yX0_besides) ⟨rfl, rfl⟩ ⟨by decide, by decide⟩ rfl rfl rfl hl.1 rfl (Nat.le_of_ble_eq_true rfl) ⟨Nat.zero_le _, Nat.zero_le _⟩ dX0_askBurnt_113 (fun H locs hP hS => ?_)
    obtain ⟨x44, hx44, h⟩ := bq_b h
    refine bq_put (x1 := x44) (q0 := 26) (ty := .int) S hK hD hP hS fl_X0_9_X0_6 bt_X0 rfl (by decide +kernel) rfl rfl (Nat.le_of_ble_eq_true rfl) rfl rfl (by rw [hx44]; rfl) dX0_askBurnt_116 (fun H locs hP hS => ?_)
    refine lv_aload_n hx hb dX0_askBurnt_119 rfl (lv_at hl 0 rfl) ?_
    refine lv_aload_n hx hb dX0_askBurnt_120 rfl (lv_at hl 0 rfl) ?_
    refine lv_iload_n hx hb dX0_askBurnt_121 rfl (lv_at hl 1 rfl) ?_
    refine lv_iconst (v := (1 : Int32)) hx hb dX0_askBurnt_122 (by decide) ?_
    refine lv_iadd hx hb dX0_askBurnt_123 ?_
    refine lv_iload hx hb dX0_askBurnt_124 (lv_at hl 3 rfl) ?_
    refine lv_if_eq (tgt := 138) hx hb dX0_askBurnt_126 (by decide) (fun c45 => ?_) (fun c45 => ?_)
    · replace h := (if_pos c45).symm.trans h
      refine lv_iconst (v := (0 : Int32)) hx hb dX0_askBurnt_138 (by decide) ?_
      exact hj139 _ _ _ _ _ _ _ h hP hS (lv_sub hl [0, 2] rfl)
    · replace h := (if_neg c45).symm.trans h
      refine lv_iload hx hb dX0_askBurnt_129 (lv_at hl 4 rfl) ?_
      refine lv_if_ne (tgt := 138) hx hb dX0_askBurnt_131 (by decide) (fun c55 => ?_) (fun c55 => ?_)
      · replace h := (if_neg c55).symm.trans h
        refine lv_iconst (v := (0 : Int32)) hx hb dX0_askBurnt_138 (by decide) ?_
        exact hj139 _ _ _ _ _ _ _ h hP hS (lv_sub hl [0, 2] rfl)
      · replace h := (if_pos c55).symm.trans h
        refine lv_iconst (v := (1 : Int32)) hx hb dX0_askBurnt_134 (by decide) ?_
        refine lv_goto (tgt := 139) hx hb dX0_askBurnt_135 (by decide) ?_
        exact hj139 _ _ _ _ _ _ _ h hP hS (lv_sub hl [0, 2] rfl)
  have hj90 : ∀ (v22 : Int32) (v23 : Int32) (v24 : Int32) (v25 : Int32) (v26 : Int32) (v27 : Int32) (v28 : Int32) (v29 : Int32) (x30 : bq_S) (H : Heap) (locs : List Loc) (ls : Array Slot), fX0_askBurnt_j90 n v22 v23 v24 v25 v26 v27 v28 v29 x30 = some xz → va_P D bq_cl (bq_wC a k x30) H → va_S A s.heap H locs → lv_has ls 9 [(0, .ref (a 26)), (1, .int v22), (2, .int v23), (4, .int v24), (6, .int v25), (7, .int v26)] → W p l e { frames := 2, cells := 0, slots := 0, locals := 45 } s m [.ref (a 26), .int p1, .int p2, .int p3, .int p4].toArray below meth c H locs 0 0 Q (F0 m 90 ls [.int v29, .int v28, .int v27, .ref (a 26)]) := by
    intro v22 v23 v24 v25 v26 v27 v28 v29 x30 H locs ls h hP hS hl
    unfold fX0_askBurnt_j90 at h
    obtain ⟨x32, ho31, h⟩ := Option.bind_eq_some_iff.mp h
    refine bq_callUv (q0 := 26) (owner := "BesideQuotes$Ways") (As := [.int _, .int _, .int _]) S hK hD hA hP hS (cX8X0_ask_k_26 ho31) hd_yX8_ask ml_X0_37 in_yX8_ask (hts _ sl_X0_X0_yX8_ask) sm_X0_ask dc_X8_ask (by decide +kernel) ⟨rfl, rfl⟩ ⟨by decide, by decide⟩ rfl rfl rfl hl.1 rfl (Nat.le_of_ble_eq_true rfl) ⟨Nat.zero_le _, Nat.zero_le _⟩ dX0_askBurnt_90 (fun H locs hP hS => ?_)
    refine lv_aload_n hx hb dX0_askBurnt_93 rfl (lv_at hl 0 rfl) ?_
    refine lv_aload_n hx hb dX0_askBurnt_94 rfl (lv_at hl 0 rfl) ?_
    refine lv_iload_n hx hb dX0_askBurnt_95 rfl (lv_at hl 1 rfl) ?_
    refine lv_iconst (v := (1 : Int32)) hx hb dX0_askBurnt_96 (by decide) ?_
    refine lv_isub hx hb dX0_askBurnt_97 ?_
    refine lv_iload hx hb dX0_askBurnt_98 (lv_at hl 4 rfl) ?_
    refine lv_if_eq (tgt := 112) hx hb dX0_askBurnt_100 (by decide) (fun c33 => ?_) (fun c33 => ?_)
    · replace h := (if_pos c33).symm.trans h
      refine lv_iconst (v := (0 : Int32)) hx hb dX0_askBurnt_112 (by decide) ?_
      exact hj113 _ _ _ _ _ _ _ _ _ _ h hP hS (lv_sub hl [0, 2, 3, 4, 5] rfl)
    · replace h := (if_neg c33).symm.trans h
      refine lv_iload hx hb dX0_askBurnt_103 (lv_at hl 5 rfl) ?_
      refine lv_if_ne (tgt := 112) hx hb dX0_askBurnt_105 (by decide) (fun c56 => ?_) (fun c56 => ?_)
      · replace h := (if_neg c56).symm.trans h
        refine lv_iconst (v := (0 : Int32)) hx hb dX0_askBurnt_112 (by decide) ?_
        exact hj113 _ _ _ _ _ _ _ _ _ _ h hP hS (lv_sub hl [0, 2, 3, 4, 5] rfl)
      · replace h := (if_pos c56).symm.trans h
        refine lv_iconst (v := (1 : Int32)) hx hb dX0_askBurnt_108 (by decide) ?_
        refine lv_goto (tgt := 113) hx hb dX0_askBurnt_109 (by decide) ?_
        exact hj113 _ _ _ _ _ _ _ _ _ _ h hP hS (lv_sub hl [0, 2, 3, 4, 5] rfl)
  have hj37 : ∀ (v6 : Int32) (v7 : Int32) (v8 : Int32) (v9 : Int32) (v10 : Int32) (v11 : Int32) (v12 : Int32) (x13 : bq_S) (H : Heap) (locs : List Loc) (ls : Array Slot), fX0_askBurnt_j37 n v6 v7 v8 v9 v10 v11 v12 x13 = some xz → va_P D bq_cl (bq_wC a k x13) H → va_S A s.heap H locs → lv_has ls 9 [(0, .ref (a 26)), (1, .int v6), (2, .int v7), (3, .int v8), (4, .int v9), (5, .int v10), (6, .int v11)] → W p l e { frames := 2, cells := 0, slots := 0, locals := 45 } s m [.ref (a 26), .int p1, .int p2, .int p3, .int p4].toArray below meth c H locs 0 0 Q (F0 m 37 ls [.int v12]) := by
    intro v6 v7 v8 v9 v10 v11 v12 x13 H locs ls h hP hS hl
    unfold fX0_askBurnt_j37 at h
    refine lv_istore (lv' := [(7, .int v12), (0, .ref (a 26)), (1, .int v6), (2, .int v7), (3, .int v8), (4, .int v9), (5, .int v10), (6, .int v11)]) hx hb dX0_askBurnt_37 hl (by decide) rfl (fun ls hl => ?_)
    refine lv_aload_n hx hb dX0_askBurnt_39 rfl (lv_at hl 1 rfl) ?_
    refine bq_get (q0 := 26) S hK hP fl_X0_27_X0_0 rfl rfl rfl dX0_askBurnt_40 ?_
    refine lv_iconst (v := (0 : Int32)) hx hb dX0_askBurnt_43 (by decide) ?_
    refine lv_iload_n hx hb dX0_askBurnt_44 rfl (lv_at hl 2 rfl) ?_
    obtain ⟨o14, ho14, h⟩ := Option.bind_eq_some_iff.mp h
    obtain ⟨v16, x15⟩ := o14
    replace h := un2_e h
    refine bq_callVi (q0 := 1) (As := [.int _, .int _]) S hK hD hA hP hS (cX4_setAt_k_1 ho14) hd_yX4_setAt ml_X0_44 in_yX4_setAt (hts _ sl_X4_X4_yX4_setAt) ⟨rfl, rfl⟩ ⟨by decide, by decide⟩ rfl rfl rfl hl.1 rfl (Nat.le_of_ble_eq_true rfl) ⟨Nat.zero_le _, Nat.zero_le _⟩ dX0_askBurnt_45 (fun H locs hP hS => ?_)
    refine lv_aload_n hx hb dX0_askBurnt_48 rfl (lv_at hl 1 rfl) ?_
    refine bq_get (q0 := 26) S hK hP fl_X0_27_X0_0 rfl rfl rfl dX0_askBurnt_49 ?_
    refine lv_iload_n hx hb dX0_askBurnt_52 rfl (lv_at hl 3 rfl) ?_
    refine lv_iconst (v := (1 : Int32)) hx hb dX0_askBurnt_53 (by decide) ?_
    refine lv_iadd hx hb dX0_askBurnt_54 ?_
    refine lv_iload hx hb dX0_askBurnt_55 (lv_at hl 6 rfl) ?_
    obtain ⟨o17, ho17, h⟩ := Option.bind_eq_some_iff.mp h
    obtain ⟨v19, x18⟩ := o17
    replace h := un2_e h
    refine bq_callVi (q0 := 1) (As := [.int _, .int _]) S hK hD hA hP hS (cX4_setAt_k_1 ho17) hd_yX4_setAt ml_X0_44 in_yX4_setAt (hts _ sl_X4_X4_yX4_setAt) ⟨rfl, rfl⟩ ⟨by decide, by decide⟩ rfl rfl rfl hl.1 rfl (Nat.le_of_ble_eq_true rfl) ⟨Nat.zero_le _, Nat.zero_le _⟩ dX0_askBurnt_57 (fun H locs hP hS => ?_)
    refine lv_ior hx hb dX0_askBurnt_60 ?_
    refine lv_topi (fun v20 hv20 => ?_)
    replace h := bq_bv h hv20
    refine lv_istore (lv' := [(8, .int v20), (7, .int v12), (0, .ref (a 26)), (1, .int v6), (2, .int v7), (3, .int v8), (4, .int v9), (5, .int v10), (6, .int v11)]) hx hb dX0_askBurnt_61 hl (by decide) rfl (fun ls hl => ?_)
    refine lv_aload_n hx hb dX0_askBurnt_63 rfl (lv_at hl 2 rfl) ?_
    refine lv_iload_n hx hb dX0_askBurnt_64 rfl (lv_at hl 5 rfl) ?_
    refine lv_iload hx hb dX0_askBurnt_65 (lv_at hl 0 rfl) ?_
    refine lv_iconst (v := (-1 : Int32)) hx hb dX0_askBurnt_67 (by decide) ?_
    refine lv_ixor hx hb dX0_askBurnt_68 ?_
    refine lv_iand hx hb dX0_askBurnt_69 ?_
    refine lv_iload_n hx hb dX0_askBurnt_70 rfl (lv_at hl 4 rfl) ?_
    refine lv_iload_n hx hb dX0_askBurnt_71 rfl (lv_at hl 3 rfl) ?_
    refine lv_isub hx hb dX0_askBurnt_72 ?_
    refine lv_iconst (v := (1 : Int32)) hx hb dX0_askBurnt_73 (by decide) ?_
    refine lv_iadd hx hb dX0_askBurnt_74 ?_
    refine lv_iload hx hb dX0_askBurnt_75 (lv_at hl 8 rfl) ?_
    refine lv_if_eq (tgt := 89) hx hb dX0_askBurnt_77 (by decide) (fun c21 => ?_) (fun c21 => ?_)
    · replace h := (if_pos c21).symm.trans h
      refine lv_iconst (v := (0 : Int32)) hx hb dX0_askBurnt_89 (by decide) ?_
      exact hj90 _ _ _ _ _ _ _ _ _ _ _ _ h hP hS (lv_sub hl [2, 3, 4, 6, 8, 1] rfl)
    · replace h := (if_neg c21).symm.trans h
      refine lv_iload hx hb dX0_askBurnt_80 (lv_at hl 1 rfl) ?_
      refine lv_if_eq (tgt := 89) hx hb dX0_askBurnt_82 (by decide) (fun c57 => ?_) (fun c57 => ?_)
      · replace h := (if_pos c57).symm.trans h
        refine lv_iconst (v := (0 : Int32)) hx hb dX0_askBurnt_89 (by decide) ?_
        exact hj90 _ _ _ _ _ _ _ _ _ _ _ _ h hP hS (lv_sub hl [2, 3, 4, 6, 8, 1] rfl)
      · replace h := (if_neg c57).symm.trans h
        refine lv_iconst (v := (1 : Int32)) hx hb dX0_askBurnt_85 (by decide) ?_
        refine lv_goto (tgt := 90) hx hb dX0_askBurnt_86 (by decide) ?_
        exact hj90 _ _ _ _ _ _ _ _ _ _ _ _ h hP hS (lv_sub hl [2, 3, 4, 6, 8, 1] rfl)
  refine lv_aload_n hx hb dX0_askBurnt_0 rfl (lv_at hl 0 rfl) ?_
  refine bq_get (q0 := 26) S hK hP fl_X0_27_X0_0 rfl rfl rfl dX0_askBurnt_1 ?_
  refine bq_get (q0 := 1) S hK hP fl_X0_41_X4_2 rfl rfl rfl dX0_askBurnt_4 ?_
  refine lv_topi (fun v1 hv1 => ?_)
  replace h := bq_bv h hv1
  refine lv_istore (lv' := [(5, .int v1), (0, .ref (a 26)), (1, .int p1), (2, .int p2), (3, .int p3), (4, .int p4)]) hx hb dX0_askBurnt_7 hl (by decide) rfl (fun ls hl => ?_)
  refine lv_aload_n hx hb dX0_askBurnt_9 rfl (lv_at hl 1 rfl) ?_
  refine bq_get (q0 := 26) S hK hP fl_X0_27_X0_0 rfl rfl rfl dX0_askBurnt_10 ?_
  refine lv_iload hx hb dX0_askBurnt_13 (lv_at hl 0 rfl) ?_
  obtain ⟨o2, ho2, h⟩ := Option.bind_eq_some_iff.mp h
  obtain ⟨v4, x3⟩ := o2
  replace h := un2_e h
  refine bq_callVi (q0 := 1) (As := [.int _]) S hK hD hA hP hS (cX4_closes_k_1 ho2) hd_yX4_closes ml_X0_31 in_yX4_closes (hts _ sl_X4_X4_yX4_closes) ⟨rfl, rfl⟩ ⟨by decide, by decide⟩ rfl rfl rfl hl.1 rfl (Nat.le_of_ble_eq_true rfl) ⟨Nat.zero_le _, Nat.zero_le _⟩ dX0_askBurnt_15 (fun H locs hP hS => ?_)
  refine lv_istore (lv' := [(6, .int v4), (5, .int v1), (0, .ref (a 26)), (1, .int p1), (2, .int p2), (3, .int p3), (4, .int p4)]) hx hb dX0_askBurnt_18 hl (by decide) rfl (fun ls hl => ?_)
  refine lv_iload_n hx hb dX0_askBurnt_20 rfl (lv_at hl 3 rfl) ?_
  refine lv_if_ne (tgt := 36) hx hb dX0_askBurnt_21 (by decide) (fun c5 => ?_) (fun c5 => ?_)
  · replace h := (if_neg c5).symm.trans h
    refine lv_iconst (v := (0 : Int32)) hx hb dX0_askBurnt_36 (by decide) ?_
    exact hj37 _ _ _ _ _ _ _ _ _ _ _ h hP hS (lv_sub hl [2, 3, 4, 5, 6, 1, 0] rfl)
  · replace h := (if_pos c5).symm.trans h
    refine lv_iload_n hx hb dX0_askBurnt_24 rfl (lv_at hl 4 rfl) ?_
    refine lv_iload hx hb dX0_askBurnt_25 (lv_at hl 1 rfl) ?_
    refine lv_iconst (v := (1 : Int32)) hx hb dX0_askBurnt_27 (by decide) ?_
    refine lv_isub hx hb dX0_askBurnt_28 ?_
    refine lv_icmp_ne (tgt := 36) hx hb dX0_askBurnt_29 (by decide) (fun c58 => ?_) (fun c58 => ?_)
    · replace h := (if_neg c58).symm.trans h
      refine lv_iconst (v := (0 : Int32)) hx hb dX0_askBurnt_36 (by decide) ?_
      exact hj37 _ _ _ _ _ _ _ _ _ _ _ h hP hS (lv_sub hl [2, 3, 4, 5, 6, 1, 0] rfl)
    · replace h := (if_pos c58).symm.trans h
      refine lv_iconst (v := (1 : Int32)) hx hb dX0_askBurnt_32 (by decide) ?_
      refine lv_goto (tgt := 37) hx hb dX0_askBurnt_33 (by decide) ?_
      exact hj37 _ _ _ _ _ _ _ _ _ _ _ h hP hS (lv_sub hl [2, 3, 4, 5, 6, 1, 0] rfl)
def fX9_burnt_j75 (n : Nat) (v17 : Int32) (v18 : Int32) (v19 : Int32) (v20 : Int32) (v21 : Int32) (x22 : bq_S) : Option (Int32 × bq_S) :=
  (fX0_askBurnt n v17 v18 v19 v20 x22).bind (fun x24 =>
  if v21 = (-1 : Int32) then
  (fX0_total n  x24).bind (fun o31 => un2 o31 (fun v33 x32 =>
  if v33 = 0 then
  some ((-4 : Int32), x32)
  else
  some (v33, x32)))
  else
  (fX0_find n (0 : Int32) 42 8 x24).bind (fun o26 => un2 o26 (fun v28 x27 =>
  if v28 = 0 then
  some ((-4 : Int32), x27)
  else
  if ok_i (v21 - v17) 8 then
  some ((x27.1 42 (v21 - v17).toNatClampNeg), x27)
  else none)))
def fX9_burnt (n : Nat) (p1 : Int32) (p2 : Int32) (p3 : Int32) (p4 : Int32) (p5 : Int32) (x0 : bq_S) : Option (Int32 × bq_S) :=
  (fX4_isPlace 1 p1.toInt64 x0).bind (fun o1 => un2 o1 (fun v3 x2 =>
  if v3 = 0 then
  some ((-1 : Int32), x2)
  else
  (fX4_isPlace 1 p2.toInt64 x2).bind (fun o5 => un2 o5 (fun v7 x6 =>
  if v7 = 0 then
  some ((-1 : Int32), x6)
  else
  if p2 < p1 then
  some ((-1 : Int32), x6)
  else
  (fX4_isSet 1 p3 x6).bind (fun o10 => un2 o10 (fun v12 x11 =>
  if v12 = 0 then
  some ((-1 : Int32), x11)
  else
  if p4 < (1 : Int32) then
  some ((-1 : Int32), x11)
  else
  if (99 : Int32) < p4 then
  some ((-1 : Int32), x11)
  else
  if p5 = (-1 : Int32) then
  fX9_burnt_j75 n p1 p2 p3 p4 p5 x11
  else
  if p5 < p1 then
  some ((-1 : Int32), x11)
  else
  if p5 ≤ p2 then
  fX9_burnt_j75 n p1 p2 p3 p4 p5 x11
  else
  some ((-1 : Int32), x11)))))))
theorem dX9_burnt_0 : decode cX9_burnt 0 = .ok (.aload_n 0, 1) := by decide +kernel
theorem dX9_burnt_1 : decode cX9_burnt 1 = .ok (.getfield 10, 3) := by decide +kernel
theorem dX9_burnt_4 : decode cX9_burnt 4 = .ok (.iload_n 1, 1) := by decide +kernel
theorem dX9_burnt_5 : decode cX9_burnt 5 = .ok (.i2l, 1) := by decide +kernel
theorem dX9_burnt_6 : decode cX9_burnt 6 = .ok (.invokevirtual 153, 3) := by decide +kernel
theorem dX9_burnt_9 : decode cX9_burnt 9 = .ok (.ifCond .eq 31, 3) := by decide +kernel
theorem dX9_burnt_12 : decode cX9_burnt 12 = .ok (.aload_n 0, 1) := by decide +kernel
theorem dX9_burnt_13 : decode cX9_burnt 13 = .ok (.getfield 10, 3) := by decide +kernel
theorem dX9_burnt_16 : decode cX9_burnt 16 = .ok (.iload_n 2, 1) := by decide +kernel
theorem dX9_burnt_17 : decode cX9_burnt 17 = .ok (.i2l, 1) := by decide +kernel
theorem dX9_burnt_18 : decode cX9_burnt 18 = .ok (.invokevirtual 153, 3) := by decide +kernel
theorem dX9_burnt_21 : decode cX9_burnt 21 = .ok (.ifCond .eq 19, 3) := by decide +kernel
theorem dX9_burnt_24 : decode cX9_burnt 24 = .ok (.iload_n 1, 1) := by decide +kernel
theorem dX9_burnt_25 : decode cX9_burnt 25 = .ok (.iload_n 2, 1) := by decide +kernel
theorem dX9_burnt_26 : decode cX9_burnt 26 = .ok (.if_icmp .gt 14, 3) := by decide +kernel
theorem dX9_burnt_29 : decode cX9_burnt 29 = .ok (.aload_n 0, 1) := by decide +kernel
theorem dX9_burnt_30 : decode cX9_burnt 30 = .ok (.getfield 10, 3) := by decide +kernel
theorem dX9_burnt_33 : decode cX9_burnt 33 = .ok (.iload_n 3, 1) := by decide +kernel
theorem dX9_burnt_34 : decode cX9_burnt 34 = .ok (.invokevirtual 186, 3) := by decide +kernel
theorem dX9_burnt_37 : decode cX9_burnt 37 = .ok (.ifCond .ne 5, 3) := by decide +kernel
theorem dX9_burnt_40 : decode cX9_burnt 40 = .ok (.iconst (-1), 1) := by decide +kernel
theorem dX9_burnt_41 : decode cX9_burnt 41 = .ok (.ireturn, 1) := by decide +kernel
theorem dX9_burnt_42 : decode cX9_burnt 42 = .ok (.iload 4, 2) := by decide +kernel
theorem dX9_burnt_44 : decode cX9_burnt 44 = .ok (.iconst 1, 1) := by decide +kernel
theorem dX9_burnt_45 : decode cX9_burnt 45 = .ok (.if_icmp .lt 28, 3) := by decide +kernel
theorem dX9_burnt_48 : decode cX9_burnt 48 = .ok (.iload 4, 2) := by decide +kernel
theorem dX9_burnt_50 : decode cX9_burnt 50 = .ok (.bipush 99, 2) := by decide +kernel
theorem dX9_burnt_52 : decode cX9_burnt 52 = .ok (.if_icmp .gt 21, 3) := by decide +kernel
theorem dX9_burnt_55 : decode cX9_burnt 55 = .ok (.iload 5, 2) := by decide +kernel
theorem dX9_burnt_57 : decode cX9_burnt 57 = .ok (.iconst (-1), 1) := by decide +kernel
theorem dX9_burnt_58 : decode cX9_burnt 58 = .ok (.if_icmp .eq 17, 3) := by decide +kernel
theorem dX9_burnt_61 : decode cX9_burnt 61 = .ok (.iload 5, 2) := by decide +kernel
theorem dX9_burnt_63 : decode cX9_burnt 63 = .ok (.iload_n 1, 1) := by decide +kernel
theorem dX9_burnt_64 : decode cX9_burnt 64 = .ok (.if_icmp .lt 9, 3) := by decide +kernel
theorem dX9_burnt_67 : decode cX9_burnt 67 = .ok (.iload 5, 2) := by decide +kernel
theorem dX9_burnt_69 : decode cX9_burnt 69 = .ok (.iload_n 2, 1) := by decide +kernel
theorem dX9_burnt_70 : decode cX9_burnt 70 = .ok (.if_icmp .le 5, 3) := by decide +kernel
theorem dX9_burnt_73 : decode cX9_burnt 73 = .ok (.iconst (-1), 1) := by decide +kernel
theorem dX9_burnt_74 : decode cX9_burnt 74 = .ok (.ireturn, 1) := by decide +kernel
theorem dX9_burnt_75 : decode cX9_burnt 75 = .ok (.aload_n 0, 1) := by decide +kernel
theorem dX9_burnt_76 : decode cX9_burnt 76 = .ok (.getfield 34, 3) := by decide +kernel
theorem dX9_burnt_79 : decode cX9_burnt 79 = .ok (.iload_n 1, 1) := by decide +kernel
theorem dX9_burnt_80 : decode cX9_burnt 80 = .ok (.iload_n 2, 1) := by decide +kernel
theorem dX9_burnt_81 : decode cX9_burnt 81 = .ok (.iload_n 3, 1) := by decide +kernel
theorem dX9_burnt_82 : decode cX9_burnt 82 = .ok (.iload 4, 2) := by decide +kernel
theorem dX9_burnt_84 : decode cX9_burnt 84 = .ok (.invokevirtual 226, 3) := by decide +kernel
theorem dX9_burnt_87 : decode cX9_burnt 87 = .ok (.iload 5, 2) := by decide +kernel
theorem dX9_burnt_89 : decode cX9_burnt 89 = .ok (.iconst (-1), 1) := by decide +kernel
theorem dX9_burnt_90 : decode cX9_burnt 90 = .ok (.if_icmp .ne 25, 3) := by decide +kernel
theorem dX9_burnt_93 : decode cX9_burnt 93 = .ok (.aload_n 0, 1) := by decide +kernel
theorem dX9_burnt_94 : decode cX9_burnt 94 = .ok (.getfield 34, 3) := by decide +kernel
theorem dX9_burnt_97 : decode cX9_burnt 97 = .ok (.invokevirtual 193, 3) := by decide +kernel
theorem dX9_burnt_100 : decode cX9_burnt 100 = .ok (.istore 6, 2) := by decide +kernel
theorem dX9_burnt_102 : decode cX9_burnt 102 = .ok (.iload 6, 2) := by decide +kernel
theorem dX9_burnt_104 : decode cX9_burnt 104 = .ok (.ifCond .ne 8, 3) := by decide +kernel
theorem dX9_burnt_107 : decode cX9_burnt 107 = .ok (.bipush (-4), 2) := by decide +kernel
theorem dX9_burnt_109 : decode cX9_burnt 109 = .ok (.goto 5, 3) := by decide +kernel
theorem dX9_burnt_112 : decode cX9_burnt 112 = .ok (.iload 6, 2) := by decide +kernel
theorem dX9_burnt_114 : decode cX9_burnt 114 = .ok (.ireturn, 1) := by decide +kernel
theorem dX9_burnt_115 : decode cX9_burnt 115 = .ok (.aload_n 0, 1) := by decide +kernel
theorem dX9_burnt_116 : decode cX9_burnt 116 = .ok (.getfield 34, 3) := by decide +kernel
theorem dX9_burnt_119 : decode cX9_burnt 119 = .ok (.iconst 0, 1) := by decide +kernel
theorem dX9_burnt_120 : decode cX9_burnt 120 = .ok (.aload_n 0, 1) := by decide +kernel
theorem dX9_burnt_121 : decode cX9_burnt 121 = .ok (.getfield 75, 3) := by decide +kernel
theorem dX9_burnt_124 : decode cX9_burnt 124 = .ok (.invokevirtual 201, 3) := by decide +kernel
theorem dX9_burnt_127 : decode cX9_burnt 127 = .ok (.ifCond .eq 15, 3) := by decide +kernel
theorem dX9_burnt_130 : decode cX9_burnt 130 = .ok (.aload_n 0, 1) := by decide +kernel
theorem dX9_burnt_131 : decode cX9_burnt 131 = .ok (.getfield 75, 3) := by decide +kernel
theorem dX9_burnt_134 : decode cX9_burnt 134 = .ok (.iload 5, 2) := by decide +kernel
theorem dX9_burnt_136 : decode cX9_burnt 136 = .ok (.iload_n 1, 1) := by decide +kernel
theorem dX9_burnt_137 : decode cX9_burnt 137 = .ok (.isub, 1) := by decide +kernel
theorem dX9_burnt_138 : decode cX9_burnt 138 = .ok (.iaload, 1) := by decide +kernel
theorem dX9_burnt_139 : decode cX9_burnt 139 = .ok (.goto 5, 3) := by decide +kernel
theorem dX9_burnt_142 : decode cX9_burnt 142 = .ok (.bipush (-4), 2) := by decide +kernel
theorem dX9_burnt_144 : decode cX9_burnt 144 = .ok (.ireturn, 1) := by decide +kernel
set_option maxHeartbeats 4000000 in
set_option maxRecDepth 100000 in
theorem cX9_burnt_k_0 {l : Launch} {D : va_G} {a : Nat → Nat} {k : Nat → ClassId} {n : Nat} {p1 : Int32} {p2 : Int32} {p3 : Int32} {p4 : Int32} {p5 : Int32} {x0 xz : bq_S} {rz : Int32} (h : fX9_burnt n p1 p2 p3 p4 p5 x0 = some (rz, xz)) : bq_M l D bq_cl (bq_ty k) (bq_wC a k) yX9_burnt cX9_burnt 7 (some .int) { frames := 5, cells := 0, slots := 0, locals := 121 } [.ref (a 0), .int p1, .int p2, .int p3, .int p4, .int p5] x0 (some rz) xz := by
  refine bq_ofW RX9 [(0, .ref (a 0)), (1, .int p1), (2, .int p2), (3, .int p3), (4, .int p4), (5, .int p5)] (by decide +kernel) rfl (Nat.le_of_ble_eq_true rfl) rfl (bq_adC a k) ?_
  intro p e s m below meth c A Q ls S hK hD hA hR hS hP hl
  have hx := S.1; have hb := S.2.1; have hml := S.2.2.1; have hown := S.2.2.2.1; have hts := S.2.2.2.2
  have hret : ∀ z, some z = some (rz, xz) → (rz, xz) = z := fun z h => (Option.some.inj h).symm
  unfold fX9_burnt at h
  have hj75 : ∀ (v17 : Int32) (v18 : Int32) (v19 : Int32) (v20 : Int32) (v21 : Int32) (x22 : bq_S) (H : Heap) (locs : List Loc) (ls : Array Slot), fX9_burnt_j75 n v17 v18 v19 v20 v21 x22 = some (rz, xz) → va_P D bq_cl (bq_wC a k x22) H → va_S A s.heap H locs → lv_has ls 7 [(0, .ref (a 0)), (1, .int v17), (2, .int v18), (3, .int v19), (4, .int v20), (5, .int v21)] → W p l e { frames := 5, cells := 0, slots := 0, locals := 121 } s m [.ref (a 0), .int p1, .int p2, .int p3, .int p4, .int p5].toArray below meth c H locs 0 0 Q (F0 m 75 ls []) := by
    intro v17 v18 v19 v20 v21 x22 H locs ls h hP hS hl
    unfold fX9_burnt_j75 at h
    refine lv_aload_n hx hb dX9_burnt_75 rfl (lv_at hl 0 rfl) ?_
    refine bq_get (q0 := 0) S hK hP fl_X9_34_X9_4 rfl rfl rfl dX9_burnt_76 ?_
    refine lv_iload_n hx hb dX9_burnt_79 rfl (lv_at hl 1 rfl) ?_
    refine lv_iload_n hx hb dX9_burnt_80 rfl (lv_at hl 2 rfl) ?_
    refine lv_iload_n hx hb dX9_burnt_81 rfl (lv_at hl 3 rfl) ?_
    refine lv_iload hx hb dX9_burnt_82 (lv_at hl 4 rfl) ?_
    obtain ⟨x24, ho23, h⟩ := Option.bind_eq_some_iff.mp h
    refine bq_callVv (q0 := 26) (As := [.int _, .int _, .int _, .int _]) S hK hD hA hP hS (cX0_askBurnt_k_26 ho23) hd_yX0_askBurnt ml_X9_226 in_yX0_askBurnt (hts _ sl_X0_X0_yX0_askBurnt) ⟨rfl, rfl⟩ ⟨by decide, by decide⟩ rfl rfl rfl hl.1 rfl (Nat.le_of_ble_eq_true rfl) ⟨Nat.zero_le _, Nat.zero_le _⟩ dX9_burnt_84 (fun H locs hP hS => ?_)
    refine lv_iload hx hb dX9_burnt_87 (lv_at hl 5 rfl) ?_
    refine lv_iconst (v := (-1 : Int32)) hx hb dX9_burnt_89 (by decide) ?_
    refine lv_icmp_ne (tgt := 115) hx hb dX9_burnt_90 (by decide) (fun c25 => ?_) (fun c25 => ?_)
    · replace h := (if_neg c25).symm.trans h
      refine lv_aload_n hx hb dX9_burnt_115 rfl (lv_at hl 0 rfl) ?_
      refine bq_get (q0 := 0) S hK hP fl_X9_34_X9_4 rfl rfl rfl dX9_burnt_116 ?_
      refine lv_iconst (v := (0 : Int32)) hx hb dX9_burnt_119 (by decide) ?_
      refine lv_aload_n hx hb dX9_burnt_120 rfl (lv_at hl 0 rfl) ?_
      refine bq_get (q0 := 0) S hK hP fl_X9_75_X9_10 rfl rfl rfl dX9_burnt_121 ?_
      obtain ⟨o26, ho26, h⟩ := Option.bind_eq_some_iff.mp h
      obtain ⟨v28, x27⟩ := o26
      replace h := un2_e h
      refine bq_callVi (q0 := 26) (As := [.int _, .ref (a 42)]) S hK hD hA hP hS (cX0_find_k_26_42 ho26) hd_yX0_find ml_X9_201 in_yX0_find (hts _ sl_X0_X0_yX0_find) ⟨rfl, rfl⟩ ⟨by decide, by decide⟩ rfl rfl rfl hl.1 rfl (Nat.le_of_ble_eq_true rfl) ⟨Nat.zero_le _, Nat.zero_le _⟩ dX9_burnt_124 (fun H locs hP hS => ?_)
      refine lv_if_eq (tgt := 142) hx hb dX9_burnt_127 (by decide) (fun c29 => ?_) (fun c29 => ?_)
      · replace h := (if_pos c29).symm.trans h
        refine lv_bipush (v := (-4 : Int32)) hx hb dX9_burnt_142 (by decide) ?_
        obtain ⟨e1, e2⟩ := Prod.mk.inj (hret _ h)
        exact hR _ _ _ _ _ (congrArg some e1) rfl (by rw [e2]; exact hP) hS dX9_burnt_144
      · replace h := (if_neg c29).symm.trans h
        refine lv_aload_n hx hb dX9_burnt_130 rfl (lv_at hl 0 rfl) ?_
        refine bq_get (q0 := 0) S hK hP fl_X9_75_X9_10 rfl rfl rfl dX9_burnt_131 ?_
        refine lv_iload hx hb dX9_burnt_134 (lv_at hl 5 rfl) ?_
        refine lv_iload_n hx hb dX9_burnt_136 rfl (lv_at hl 1 rfl) ?_
        refine lv_isub hx hb dX9_burnt_137 ?_
        obtain ⟨g30, h⟩ := bq_gd h
        refine va_iald (D := D) hx hb hK hP 42 0 rfl rfl g30 dX9_burnt_138 ?_
        refine lv_goto (tgt := 144) hx hb dX9_burnt_139 (by decide) ?_
        obtain ⟨e1, e2⟩ := Prod.mk.inj (hret _ h)
        exact hR _ _ _ _ _ (congrArg some e1) rfl (by rw [e2]; exact hP) hS dX9_burnt_144
    · replace h := (if_pos c25).symm.trans h
      refine lv_aload_n hx hb dX9_burnt_93 rfl (lv_at hl 0 rfl) ?_
      refine bq_get (q0 := 0) S hK hP fl_X9_34_X9_4 rfl rfl rfl dX9_burnt_94 ?_
      obtain ⟨o31, ho31, h⟩ := Option.bind_eq_some_iff.mp h
      obtain ⟨v33, x32⟩ := o31
      replace h := un2_e h
      refine bq_callVi (q0 := 26) (As := []) S hK hD hA hP hS (cX0_total_k_26 ho31) hd_yX0_total ml_X9_193 in_yX0_total (hts _ sl_X0_X0_yX0_total) ⟨rfl, rfl⟩ ⟨by decide, by decide⟩ rfl rfl rfl hl.1 rfl (Nat.le_of_ble_eq_true rfl) ⟨Nat.zero_le _, Nat.zero_le _⟩ dX9_burnt_97 (fun H locs hP hS => ?_)
      refine lv_istore (lv' := [(6, .int v33), (0, .ref (a 0)), (1, .int v17), (2, .int v18), (3, .int v19), (4, .int v20), (5, .int v21)]) hx hb dX9_burnt_100 hl (by decide) rfl (fun ls hl => ?_)
      refine lv_iload hx hb dX9_burnt_102 (lv_at hl 0 rfl) ?_
      refine lv_if_ne (tgt := 112) hx hb dX9_burnt_104 (by decide) (fun c34 => ?_) (fun c34 => ?_)
      · replace h := (if_neg c34).symm.trans h
        refine lv_iload hx hb dX9_burnt_112 (lv_at hl 0 rfl) ?_
        obtain ⟨e1, e2⟩ := Prod.mk.inj (hret _ h)
        exact hR _ _ _ _ _ (congrArg some e1) rfl (by rw [e2]; exact hP) hS dX9_burnt_114
      · replace h := (if_pos c34).symm.trans h
        refine lv_bipush (v := (-4 : Int32)) hx hb dX9_burnt_107 (by decide) ?_
        refine lv_goto (tgt := 114) hx hb dX9_burnt_109 (by decide) ?_
        obtain ⟨e1, e2⟩ := Prod.mk.inj (hret _ h)
        exact hR _ _ _ _ _ (congrArg some e1) rfl (by rw [e2]; exact hP) hS dX9_burnt_114
  refine lv_aload_n hx hb dX9_burnt_0 rfl (lv_at hl 0 rfl) ?_
  refine bq_get (q0 := 0) S hK hP fl_X9_10_X9_0 rfl rfl rfl dX9_burnt_1 ?_
  refine lv_iload_n hx hb dX9_burnt_4 rfl (lv_at hl 1 rfl) ?_
  refine lv_i2l hx hb dX9_burnt_5 rfl ?_
  obtain ⟨o1, ho1, h⟩ := Option.bind_eq_some_iff.mp h
  obtain ⟨v3, x2⟩ := o1
  replace h := un2_e h
  refine bq_callVi (q0 := 1) (As := [.long _]) S hK hD hA hP hS (cX4_isPlace_k_1 ho1) hd_yX4_isPlace ml_X9_153 in_yX4_isPlace (hts _ sl_X4_X4_yX4_isPlace) ⟨rfl, rfl⟩ ⟨by decide, by decide⟩ rfl rfl rfl hl.1 rfl (Nat.le_of_ble_eq_true rfl) ⟨Nat.zero_le _, Nat.zero_le _⟩ dX9_burnt_6 (fun H locs hP hS => ?_)
  refine lv_if_eq (tgt := 40) hx hb dX9_burnt_9 (by decide) (fun c4 => ?_) (fun c4 => ?_)
  · replace h := (if_pos c4).symm.trans h
    refine lv_iconst (v := (-1 : Int32)) hx hb dX9_burnt_40 (by decide) ?_
    obtain ⟨e1, e2⟩ := Prod.mk.inj (hret _ h)
    exact hR _ _ _ _ _ (congrArg some e1) rfl (by rw [e2]; exact hP) hS dX9_burnt_41
  · replace h := (if_neg c4).symm.trans h
    refine lv_aload_n hx hb dX9_burnt_12 rfl (lv_at hl 0 rfl) ?_
    refine bq_get (q0 := 0) S hK hP fl_X9_10_X9_0 rfl rfl rfl dX9_burnt_13 ?_
    refine lv_iload_n hx hb dX9_burnt_16 rfl (lv_at hl 2 rfl) ?_
    refine lv_i2l hx hb dX9_burnt_17 rfl ?_
    obtain ⟨o5, ho5, h⟩ := Option.bind_eq_some_iff.mp h
    obtain ⟨v7, x6⟩ := o5
    replace h := un2_e h
    refine bq_callVi (q0 := 1) (As := [.long _]) S hK hD hA hP hS (cX4_isPlace_k_1 ho5) hd_yX4_isPlace ml_X9_153 in_yX4_isPlace (hts _ sl_X4_X4_yX4_isPlace) ⟨rfl, rfl⟩ ⟨by decide, by decide⟩ rfl rfl rfl hl.1 rfl (Nat.le_of_ble_eq_true rfl) ⟨Nat.zero_le _, Nat.zero_le _⟩ dX9_burnt_18 (fun H locs hP hS => ?_)
    refine lv_if_eq (tgt := 40) hx hb dX9_burnt_21 (by decide) (fun c8 => ?_) (fun c8 => ?_)
    · replace h := (if_pos c8).symm.trans h
      refine lv_iconst (v := (-1 : Int32)) hx hb dX9_burnt_40 (by decide) ?_
      obtain ⟨e1, e2⟩ := Prod.mk.inj (hret _ h)
      exact hR _ _ _ _ _ (congrArg some e1) rfl (by rw [e2]; exact hP) hS dX9_burnt_41
    · replace h := (if_neg c8).symm.trans h
      refine lv_iload_n hx hb dX9_burnt_24 rfl (lv_at hl 1 rfl) ?_
      refine lv_iload_n hx hb dX9_burnt_25 rfl (lv_at hl 2 rfl) ?_
      refine lv_icmp_gt (tgt := 40) hx hb dX9_burnt_26 (by decide) (fun c9 => ?_) (fun c9 => ?_)
      · replace h := (if_pos c9).symm.trans h
        refine lv_iconst (v := (-1 : Int32)) hx hb dX9_burnt_40 (by decide) ?_
        obtain ⟨e1, e2⟩ := Prod.mk.inj (hret _ h)
        exact hR _ _ _ _ _ (congrArg some e1) rfl (by rw [e2]; exact hP) hS dX9_burnt_41
      · replace h := (if_neg c9).symm.trans h
        refine lv_aload_n hx hb dX9_burnt_29 rfl (lv_at hl 0 rfl) ?_
        refine bq_get (q0 := 0) S hK hP fl_X9_10_X9_0 rfl rfl rfl dX9_burnt_30 ?_
        refine lv_iload_n hx hb dX9_burnt_33 rfl (lv_at hl 3 rfl) ?_
        obtain ⟨o10, ho10, h⟩ := Option.bind_eq_some_iff.mp h
        obtain ⟨v12, x11⟩ := o10
        replace h := un2_e h
        refine bq_callVi (q0 := 1) (As := [.int _]) S hK hD hA hP hS (cX4_isSet_k_1 ho10) hd_yX4_isSet ml_X9_186 in_yX4_isSet (hts _ sl_X4_X4_yX4_isSet) ⟨rfl, rfl⟩ ⟨by decide, by decide⟩ rfl rfl rfl hl.1 rfl (Nat.le_of_ble_eq_true rfl) ⟨Nat.zero_le _, Nat.zero_le _⟩ dX9_burnt_34 (fun H locs hP hS => ?_)
        refine lv_if_ne (tgt := 42) hx hb dX9_burnt_37 (by decide) (fun c13 => ?_) (fun c13 => ?_)
        · replace h := (if_neg c13).symm.trans h
          refine lv_iload hx hb dX9_burnt_42 (lv_at hl 4 rfl) ?_
          refine lv_iconst (v := (1 : Int32)) hx hb dX9_burnt_44 (by decide) ?_
          refine lv_icmp_lt (tgt := 73) hx hb dX9_burnt_45 (by decide) (fun c14 => ?_) (fun c14 => ?_)
          · replace h := (if_pos c14).symm.trans h
            refine lv_iconst (v := (-1 : Int32)) hx hb dX9_burnt_73 (by decide) ?_
            obtain ⟨e1, e2⟩ := Prod.mk.inj (hret _ h)
            exact hR _ _ _ _ _ (congrArg some e1) rfl (by rw [e2]; exact hP) hS dX9_burnt_74
          · replace h := (if_neg c14).symm.trans h
            refine lv_iload hx hb dX9_burnt_48 (lv_at hl 4 rfl) ?_
            refine lv_bipush (v := (99 : Int32)) hx hb dX9_burnt_50 (by decide) ?_
            refine lv_icmp_gt (tgt := 73) hx hb dX9_burnt_52 (by decide) (fun c15 => ?_) (fun c15 => ?_)
            · replace h := (if_pos c15).symm.trans h
              refine lv_iconst (v := (-1 : Int32)) hx hb dX9_burnt_73 (by decide) ?_
              obtain ⟨e1, e2⟩ := Prod.mk.inj (hret _ h)
              exact hR _ _ _ _ _ (congrArg some e1) rfl (by rw [e2]; exact hP) hS dX9_burnt_74
            · replace h := (if_neg c15).symm.trans h
              refine lv_iload hx hb dX9_burnt_55 (lv_at hl 5 rfl) ?_
              refine lv_iconst (v := (-1 : Int32)) hx hb dX9_burnt_57 (by decide) ?_
              refine lv_icmp_eq (tgt := 75) hx hb dX9_burnt_58 (by decide) (fun c16 => ?_) (fun c16 => ?_)
              · replace h := (if_pos c16).symm.trans h
                exact hj75 _ _ _ _ _ _ _ _ _ h hP hS (lv_sub hl [0, 1, 2, 3, 4, 5] rfl)
              · replace h := (if_neg c16).symm.trans h
                refine lv_iload hx hb dX9_burnt_61 (lv_at hl 5 rfl) ?_
                refine lv_iload_n hx hb dX9_burnt_63 rfl (lv_at hl 1 rfl) ?_
                refine lv_icmp_lt (tgt := 73) hx hb dX9_burnt_64 (by decide) (fun c35 => ?_) (fun c35 => ?_)
                · replace h := (if_pos c35).symm.trans h
                  refine lv_iconst (v := (-1 : Int32)) hx hb dX9_burnt_73 (by decide) ?_
                  obtain ⟨e1, e2⟩ := Prod.mk.inj (hret _ h)
                  exact hR _ _ _ _ _ (congrArg some e1) rfl (by rw [e2]; exact hP) hS dX9_burnt_74
                · replace h := (if_neg c35).symm.trans h
                  refine lv_iload hx hb dX9_burnt_67 (lv_at hl 5 rfl) ?_
                  refine lv_iload_n hx hb dX9_burnt_69 rfl (lv_at hl 2 rfl) ?_
                  refine lv_icmp_le (tgt := 75) hx hb dX9_burnt_70 (by decide) (fun c36 => ?_) (fun c36 => ?_)
                  · replace h := (if_pos c36).symm.trans h
                    exact hj75 _ _ _ _ _ _ _ _ _ h hP hS (lv_sub hl [0, 1, 2, 3, 4, 5] rfl)
                  · replace h := (if_neg c36).symm.trans h
                    refine lv_iconst (v := (-1 : Int32)) hx hb dX9_burnt_73 (by decide) ?_
                    obtain ⟨e1, e2⟩ := Prod.mk.inj (hret _ h)
                    exact hR _ _ _ _ _ (congrArg some e1) rfl (by rw [e2]; exact hP) hS dX9_burnt_74
        · replace h := (if_pos c13).symm.trans h
          refine lv_iconst (v := (-1 : Int32)) hx hb dX9_burnt_40 (by decide) ?_
          obtain ⟨e1, e2⟩ := Prod.mk.inj (hret _ h)
          exact hR _ _ _ _ _ (congrArg some e1) rfl (by rw [e2]; exact hP) hS dX9_burnt_41
set_option maxHeartbeats 4000000 in
set_option maxRecDepth 100000 in
theorem cJ7_fill_k_11 {l : Launch} {D : va_G} {a : Nat → Nat} {k : Nat → ClassId} {n : Nat} {p1 : Int32} {x0 xz : bq_S} (h : fJ7_fill n 11 8 p1 x0 = some xz) : bq_M l D bq_cl (bq_ty k) (bq_wC a k) yJ7_fill_53178 cJ7_fill_53178 4 none { frames := 0, cells := 0, slots := 0, locals := 0 } [.ref (a 11), .int p1] x0 none xz := by
  refine bq_ofWv RJ7 [(0, .ref (a 11)), (1, .int p1)] (by decide +kernel) rfl (Nat.le_of_ble_eq_true rfl) rfl (bq_adC a k) ?_
  intro p e s m below meth c A Q ls S hK hD hA hR hS hP hl
  have hx := S.1; have hb := S.2.1; have hml := S.2.2.1; have hown := S.2.2.2.1; have hts := S.2.2.2.2
  have hret : ∀ z, some z = some xz → xz = z := fun z h => (Option.some.inj h).symm
  unfold fJ7_fill at h
  refine lv_iconst (v := (0 : Int32)) hx hb dJ7_fill_53178_0 (by decide) ?_
  refine lv_istore_n (lv' := [(2, .int (0 : Int32)), (0, .ref (a 11)), (1, .int p1)]) hx hb dJ7_fill_53178_1 rfl hl (by decide) rfl (fun ls hl => ?_)
  refine lv_aload_n hx hb dJ7_fill_53178_2 rfl (lv_at hl 1 rfl) ?_
  refine va_alen (D := D) (v := (8 : Int32)) hx hb hK hP 11 0 rfl rfl rfl dJ7_fill_53178_3 ?_
  refine lv_topi (fun v1 hv1 => ?_)
  replace h := bq_bv h hv1
  refine lv_istore_n (lv' := [(3, .int v1), (2, .int (0 : Int32)), (0, .ref (a 11)), (1, .int p1)]) hx hb dJ7_fill_53178_4 rfl hl (by decide) rfl (fun ls hl => ?_)
  have hl5 : ∀ (v4 : Int32) (v6 : Int32) (kf : Nat) (v5 : Int32) (x7 : bq_S) (eo : Int32 × bq_S) (H : Heap) (locs : List Loc) (ls : Array Slot), wh kf (fJ7_fill_b5 n 11 8 v4 v6) (v5, x7) = some eo → va_P D bq_cl (bq_wC a k x7) H → va_S A s.heap H locs → lv_has ls 4 [(0, .ref (a 11)), (1, .int v4), (2, .int v5), (3, .int v6)] → (∀ (H : Heap) (locs : List Loc) (ls : Array Slot) (v13 : Int32) (x14 : bq_S), eo = (v13, x14) → va_P D bq_cl (bq_wC a k x14) H → va_S A s.heap H locs → lv_has ls 4 [] → W p l e { frames := 0, cells := 0, slots := 0, locals := 0 } s m [.ref (a 11), .int p1].toArray below meth c H locs 0 0 Q (F0 m 20 ls [])) → W p l e { frames := 0, cells := 0, slots := 0, locals := 0 } s m [.ref (a 11), .int p1].toArray below meth c H locs 0 0 Q (F0 m 5 ls []) := by
    intro v4 v6 kf
    induction kf with
    | zero => intro v5 x7 eo H locs ls h; cases h
    | succ kf ih =>
      intro v5 x7 eo H locs ls h hP hS hl kx
      obtain ⟨out, h, hw⟩ := wh_s h
      unfold fJ7_fill_b5 at h
      replace h := un2_e h
      refine lv_iload_n hx hb dJ7_fill_53178_5 rfl (lv_at hl 2 rfl) ?_
      refine lv_iload_n hx hb dJ7_fill_53178_6 rfl (lv_at hl 3 rfl) ?_
      refine lv_icmp_ge (tgt := 20) hx hb dJ7_fill_53178_7 (by decide) (fun c8 => ?_) (fun c8 => ?_)
      · replace h := (if_pos c8).symm.trans h
        cases h
        exact kx _ _ _ _ _ (Option.some.inj hw).symm hP hS (lv_sub hl [] rfl)
      · replace h := (if_neg c8).symm.trans h
        refine lv_aload_n hx hb dJ7_fill_53178_10 rfl (lv_at hl 0 rfl) ?_
        refine lv_iload_n hx hb dJ7_fill_53178_11 rfl (lv_at hl 2 rfl) ?_
        refine lv_iload_n hx hb dJ7_fill_53178_12 rfl (lv_at hl 1 rfl) ?_
        obtain ⟨g10, h⟩ := bq_gd h
        obtain ⟨x9, hx9, h⟩ := bq_b h
        refine bq_iast (x1 := x9) (q0 := 11) (t0 := 0) S hK hD hP hS rfl rfl g10 (by rw [hx9]; rfl) dJ7_fill_53178_13 (fun H locs hP hS => ?_)
        obtain ⟨v11, hv11, h⟩ := bq_b h
        refine lv_iinc (v := v11) (lv' := [(2, .int v11), (0, .ref (a 11)), (1, .int v4), (3, .int v6)]) hx hb dJ7_fill_53178_14 hl (k := 2) rfl (by rw [hv11]; rfl) (by decide) rfl (fun ls hl => ?_)
        refine lv_goto (tgt := 5) hx hb dJ7_fill_53178_17 (by decide) ?_
        cases h
        exact ih _ _ _ _ _ _ hw hP hS (lv_sub hl [1, 2, 0, 3] rfl) kx
  obtain ⟨e12, he12, h⟩ := Option.bind_eq_some_iff.mp h
  refine hl5 _ _ n _ _ e12 _ _ _ he12 hP hS (lv_sub hl [2, 3, 1, 0] rfl) (fun H locs ls v13 x14 hz hP hS hl => ?_)
  subst hz
  replace h := un2_e h
  have e2 := hret _ h
  exact hR _ _ _ _ rfl (by rw [e2]; exact hP) hS dJ7_fill_53178_20
set_option maxHeartbeats 4000000 in
set_option maxRecDepth 100000 in
theorem cX4_isBook_k_8 {l : Launch} {D : va_G} {a : Nat → Nat} {k : Nat → ClassId} {p1 : Int64} {x0 xz : bq_S} {rz : Int32} (h : fX4_isBook  8 p1 x0 = some (rz, xz)) : bq_M l D bq_cl (bq_ty k) (bq_wC a k) yX4_isBook cX4_isBook 3 (some .boolean) { frames := 0, cells := 0, slots := 0, locals := 0 } [.ref (a 8), .long p1] x0 (some rz) xz := by
  refine bq_ofW RX4 [(0, .ref (a 8)), (1, .long p1)] (by decide +kernel) rfl (Nat.le_of_ble_eq_true rfl) rfl (bq_adC a k) ?_
  intro p e s m below meth c A Q ls S hK hD hA hR hS hP hl
  have hx := S.1; have hb := S.2.1; have hml := S.2.2.1; have hown := S.2.2.2.1; have hts := S.2.2.2.2
  have hret : ∀ z, some z = some (rz, xz) → (rz, xz) = z := fun z h => (Option.some.inj h).symm
  unfold fX4_isBook at h
  refine lv_lload_n hx hb dX4_isBook_0 rfl (lv_at hl 1 rfl) ?_
  refine lv_lconst (v := (0 : Int64)) hx hb dX4_isBook_1 (by decide) ?_
  refine W.lcmp hx hb dX4_isBook_2 ?_
  refine lv_if_lt (tgt := 20) hx hb dX4_isBook_3 (by decide) (fun c1 => ?_) (fun c1 => ?_)
  · replace h := (if_pos c1).symm.trans h
    refine lv_iconst (v := (0 : Int32)) hx hb dX4_isBook_20 (by decide) ?_
    obtain ⟨e1, e2⟩ := Prod.mk.inj (hret _ h)
    exact hR _ _ _ _ _ (congrArg some e1) rfl (by rw [e2]; exact hP) hS dX4_isBook_21
  · replace h := (if_neg c1).symm.trans h
    refine lv_lload_n hx hb dX4_isBook_6 rfl (lv_at hl 1 rfl) ?_
    refine lv_aload_n hx hb dX4_isBook_7 rfl (lv_at hl 0 rfl) ?_
    refine bq_get (q0 := 8) S hK hP fl_X4_9_X4_0 rfl rfl rfl dX4_isBook_8 ?_
    refine lv_i2l hx hb dX4_isBook_11 rfl ?_
    refine W.lcmp hx hb dX4_isBook_12 ?_
    refine lv_if_ge (tgt := 20) hx hb dX4_isBook_13 (by decide) (fun c2 => ?_) (fun c2 => ?_)
    · replace h := (if_pos c2).symm.trans h
      refine lv_iconst (v := (0 : Int32)) hx hb dX4_isBook_20 (by decide) ?_
      obtain ⟨e1, e2⟩ := Prod.mk.inj (hret _ h)
      exact hR _ _ _ _ _ (congrArg some e1) rfl (by rw [e2]; exact hP) hS dX4_isBook_21
    · replace h := (if_neg c2).symm.trans h
      refine lv_iconst (v := (1 : Int32)) hx hb dX4_isBook_16 (by decide) ?_
      refine lv_goto (tgt := 21) hx hb dX4_isBook_17 (by decide) ?_
      obtain ⟨e1, e2⟩ := Prod.mk.inj (hret _ h)
      exact hR _ _ _ _ _ (congrArg some e1) rfl (by rw [e2]; exact hP) hS dX4_isBook_21
set_option maxHeartbeats 4000000 in
set_option maxRecDepth 100000 in
theorem cX4_areTwo_k_8 {l : Launch} {D : va_G} {a : Nat → Nat} {k : Nat → ClassId} {p1 : Int32} {p2 : Int32} {x0 xz : bq_S} {rz : Int32} (h : fX4_areTwo  8 p1 p2 x0 = some (rz, xz)) : bq_M l D bq_cl (bq_ty k) (bq_wC a k) yX4_areTwo cX4_areTwo 3 (some .boolean) { frames := 1, cells := 0, slots := 0, locals := 22 } [.ref (a 8), .int p1, .int p2] x0 (some rz) xz := by
  refine bq_ofW RX4 [(0, .ref (a 8)), (1, .int p1), (2, .int p2)] (by decide +kernel) rfl (Nat.le_of_ble_eq_true rfl) rfl (bq_adC a k) ?_
  intro p e s m below meth c A Q ls S hK hD hA hR hS hP hl
  have hx := S.1; have hb := S.2.1; have hml := S.2.2.1; have hown := S.2.2.2.1; have hts := S.2.2.2.2
  have hret : ∀ z, some z = some (rz, xz) → (rz, xz) = z := fun z h => (Option.some.inj h).symm
  unfold fX4_areTwo at h
  refine lv_aload_n hx hb dX4_areTwo_0 rfl (lv_at hl 0 rfl) ?_
  refine lv_iload_n hx hb dX4_areTwo_1 rfl (lv_at hl 1 rfl) ?_
  refine lv_i2l hx hb dX4_areTwo_2 rfl ?_
  obtain ⟨o1, ho1, h⟩ := Option.bind_eq_some_iff.mp h
  obtain ⟨v3, x2⟩ := o1
  replace h := un2_e h
  refine bq_callVi (q0 := 8) (As := [.long _]) S hK hD hA hP hS (cX4_isBook_k_8 ho1) hd_yX4_isBook ml_X4_80 in_yX4_isBook (hts _ sl_X4_X4_yX4_isBook) ⟨rfl, rfl⟩ ⟨by decide, by decide⟩ rfl rfl rfl hl.1 rfl (Nat.le_of_ble_eq_true rfl) ⟨Nat.zero_le _, Nat.zero_le _⟩ dX4_areTwo_3 (fun H locs hP hS => ?_)
  refine lv_if_eq (tgt := 27) hx hb dX4_areTwo_6 (by decide) (fun c4 => ?_) (fun c4 => ?_)
  · replace h := (if_pos c4).symm.trans h
    refine lv_iconst (v := (0 : Int32)) hx hb dX4_areTwo_27 (by decide) ?_
    obtain ⟨e1, e2⟩ := Prod.mk.inj (hret _ h)
    exact hR _ _ _ _ _ (congrArg some e1) rfl (by rw [e2]; exact hP) hS dX4_areTwo_28
  · replace h := (if_neg c4).symm.trans h
    refine lv_aload_n hx hb dX4_areTwo_9 rfl (lv_at hl 0 rfl) ?_
    refine lv_iload_n hx hb dX4_areTwo_10 rfl (lv_at hl 2 rfl) ?_
    refine lv_i2l hx hb dX4_areTwo_11 rfl ?_
    obtain ⟨o5, ho5, h⟩ := Option.bind_eq_some_iff.mp h
    obtain ⟨v7, x6⟩ := o5
    replace h := un2_e h
    refine bq_callVi (q0 := 8) (As := [.long _]) S hK hD hA hP hS (cX4_isBook_k_8 ho5) hd_yX4_isBook ml_X4_80 in_yX4_isBook (hts _ sl_X4_X4_yX4_isBook) ⟨rfl, rfl⟩ ⟨by decide, by decide⟩ rfl rfl rfl hl.1 rfl (Nat.le_of_ble_eq_true rfl) ⟨Nat.zero_le _, Nat.zero_le _⟩ dX4_areTwo_12 (fun H locs hP hS => ?_)
    refine lv_if_eq (tgt := 27) hx hb dX4_areTwo_15 (by decide) (fun c8 => ?_) (fun c8 => ?_)
    · replace h := (if_pos c8).symm.trans h
      refine lv_iconst (v := (0 : Int32)) hx hb dX4_areTwo_27 (by decide) ?_
      obtain ⟨e1, e2⟩ := Prod.mk.inj (hret _ h)
      exact hR _ _ _ _ _ (congrArg some e1) rfl (by rw [e2]; exact hP) hS dX4_areTwo_28
    · replace h := (if_neg c8).symm.trans h
      refine lv_iload_n hx hb dX4_areTwo_18 rfl (lv_at hl 1 rfl) ?_
      refine lv_iload_n hx hb dX4_areTwo_19 rfl (lv_at hl 2 rfl) ?_
      refine lv_icmp_eq (tgt := 27) hx hb dX4_areTwo_20 (by decide) (fun c9 => ?_) (fun c9 => ?_)
      · replace h := (if_pos c9).symm.trans h
        refine lv_iconst (v := (0 : Int32)) hx hb dX4_areTwo_27 (by decide) ?_
        obtain ⟨e1, e2⟩ := Prod.mk.inj (hret _ h)
        exact hR _ _ _ _ _ (congrArg some e1) rfl (by rw [e2]; exact hP) hS dX4_areTwo_28
      · replace h := (if_neg c9).symm.trans h
        refine lv_iconst (v := (1 : Int32)) hx hb dX4_areTwo_23 (by decide) ?_
        refine lv_goto (tgt := 28) hx hb dX4_areTwo_24 (by decide) ?_
        obtain ⟨e1, e2⟩ := Prod.mk.inj (hret _ h)
        exact hR _ _ _ _ _ (congrArg some e1) rfl (by rw [e2]; exact hP) hS dX4_areTwo_28
set_option maxHeartbeats 4000000 in
set_option maxRecDepth 100000 in
theorem cX4_mayTouch_k_8 {l : Launch} {D : va_G} {a : Nat → Nat} {k : Nat → ClassId} {p1 : Int32} {p2 : Int32} {x0 xz : bq_S} {rz : Int32} (h : fX4_mayTouch  8 p1 p2 x0 = some (rz, xz)) : bq_M l D bq_cl (bq_ty k) (bq_wC a k) yX4_mayTouch cX4_mayTouch 3 (some .boolean) { frames := 1, cells := 0, slots := 0, locals := 21 } [.ref (a 8), .int p1, .int p2] x0 (some rz) xz := by
  refine bq_ofW RX4 [(0, .ref (a 8)), (1, .int p1), (2, .int p2)] (by decide +kernel) rfl (Nat.le_of_ble_eq_true rfl) rfl (bq_adC a k) ?_
  intro p e s m below meth c A Q ls S hK hD hA hR hS hP hl
  have hx := S.1; have hb := S.2.1; have hml := S.2.2.1; have hown := S.2.2.2.1; have hts := S.2.2.2.2
  have hret : ∀ z, some z = some (rz, xz) → (rz, xz) = z := fun z h => (Option.some.inj h).symm
  unfold fX4_mayTouch at h
  refine lv_aload_n hx hb dX4_mayTouch_0 rfl (lv_at hl 0 rfl) ?_
  refine bq_get (q0 := 8) S hK hP fl_X4_28_X4_5 rfl rfl rfl dX4_mayTouch_1 ?_
  refine lv_iload_n hx hb dX4_mayTouch_4 rfl (lv_at hl 1 rfl) ?_
  obtain ⟨g1, h⟩ := bq_gd h
  refine va_iald (D := D) hx hb hK hP 11 0 rfl rfl g1 dX4_mayTouch_5 ?_
  refine lv_iload_n hx hb dX4_mayTouch_6 rfl (lv_at hl 2 rfl) ?_
  obtain ⟨o2, ho2, h⟩ := Option.bind_eq_some_iff.mp h
  obtain ⟨v4, x3⟩ := o2
  replace h := un2_e h
  refine bq_callSNi (As := [.int _, .int _]) S hK hD hA hP hS (cX9_has_k ho2) hd_yX9_has mn_X4_62 st_yX9_has ⟨rfl, rfl⟩ ⟨by decide, by decide⟩ rfl hl.1 rfl (Nat.le_of_ble_eq_true rfl) ⟨Nat.zero_le _, Nat.zero_le _⟩ dX4_mayTouch_7 (fun H locs hP hS => ?_)
  refine lv_if_eq (tgt := 15) hx hb dX4_mayTouch_10 (by decide) (fun c5 => ?_) (fun c5 => ?_)
  · replace h := (if_pos c5).symm.trans h
    refine lv_aload_n hx hb dX4_mayTouch_15 rfl (lv_at hl 0 rfl) ?_
    refine bq_get (q0 := 8) S hK hP fl_X4_15_X4_1 rfl rfl rfl dX4_mayTouch_16 ?_
    refine lv_iload_n hx hb dX4_mayTouch_19 rfl (lv_at hl 1 rfl) ?_
    obtain ⟨o6, ho6, h⟩ := Option.bind_eq_some_iff.mp h
    obtain ⟨v8, x7⟩ := o6
    replace h := un2_e h
    refine bq_callSNi (As := [.int _, .int _]) S hK hD hA hP hS (cX9_has_k ho6) hd_yX9_has mn_X4_62 st_yX9_has ⟨rfl, rfl⟩ ⟨by decide, by decide⟩ rfl hl.1 rfl (Nat.le_of_ble_eq_true rfl) ⟨Nat.zero_le _, Nat.zero_le _⟩ dX4_mayTouch_20 (fun H locs hP hS => ?_)
    refine lv_if_ne (tgt := 37) hx hb dX4_mayTouch_23 (by decide) (fun c9 => ?_) (fun c9 => ?_)
    · replace h := (if_neg c9).symm.trans h
      refine lv_iconst (v := (1 : Int32)) hx hb dX4_mayTouch_37 (by decide) ?_
      obtain ⟨e1, e2⟩ := Prod.mk.inj (hret _ h)
      exact hR _ _ _ _ _ (congrArg some e1) rfl (by rw [e2]; exact hP) hS dX4_mayTouch_38
    · replace h := (if_pos c9).symm.trans h
      refine lv_aload_n hx hb dX4_mayTouch_26 rfl (lv_at hl 0 rfl) ?_
      refine bq_get (q0 := 8) S hK hP fl_X4_15_X4_1 rfl rfl rfl dX4_mayTouch_27 ?_
      refine lv_iload_n hx hb dX4_mayTouch_30 rfl (lv_at hl 2 rfl) ?_
      obtain ⟨o10, ho10, h⟩ := Option.bind_eq_some_iff.mp h
      obtain ⟨v12, x11⟩ := o10
      replace h := un2_e h
      refine bq_callSNi (As := [.int _, .int _]) S hK hD hA hP hS (cX9_has_k ho10) hd_yX9_has mn_X4_62 st_yX9_has ⟨rfl, rfl⟩ ⟨by decide, by decide⟩ rfl hl.1 rfl (Nat.le_of_ble_eq_true rfl) ⟨Nat.zero_le _, Nat.zero_le _⟩ dX4_mayTouch_31 (fun H locs hP hS => ?_)
      refine lv_if_eq (tgt := 39) hx hb dX4_mayTouch_34 (by decide) (fun c13 => ?_) (fun c13 => ?_)
      · replace h := (if_pos c13).symm.trans h
        refine lv_aload_n hx hb dX4_mayTouch_39 rfl (lv_at hl 0 rfl) ?_
        refine bq_get (q0 := 8) S hK hP fl_X4_25_X4_4 rfl rfl rfl dX4_mayTouch_40 ?_
        refine lv_iload_n hx hb dX4_mayTouch_43 rfl (lv_at hl 1 rfl) ?_
        obtain ⟨g14, h⟩ := bq_gd h
        refine va_iald (D := D) hx hb hK hP 10 0 rfl rfl g14 dX4_mayTouch_44 ?_
        refine lv_iload_n hx hb dX4_mayTouch_45 rfl (lv_at hl 2 rfl) ?_
        obtain ⟨o15, ho15, h⟩ := Option.bind_eq_some_iff.mp h
        obtain ⟨v17, x16⟩ := o15
        replace h := un2_e h
        refine bq_callSNi (As := [.int _, .int _]) S hK hD hA hP hS (cX9_has_k ho15) hd_yX9_has mn_X4_62 st_yX9_has ⟨rfl, rfl⟩ ⟨by decide, by decide⟩ rfl hl.1 rfl (Nat.le_of_ble_eq_true rfl) ⟨Nat.zero_le _, Nat.zero_le _⟩ dX4_mayTouch_46 (fun H locs hP hS => ?_)
        refine lv_if_ne (tgt := 65) hx hb dX4_mayTouch_49 (by decide) (fun c18 => ?_) (fun c18 => ?_)
        · replace h := (if_neg c18).symm.trans h
          refine lv_iconst (v := (1 : Int32)) hx hb dX4_mayTouch_65 (by decide) ?_
          obtain ⟨e1, e2⟩ := Prod.mk.inj (hret _ h)
          exact hR _ _ _ _ _ (congrArg some e1) rfl (by rw [e2]; exact hP) hS dX4_mayTouch_66
        · replace h := (if_pos c18).symm.trans h
          refine lv_aload_n hx hb dX4_mayTouch_52 rfl (lv_at hl 0 rfl) ?_
          refine bq_get (q0 := 8) S hK hP fl_X4_25_X4_4 rfl rfl rfl dX4_mayTouch_53 ?_
          refine lv_iload_n hx hb dX4_mayTouch_56 rfl (lv_at hl 2 rfl) ?_
          obtain ⟨g19, h⟩ := bq_gd h
          refine va_iald (D := D) hx hb hK hP 10 0 rfl rfl g19 dX4_mayTouch_57 ?_
          refine lv_iload_n hx hb dX4_mayTouch_58 rfl (lv_at hl 1 rfl) ?_
          obtain ⟨o20, ho20, h⟩ := Option.bind_eq_some_iff.mp h
          obtain ⟨v22, x21⟩ := o20
          replace h := un2_e h
          refine bq_callSNi (As := [.int _, .int _]) S hK hD hA hP hS (cX9_has_k ho20) hd_yX9_has mn_X4_62 st_yX9_has ⟨rfl, rfl⟩ ⟨by decide, by decide⟩ rfl hl.1 rfl (Nat.le_of_ble_eq_true rfl) ⟨Nat.zero_le _, Nat.zero_le _⟩ dX4_mayTouch_59 (fun H locs hP hS => ?_)
          refine lv_if_eq (tgt := 67) hx hb dX4_mayTouch_62 (by decide) (fun c23 => ?_) (fun c23 => ?_)
          · replace h := (if_pos c23).symm.trans h
            refine lv_aload_n hx hb dX4_mayTouch_67 rfl (lv_at hl 0 rfl) ?_
            refine bq_get (q0 := 8) S hK hP fl_X4_31_X4_6 rfl rfl rfl dX4_mayTouch_68 ?_
            refine lv_iconst (v := (1 : Int32)) hx hb dX4_mayTouch_71 (by decide) ?_
            refine va_iald (D := D) hx hb hK hP 12 0 rfl rfl (bq_inl rfl) dX4_mayTouch_72 ?_
            refine lv_iconst (v := (1 : Int32)) hx hb dX4_mayTouch_73 (by decide) ?_
            refine lv_icmp_ne (tgt := 97) hx hb dX4_mayTouch_74 (by decide) (fun c24 => ?_) (fun c24 => ?_)
            · replace h := (if_neg c24).symm.trans h
              refine lv_iconst (v := (0 : Int32)) hx hb dX4_mayTouch_97 (by decide) ?_
              obtain ⟨e1, e2⟩ := Prod.mk.inj (hret _ h)
              exact hR _ _ _ _ _ (congrArg some e1) rfl (by rw [e2]; exact hP) hS dX4_mayTouch_98
            · replace h := (if_pos c24).symm.trans h
              refine lv_aload_n hx hb dX4_mayTouch_77 rfl (lv_at hl 0 rfl) ?_
              refine bq_get (q0 := 8) S hK hP fl_X4_25_X4_4 rfl rfl rfl dX4_mayTouch_78 ?_
              refine lv_iload_n hx hb dX4_mayTouch_81 rfl (lv_at hl 1 rfl) ?_
              obtain ⟨g25, h⟩ := bq_gd h
              refine va_iald (D := D) hx hb hK hP 10 0 rfl rfl g25 dX4_mayTouch_82 ?_
              refine lv_aload_n hx hb dX4_mayTouch_83 rfl (lv_at hl 0 rfl) ?_
              refine bq_get (q0 := 8) S hK hP fl_X4_25_X4_4 rfl rfl rfl dX4_mayTouch_84 ?_
              refine lv_iload_n hx hb dX4_mayTouch_87 rfl (lv_at hl 2 rfl) ?_
              obtain ⟨g26, h⟩ := bq_gd h
              refine va_iald (D := D) hx hb hK hP 10 0 rfl rfl g26 dX4_mayTouch_88 ?_
              refine lv_iand hx hb dX4_mayTouch_89 ?_
              refine lv_if_eq (tgt := 97) hx hb dX4_mayTouch_90 (by decide) (fun c27 => ?_) (fun c27 => ?_)
              · replace h := (if_pos c27).symm.trans h
                refine lv_iconst (v := (0 : Int32)) hx hb dX4_mayTouch_97 (by decide) ?_
                obtain ⟨e1, e2⟩ := Prod.mk.inj (hret _ h)
                exact hR _ _ _ _ _ (congrArg some e1) rfl (by rw [e2]; exact hP) hS dX4_mayTouch_98
              · replace h := (if_neg c27).symm.trans h
                refine lv_iconst (v := (1 : Int32)) hx hb dX4_mayTouch_93 (by decide) ?_
                refine lv_goto (tgt := 98) hx hb dX4_mayTouch_94 (by decide) ?_
                obtain ⟨e1, e2⟩ := Prod.mk.inj (hret _ h)
                exact hR _ _ _ _ _ (congrArg some e1) rfl (by rw [e2]; exact hP) hS dX4_mayTouch_98
          · replace h := (if_neg c23).symm.trans h
            refine lv_iconst (v := (1 : Int32)) hx hb dX4_mayTouch_65 (by decide) ?_
            obtain ⟨e1, e2⟩ := Prod.mk.inj (hret _ h)
            exact hR _ _ _ _ _ (congrArg some e1) rfl (by rw [e2]; exact hP) hS dX4_mayTouch_66
      · replace h := (if_neg c13).symm.trans h
        refine lv_iconst (v := (1 : Int32)) hx hb dX4_mayTouch_37 (by decide) ?_
        obtain ⟨e1, e2⟩ := Prod.mk.inj (hret _ h)
        exact hR _ _ _ _ _ (congrArg some e1) rfl (by rw [e2]; exact hP) hS dX4_mayTouch_38
  · replace h := (if_neg c5).symm.trans h
    refine lv_iconst (v := (0 : Int32)) hx hb dX4_mayTouch_13 (by decide) ?_
    obtain ⟨e1, e2⟩ := Prod.mk.inj (hret _ h)
    exact hR _ _ _ _ _ (congrArg some e1) rfl (by rw [e2]; exact hP) hS dX4_mayTouch_14
set_option maxHeartbeats 4000000 in
set_option maxRecDepth 100000 in
theorem cX4_learnNear_k_8 {l : Launch} {D : va_G} {a : Nat → Nat} {k : Nat → ClassId} {n : Nat} {x0 xz : bq_S} (h : fX4_learnNear n 8 x0 = some xz) : bq_M l D bq_cl (bq_ty k) (bq_wC a k) yX4_learnNear cX4_learnNear 4 none { frames := 2, cells := 0, slots := 0, locals := 44 } [.ref (a 8)] x0 none xz := by
  refine bq_ofWv RX4 [(0, .ref (a 8))] (by decide +kernel) rfl (Nat.le_of_ble_eq_true rfl) rfl (bq_adC a k) ?_
  intro p e s m below meth c A Q ls S hK hD hA hR hS hP hl
  have hx := S.1; have hb := S.2.1; have hml := S.2.2.1; have hown := S.2.2.2.1; have hts := S.2.2.2.2
  have hret : ∀ z, some z = some xz → xz = z := fun z h => (Option.some.inj h).symm
  unfold fX4_learnNear at h
  refine lv_iconst (v := (0 : Int32)) hx hb dX4_learnNear_0 (by decide) ?_
  refine lv_istore_n (lv' := [(1, .int (0 : Int32)), (0, .ref (a 8))]) hx hb dX4_learnNear_1 rfl hl (by decide) rfl (fun ls hl => ?_)
  have hl2 : ∀ (kf : Nat) (v2 : Int32) (x3 : bq_S) (eo : Int32 × bq_S) (H : Heap) (locs : List Loc) (ls : Array Slot), wh kf (fX4_learnNear_b2 n 8) (v2, x3) = some eo → va_P D bq_cl (bq_wC a k x3) H → va_S A s.heap H locs → lv_has ls 4 [(0, .ref (a 8)), (1, .int v2)] → (∀ (H : Heap) (locs : List Loc) (ls : Array Slot) (v34 : Int32) (x35 : bq_S), eo = (v34, x35) → va_P D bq_cl (bq_wC a k x35) H → va_S A s.heap H locs → lv_has ls 4 [] → W p l e { frames := 2, cells := 0, slots := 0, locals := 44 } s m [.ref (a 8)].toArray below meth c H locs 0 0 Q (F0 m 62 ls [])) → W p l e { frames := 2, cells := 0, slots := 0, locals := 44 } s m [.ref (a 8)].toArray below meth c H locs 0 0 Q (F0 m 2 ls []) := by
    intro  kf
    induction kf with
    | zero => intro v2 x3 eo H locs ls h; cases h
    | succ kf ih =>
      intro v2 x3 eo H locs ls h hP hS hl kx
      obtain ⟨out, h, hw⟩ := wh_s h
      unfold fX4_learnNear_b2 at h
      replace h := un2_e h
      refine lv_iload_n hx hb dX4_learnNear_2 rfl (lv_at hl 1 rfl) ?_
      refine lv_bipush (v := (8 : Int32)) hx hb dX4_learnNear_3 (by decide) ?_
      refine lv_icmp_ge (tgt := 62) hx hb dX4_learnNear_5 (by decide) (fun c4 => ?_) (fun c4 => ?_)
      · replace h := (if_pos c4).symm.trans h
        cases h
        exact kx _ _ _ _ _ (Option.some.inj hw).symm hP hS (lv_sub hl [] rfl)
      · replace h := (if_neg c4).symm.trans h
        refine lv_iconst (v := (0 : Int32)) hx hb dX4_learnNear_8 (by decide) ?_
        refine lv_istore_n (lv' := [(2, .int (0 : Int32)), (0, .ref (a 8)), (1, .int v2)]) hx hb dX4_learnNear_9 rfl hl (by decide) rfl (fun ls hl => ?_)
        refine lv_iconst (v := (0 : Int32)) hx hb dX4_learnNear_10 (by decide) ?_
        refine lv_istore_n (lv' := [(3, .int (0 : Int32)), (2, .int (0 : Int32)), (0, .ref (a 8)), (1, .int v2)]) hx hb dX4_learnNear_11 rfl hl (by decide) rfl (fun ls hl => ?_)
        have hl12 : ∀ (v6 : Int32) (kf : Nat) (v7 : Int32) (v8 : Int32) (x9 : bq_S) (eo : Int32 × Int32 × bq_S) (H : Heap) (locs : List Loc) (ls : Array Slot), wh kf (fX4_learnNear_b12 n 8 v6) (v7, v8, x9) = some eo → va_P D bq_cl (bq_wC a k x9) H → va_S A s.heap H locs → lv_has ls 4 [(0, .ref (a 8)), (1, .int v6), (2, .int v7), (3, .int v8)] → (∀ (H : Heap) (locs : List Loc) (ls : Array Slot) (v27 : Int32) (v28 : Int32) (x29 : bq_S), eo = (v27, v28, x29) → va_P D bq_cl (bq_wC a k x29) H → va_S A s.heap H locs → lv_has ls 4 [(0, .ref (a 8)), (1, .int v6), (2, .int v27)] → W p l e { frames := 2, cells := 0, slots := 0, locals := 44 } s m [.ref (a 8)].toArray below meth c H locs 0 0 Q (F0 m 49 ls [])) → W p l e { frames := 2, cells := 0, slots := 0, locals := 44 } s m [.ref (a 8)].toArray below meth c H locs 0 0 Q (F0 m 12 ls []) := by
          intro v6 kf
          induction kf with
          | zero => intro v7 v8 x9 eo H locs ls h; cases h
          | succ kf ih =>
            intro v7 v8 x9 eo H locs ls h hP hS hl kx
            obtain ⟨out, h, hw⟩ := wh_s h
            unfold fX4_learnNear_b12 at h
            replace h := un3_e h
            refine lv_iload_n hx hb dX4_learnNear_12 rfl (lv_at hl 3 rfl) ?_
            refine lv_bipush (v := (8 : Int32)) hx hb dX4_learnNear_13 (by decide) ?_
            refine lv_icmp_ge (tgt := 49) hx hb dX4_learnNear_15 (by decide) (fun c10 => ?_) (fun c10 => ?_)
            · replace h := (if_pos c10).symm.trans h
              cases h
              exact kx _ _ _ _ _ _ (Option.some.inj hw).symm hP hS (lv_sub hl [0, 1, 2] rfl)
            · replace h := (if_neg c10).symm.trans h
              refine lv_aload_n hx hb dX4_learnNear_18 rfl (lv_at hl 0 rfl) ?_
              refine lv_iload_n hx hb dX4_learnNear_19 rfl (lv_at hl 1 rfl) ?_
              refine lv_iload_n hx hb dX4_learnNear_20 rfl (lv_at hl 3 rfl) ?_
              obtain ⟨o11, ho11, h⟩ := Option.bind_eq_some_iff.mp h
              obtain ⟨v13, x12⟩ := o11
              replace h := un2_e h
              refine bq_callVi (q0 := 8) (As := [.int _, .int _]) S hK hD hA hP hS (cX4_areTwo_k_8 ho11) hd_yX4_areTwo ml_X4_74 in_yX4_areTwo (hts _ sl_X4_X4_yX4_areTwo) ⟨rfl, rfl⟩ ⟨by decide, by decide⟩ rfl rfl rfl hl.1 rfl (Nat.le_of_ble_eq_true rfl) ⟨Nat.zero_le _, Nat.zero_le _⟩ dX4_learnNear_21 (fun H locs hP hS => ?_)
              refine lv_if_eq (tgt := 43) hx hb dX4_learnNear_24 (by decide) (fun c14 => ?_) (fun c14 => ?_)
              · replace h := (if_pos c14).symm.trans h
                obtain ⟨v15, hv15, h⟩ := bq_b h
                refine lv_iinc (v := v15) (lv' := [(3, .int v15), (0, .ref (a 8)), (1, .int v6), (2, .int v7)]) hx hb dX4_learnNear_43 hl (k := 3) rfl (by rw [hv15]; rfl) (by decide) rfl (fun ls hl => ?_)
                refine lv_goto (tgt := 12) hx hb dX4_learnNear_46 (by decide) ?_
                cases h
                exact ih _ _ _ _ _ _ _ hw hP hS (lv_sub hl [1, 2, 3, 0] rfl) kx
              · replace h := (if_neg c14).symm.trans h
                refine lv_aload_n hx hb dX4_learnNear_27 rfl (lv_at hl 0 rfl) ?_
                refine lv_iload_n hx hb dX4_learnNear_28 rfl (lv_at hl 1 rfl) ?_
                refine lv_iload_n hx hb dX4_learnNear_29 rfl (lv_at hl 3 rfl) ?_
                obtain ⟨o16, ho16, h⟩ := Option.bind_eq_some_iff.mp h
                obtain ⟨v18, x17⟩ := o16
                replace h := un2_e h
                refine bq_callVi (q0 := 8) (As := [.int _, .int _]) S hK hD hA hP hS (cX4_mayTouch_k_8 ho16) hd_yX4_mayTouch ml_X4_77 in_yX4_mayTouch (hts _ sl_X4_X4_yX4_mayTouch) ⟨rfl, rfl⟩ ⟨by decide, by decide⟩ rfl rfl rfl hl.1 rfl (Nat.le_of_ble_eq_true rfl) ⟨Nat.zero_le _, Nat.zero_le _⟩ dX4_learnNear_30 (fun H locs hP hS => ?_)
                refine lv_if_eq (tgt := 43) hx hb dX4_learnNear_33 (by decide) (fun c19 => ?_) (fun c19 => ?_)
                · replace h := (if_pos c19).symm.trans h
                  obtain ⟨v20, hv20, h⟩ := bq_b h
                  refine lv_iinc (v := v20) (lv' := [(3, .int v20), (0, .ref (a 8)), (1, .int v6), (2, .int v7)]) hx hb dX4_learnNear_43 hl (k := 3) rfl (by rw [hv20]; rfl) (by decide) rfl (fun ls hl => ?_)
                  refine lv_goto (tgt := 12) hx hb dX4_learnNear_46 (by decide) ?_
                  cases h
                  exact ih _ _ _ _ _ _ _ hw hP hS (lv_sub hl [1, 2, 3, 0] rfl) kx
                · replace h := (if_neg c19).symm.trans h
                  refine lv_iload_n hx hb dX4_learnNear_36 rfl (lv_at hl 2 rfl) ?_
                  refine lv_iload_n hx hb dX4_learnNear_37 rfl (lv_at hl 3 rfl) ?_
                  obtain ⟨o21, ho21, h⟩ := Option.bind_eq_some_iff.mp h
                  obtain ⟨v23, x22⟩ := o21
                  replace h := un2_e h
                  refine bq_callSNi (As := [.int _]) S hK hD hA hP hS (cX9_bit_k ho21) hd_yX9_bit mn_X4_70 st_yX9_bit ⟨rfl, rfl⟩ ⟨by decide, by decide⟩ rfl hl.1 rfl (Nat.le_of_ble_eq_true rfl) ⟨Nat.zero_le _, Nat.zero_le _⟩ dX4_learnNear_38 (fun H locs hP hS => ?_)
                  refine lv_ior hx hb dX4_learnNear_41 ?_
                  refine lv_topi (fun v24 hv24 => ?_)
                  replace h := bq_bv h hv24
                  refine lv_istore_n (lv' := [(2, .int v24), (0, .ref (a 8)), (1, .int v6), (3, .int v8)]) hx hb dX4_learnNear_42 rfl hl (by decide) rfl (fun ls hl => ?_)
                  obtain ⟨v25, hv25, h⟩ := bq_b h
                  refine lv_iinc (v := v25) (lv' := [(3, .int v25), (2, .int v24), (0, .ref (a 8)), (1, .int v6)]) hx hb dX4_learnNear_43 hl (k := 3) rfl (by rw [hv25]; rfl) (by decide) rfl (fun ls hl => ?_)
                  refine lv_goto (tgt := 12) hx hb dX4_learnNear_46 (by decide) ?_
                  cases h
                  exact ih _ _ _ _ _ _ _ hw hP hS (lv_sub hl [2, 3, 1, 0] rfl) kx
        obtain ⟨e26, he26, h⟩ := Option.bind_eq_some_iff.mp h
        refine hl12 _ n _ _ _ e26 _ _ _ he26 hP hS (lv_sub hl [2, 3, 1, 0] rfl) (fun H locs ls v27 v28 x29 hz hP hS hl => ?_)
        subst hz
        replace h := un3_e h
        refine lv_aload_n hx hb dX4_learnNear_49 rfl (lv_at hl 0 rfl) ?_
        refine bq_get (q0 := 8) S hK hP fl_X4_37_X4_8 rfl rfl rfl dX4_learnNear_50 ?_
        refine lv_iload_n hx hb dX4_learnNear_53 rfl (lv_at hl 1 rfl) ?_
        refine lv_iload_n hx hb dX4_learnNear_54 rfl (lv_at hl 2 rfl) ?_
        obtain ⟨g31, h⟩ := bq_gd h
        obtain ⟨x30, hx30, h⟩ := bq_b h
        refine bq_iast (x1 := x30) (q0 := 14) (t0 := 0) S hK hD hP hS rfl rfl g31 (by rw [hx30]; rfl) dX4_learnNear_55 (fun H locs hP hS => ?_)
        obtain ⟨v32, hv32, h⟩ := bq_b h
        refine lv_iinc (v := v32) (lv' := [(1, .int v32), (0, .ref (a 8)), (2, .int v27)]) hx hb dX4_learnNear_56 hl (k := 1) rfl (by rw [hv32]; rfl) (by decide) rfl (fun ls hl => ?_)
        refine lv_goto (tgt := 2) hx hb dX4_learnNear_59 (by decide) ?_
        cases h
        exact ih _ _ _ _ _ _ hw hP hS (lv_sub hl [1, 0] rfl) kx
  obtain ⟨e33, he33, h⟩ := Option.bind_eq_some_iff.mp h
  refine hl2 n _ _ e33 _ _ _ he33 hP hS (lv_sub hl [1, 0] rfl) (fun H locs ls v34 x35 hz hP hS hl => ?_)
  subst hz
  replace h := un2_e h
  have e2 := hret _ h
  exact hR _ _ _ _ rfl (by rw [e2]; exact hP) hS dX4_learnNear_62
set_option maxHeartbeats 4000000 in
set_option maxRecDepth 100000 in
theorem cX4_takeBooks_k_8_1 {l : Launch} {D : va_G} {a : Nat → Nat} {k : Nat → ClassId} {n : Nat} {x0 xz : bq_S} (h : fX4_takeBooks n 8 1 x0 = some xz) : bq_M l D bq_cl (bq_ty k) (bq_wC a k) yX4_takeBooks cX4_takeBooks 2 none { frames := 3, cells := 0, slots := 0, locals := 67 } [.ref (a 8), .ref (a 1)] x0 none xz := by
  refine bq_ofWv RX4 [(0, .ref (a 8)), (1, .ref (a 1))] (by decide +kernel) rfl (Nat.le_of_ble_eq_true rfl) rfl (bq_adC a k) ?_
  intro p e s m below meth c A Q ls S hK hD hA hR hS hP hl
  have hx := S.1; have hb := S.2.1; have hml := S.2.2.1; have hown := S.2.2.2.1; have hts := S.2.2.2.2
  have hret : ∀ z, some z = some xz → xz = z := fun z h => (Option.some.inj h).symm
  unfold fX4_takeBooks at h
  refine lv_aload_n hx hb dX4_takeBooks_0 rfl (lv_at hl 0 rfl) ?_
  refine lv_aload_n hx hb dX4_takeBooks_1 rfl (lv_at hl 1 rfl) ?_
  refine bq_get (q0 := 1) S hK hP fl_X4_9_X4_0 rfl rfl rfl dX4_takeBooks_2 ?_
  obtain ⟨x1, hx1, h⟩ := bq_b h
  refine bq_put (x1 := x1) (q0 := 8) (ty := .int) S hK hD hP hS fl_X4_9_X4_0 bt_X4 rfl (by decide +kernel) rfl rfl (Nat.le_of_ble_eq_true rfl) rfl rfl (by rw [hx1]; rfl) dX4_takeBooks_5 (fun H locs hP hS => ?_)
  refine lv_aload_n hx hb dX4_takeBooks_8 rfl (lv_at hl 0 rfl) ?_
  refine lv_aload_n hx hb dX4_takeBooks_9 rfl (lv_at hl 1 rfl) ?_
  refine bq_get (q0 := 1) S hK hP fl_X4_15_X4_1 rfl rfl rfl dX4_takeBooks_10 ?_
  obtain ⟨x2, hx2, h⟩ := bq_b h
  refine bq_put (x1 := x2) (q0 := 8) (ty := .int) S hK hD hP hS fl_X4_15_X4_1 bt_X4 rfl (by decide +kernel) rfl rfl (Nat.le_of_ble_eq_true rfl) rfl rfl (by rw [hx2]; rfl) dX4_takeBooks_13 (fun H locs hP hS => ?_)
  refine lv_aload_n hx hb dX4_takeBooks_16 rfl (lv_at hl 0 rfl) ?_
  refine lv_iconst (v := (0 : Int32)) hx hb dX4_takeBooks_17 (by decide) ?_
  obtain ⟨x3, hx3, h⟩ := bq_b h
  refine bq_put (x1 := x3) (q0 := 8) (ty := .int) S hK hD hP hS fl_X4_18_X4_2 bt_X4 rfl (by decide +kernel) rfl rfl (Nat.le_of_ble_eq_true rfl) rfl rfl (by rw [hx3]; rfl) dX4_takeBooks_18 (fun H locs hP hS => ?_)
  refine lv_aload_n hx hb dX4_takeBooks_21 rfl (lv_at hl 1 rfl) ?_
  refine bq_get (q0 := 1) S hK hP fl_X4_21_X4_3 rfl rfl rfl dX4_takeBooks_22 ?_
  refine lv_iconst (v := (0 : Int32)) hx hb dX4_takeBooks_25 (by decide) ?_
  refine lv_aload_n hx hb dX4_takeBooks_26 rfl (lv_at hl 0 rfl) ?_
  refine bq_get (q0 := 8) S hK hP fl_X4_21_X4_3 rfl rfl rfl dX4_takeBooks_27 ?_
  refine lv_iconst (v := (0 : Int32)) hx hb dX4_takeBooks_30 (by decide) ?_
  refine lv_bipush (v := (8 : Int32)) hx hb dX4_takeBooks_31 (by decide) ?_
  obtain ⟨⟨g41, g42, g43, g44, g45⟩, h⟩ := bq_gp h
  obtain ⟨x5, hx5, h⟩ := bq_b h
  refine va_copyi (D := D) hx hb (hml.trans hl.1.symm) hown (hts _ ml_X4_44) (hts _ acn) (hts _ acs) (hts _ aci) hK hP (hD _) hS 2 9 0 0 rfl rfl rfl rfl rfl g41 g42 g43 g44 g45 (fun _ _ => rfl) (by decide) (by decide +kernel) dX4_takeBooks_33 (fun H locs hP _ hS => ?_)
  replace hP : va_P D bq_cl (bq_wC a k x5) H := by rw [hx5]; exact hP
  refine lv_aload_n hx hb dX4_takeBooks_36 rfl (lv_at hl 1 rfl) ?_
  refine bq_get (q0 := 1) S hK hP fl_X4_25_X4_4 rfl rfl rfl dX4_takeBooks_37 ?_
  refine lv_iconst (v := (0 : Int32)) hx hb dX4_takeBooks_40 (by decide) ?_
  refine lv_aload_n hx hb dX4_takeBooks_41 rfl (lv_at hl 0 rfl) ?_
  refine bq_get (q0 := 8) S hK hP fl_X4_25_X4_4 rfl rfl rfl dX4_takeBooks_42 ?_
  refine lv_iconst (v := (0 : Int32)) hx hb dX4_takeBooks_45 (by decide) ?_
  refine lv_bipush (v := (8 : Int32)) hx hb dX4_takeBooks_46 (by decide) ?_
  obtain ⟨⟨g61, g62, g63, g64, g65⟩, h⟩ := bq_gp h
  obtain ⟨x7, hx7, h⟩ := bq_b h
  refine va_copyi (D := D) hx hb (hml.trans hl.1.symm) hown (hts _ ml_X4_44) (hts _ acn) (hts _ acs) (hts _ aci) hK hP (hD _) hS 3 10 0 0 rfl rfl rfl rfl rfl g61 g62 g63 g64 g65 (fun _ _ => rfl) (by decide) (by decide +kernel) dX4_takeBooks_48 (fun H locs hP _ hS => ?_)
  replace hP : va_P D bq_cl (bq_wC a k x7) H := by rw [hx7]; exact hP
  refine lv_aload_n hx hb dX4_takeBooks_51 rfl (lv_at hl 0 rfl) ?_
  refine bq_get (q0 := 8) S hK hP fl_X4_28_X4_5 rfl rfl rfl dX4_takeBooks_52 ?_
  refine lv_iconst (v := (0 : Int32)) hx hb dX4_takeBooks_55 (by decide) ?_
  obtain ⟨x9, ho8, h⟩ := Option.bind_eq_some_iff.mp h
  refine bq_callSv (As := [.ref (a 11), .int _]) S hK hD hA hP hS (cJ7_fill_k_11 ho8) hd_yJ7_fill_53178 ml_X4_57 st_yJ7_fill_53178 ⟨rfl, rfl⟩ ⟨by decide, by decide⟩ rfl hl.1 rfl (Nat.le_of_ble_eq_true rfl) ⟨Nat.zero_le _, Nat.zero_le _⟩ dX4_takeBooks_56 (fun H locs hP hS => ?_)
  refine lv_aload_n hx hb dX4_takeBooks_59 rfl (lv_at hl 0 rfl) ?_
  obtain ⟨x11, ho10, h⟩ := Option.bind_eq_some_iff.mp h
  refine bq_callVv (q0 := 8) (As := []) S hK hD hA hP hS (cX4_learnNear_k_8 ho10) hd_yX4_learnNear ml_X4_54 in_yX4_learnNear (hts _ sl_X4_X4_yX4_learnNear) ⟨rfl, rfl⟩ ⟨by decide, by decide⟩ rfl rfl rfl hl.1 rfl (Nat.le_of_ble_eq_true rfl) ⟨Nat.zero_le _, Nat.zero_le _⟩ dX4_takeBooks_60 (fun H locs hP hS => ?_)
  have e2 := hret _ h
  exact hR _ _ _ _ rfl (by rw [e2]; exact hP) hS dX4_takeBooks_63
set_option maxHeartbeats 4000000 in
set_option maxRecDepth 100000 in
theorem cX4_takeHall_k_8_6 {l : Launch} {D : va_G} {a : Nat → Nat} {k : Nat → ClassId} {p2 : Int32} {x0 xz : bq_S} (h : fX4_takeHall  8 6 8 p2 x0 = some xz) : bq_M l D bq_cl (bq_ty k) (bq_wC a k) yX4_takeHall cX4_takeHall 3 none { frames := 1, cells := 0, slots := 0, locals := 60 } [.ref (a 8), .ref (a 6), .int p2] x0 none xz := by
  refine bq_ofWv RX4 [(0, .ref (a 8)), (1, .ref (a 6)), (2, .int p2)] (by decide +kernel) rfl (Nat.le_of_ble_eq_true rfl) rfl (bq_adC a k) ?_
  intro p e s m below meth c A Q ls S hK hD hA hR hS hP hl
  have hx := S.1; have hb := S.2.1; have hml := S.2.2.1; have hown := S.2.2.2.1; have hts := S.2.2.2.2
  have hret : ∀ z, some z = some xz → xz = z := fun z h => (Option.some.inj h).symm
  unfold fX4_takeHall at h
  refine lv_aload_n hx hb dX4_takeHall_0 rfl (lv_at hl 1 rfl) ?_
  refine lv_iconst (v := (0 : Int32)) hx hb dX4_takeHall_1 (by decide) ?_
  refine lv_aload_n hx hb dX4_takeHall_2 rfl (lv_at hl 0 rfl) ?_
  refine bq_get (q0 := 8) S hK hP fl_X4_34_X4_7 rfl rfl rfl dX4_takeHall_3 ?_
  refine lv_iconst (v := (0 : Int32)) hx hb dX4_takeHall_6 (by decide) ?_
  refine lv_iload_n hx hb dX4_takeHall_7 rfl (lv_at hl 2 rfl) ?_
  obtain ⟨⟨g11, g12, g13, g14, g15⟩, h⟩ := bq_gp h
  obtain ⟨x2, hx2, h⟩ := bq_b h
  refine va_copyi (D := D) hx hb (hml.trans hl.1.symm) hown (hts _ ml_X4_44) (hts _ acn) (hts _ acs) (hts _ aci) hK hP (hD _) hS 6 13 0 0 rfl rfl rfl rfl rfl g11 g12 g13 g14 g15 (fun _ _ => rfl) (by decide) (by decide +kernel) dX4_takeHall_8 (fun H locs hP _ hS => ?_)
  replace hP : va_P D bq_cl (bq_wC a k x2) H := by rw [hx2]; exact hP
  refine lv_aload_n hx hb dX4_takeHall_11 rfl (lv_at hl 0 rfl) ?_
  refine lv_iload_n hx hb dX4_takeHall_12 rfl (lv_at hl 2 rfl) ?_
  obtain ⟨x3, hx3, h⟩ := bq_b h
  refine bq_put (x1 := x3) (q0 := 8) (ty := .int) S hK hD hP hS fl_X4_18_X4_2 bt_X4 rfl (by decide +kernel) rfl rfl (Nat.le_of_ble_eq_true rfl) rfl rfl (by rw [hx3]; rfl) dX4_takeHall_13 (fun H locs hP hS => ?_)
  have e2 := hret _ h
  exact hR _ _ _ _ rfl (by rw [e2]; exact hP) hS dX4_takeHall_16
def fX4_become (n : Nat) (q0 : Nat) (q1 : Nat) (x0 : bq_S) : Option (bq_S) :=
  (fX4_takeBooks n q0 q1 x0).bind (fun x2 =>
  if ¬ (0 : Int32) < 0 ∧ ¬ (0 : Int32) < 0 ∧ ¬ (8 : Int32) < 0 ∧ (0 : Int32).toNatClampNeg + (8 : Int32).toNatClampNeg ≤ 8 ∧ (0 : Int32).toNatClampNeg + (8 : Int32).toNatClampNeg ≤ 8 then
  bd (bq_cI x2 (q1 + 3) (q0 + 3) (0 : Int32).toNatClampNeg (0 : Int32).toNatClampNeg (8 : Int32).toNatClampNeg) (fun x4 =>
  if ¬ (0 : Int32) < 0 ∧ ¬ (0 : Int32) < 0 ∧ ¬ (2 : Int32) < 0 ∧ (0 : Int32).toNatClampNeg + (2 : Int32).toNatClampNeg ≤ 2 ∧ (0 : Int32).toNatClampNeg + (2 : Int32).toNatClampNeg ≤ 2 then
  bd (bq_cI x4 (q1 + 4) (q0 + 4) (0 : Int32).toNatClampNeg (0 : Int32).toNatClampNeg (2 : Int32).toNatClampNeg) (fun x6 =>
  (fX4_takeHall q0 (q1 + 5) 8 (x6.1 q1 2) x6).bind (fun x8 =>
  (fX4_learnNear n q0 x8).bind (fun x10 =>
  some x10)))
  else none)
  else none)
theorem dX4_become_0 : decode cX4_become 0 = .ok (.aload_n 0, 1) := by decide +kernel
theorem dX4_become_1 : decode cX4_become 1 = .ok (.aload_n 1, 1) := by decide +kernel
theorem dX4_become_2 : decode cX4_become 2 = .ok (.invokevirtual 40, 3) := by decide +kernel
theorem dX4_become_5 : decode cX4_become 5 = .ok (.aload_n 1, 1) := by decide +kernel
theorem dX4_become_6 : decode cX4_become 6 = .ok (.getfield 28, 3) := by decide +kernel
theorem dX4_become_9 : decode cX4_become 9 = .ok (.iconst 0, 1) := by decide +kernel
theorem dX4_become_10 : decode cX4_become 10 = .ok (.aload_n 0, 1) := by decide +kernel
theorem dX4_become_11 : decode cX4_become 11 = .ok (.getfield 28, 3) := by decide +kernel
theorem dX4_become_14 : decode cX4_become 14 = .ok (.iconst 0, 1) := by decide +kernel
theorem dX4_become_15 : decode cX4_become 15 = .ok (.bipush 8, 2) := by decide +kernel
theorem dX4_become_17 : decode cX4_become 17 = .ok (.invokestatic 44, 3) := by decide +kernel
theorem dX4_become_20 : decode cX4_become 20 = .ok (.aload_n 1, 1) := by decide +kernel
theorem dX4_become_21 : decode cX4_become 21 = .ok (.getfield 31, 3) := by decide +kernel
theorem dX4_become_24 : decode cX4_become 24 = .ok (.iconst 0, 1) := by decide +kernel
theorem dX4_become_25 : decode cX4_become 25 = .ok (.aload_n 0, 1) := by decide +kernel
theorem dX4_become_26 : decode cX4_become 26 = .ok (.getfield 31, 3) := by decide +kernel
theorem dX4_become_29 : decode cX4_become 29 = .ok (.iconst 0, 1) := by decide +kernel
theorem dX4_become_30 : decode cX4_become 30 = .ok (.iconst 2, 1) := by decide +kernel
theorem dX4_become_31 : decode cX4_become 31 = .ok (.invokestatic 44, 3) := by decide +kernel
theorem dX4_become_34 : decode cX4_become 34 = .ok (.aload_n 0, 1) := by decide +kernel
theorem dX4_become_35 : decode cX4_become 35 = .ok (.aload_n 1, 1) := by decide +kernel
theorem dX4_become_36 : decode cX4_become 36 = .ok (.getfield 34, 3) := by decide +kernel
theorem dX4_become_39 : decode cX4_become 39 = .ok (.aload_n 1, 1) := by decide +kernel
theorem dX4_become_40 : decode cX4_become 40 = .ok (.getfield 18, 3) := by decide +kernel
theorem dX4_become_43 : decode cX4_become 43 = .ok (.invokevirtual 50, 3) := by decide +kernel
theorem dX4_become_46 : decode cX4_become 46 = .ok (.aload_n 0, 1) := by decide +kernel
theorem dX4_become_47 : decode cX4_become 47 = .ok (.invokevirtual 54, 3) := by decide +kernel
theorem dX4_become_50 : decode cX4_become 50 = .ok (.return_, 1) := by decide +kernel
set_option maxHeartbeats 4000000 in
set_option maxRecDepth 100000 in
theorem cX4_become_k_8_1 {l : Launch} {D : va_G} {a : Nat → Nat} {k : Nat → ClassId} {n : Nat} {x0 xz : bq_S} (h : fX4_become n 8 1 x0 = some xz) : bq_M l D bq_cl (bq_ty k) (bq_wC a k) yX4_become cX4_become 2 none { frames := 4, cells := 0, slots := 0, locals := 88 } [.ref (a 8), .ref (a 1)] x0 none xz := by
  refine bq_ofWv RX4 [(0, .ref (a 8)), (1, .ref (a 1))] (by decide +kernel) rfl (Nat.le_of_ble_eq_true rfl) rfl (bq_adC a k) ?_
  intro p e s m below meth c A Q ls S hK hD hA hR hS hP hl
  have hx := S.1; have hb := S.2.1; have hml := S.2.2.1; have hown := S.2.2.2.1; have hts := S.2.2.2.2
  have hret : ∀ z, some z = some xz → xz = z := fun z h => (Option.some.inj h).symm
  unfold fX4_become at h
  refine lv_aload_n hx hb dX4_become_0 rfl (lv_at hl 0 rfl) ?_
  refine lv_aload_n hx hb dX4_become_1 rfl (lv_at hl 1 rfl) ?_
  obtain ⟨x2, ho1, h⟩ := Option.bind_eq_some_iff.mp h
  refine bq_callVv (q0 := 8) (As := [.ref (a 1)]) S hK hD hA hP hS (cX4_takeBooks_k_8_1 ho1) hd_yX4_takeBooks ml_X4_40 in_yX4_takeBooks (hts _ sl_X4_X4_yX4_takeBooks) ⟨rfl, rfl⟩ ⟨by decide, by decide⟩ rfl rfl rfl hl.1 rfl (Nat.le_of_ble_eq_true rfl) ⟨Nat.zero_le _, Nat.zero_le _⟩ dX4_become_2 (fun H locs hP hS => ?_)
  refine lv_aload_n hx hb dX4_become_5 rfl (lv_at hl 1 rfl) ?_
  refine bq_get (q0 := 1) S hK hP fl_X4_28_X4_5 rfl rfl rfl dX4_become_6 ?_
  refine lv_iconst (v := (0 : Int32)) hx hb dX4_become_9 (by decide) ?_
  refine lv_aload_n hx hb dX4_become_10 rfl (lv_at hl 0 rfl) ?_
  refine bq_get (q0 := 8) S hK hP fl_X4_28_X4_5 rfl rfl rfl dX4_become_11 ?_
  refine lv_iconst (v := (0 : Int32)) hx hb dX4_become_14 (by decide) ?_
  refine lv_bipush (v := (8 : Int32)) hx hb dX4_become_15 (by decide) ?_
  obtain ⟨⟨g31, g32, g33, g34, g35⟩, h⟩ := bq_gp h
  obtain ⟨x4, hx4, h⟩ := bq_b h
  refine va_copyi (D := D) hx hb (hml.trans hl.1.symm) hown (hts _ ml_X4_44) (hts _ acn) (hts _ acs) (hts _ aci) hK hP (hD _) hS 4 11 0 0 rfl rfl rfl rfl rfl g31 g32 g33 g34 g35 (fun _ _ => rfl) (by decide) (by decide +kernel) dX4_become_17 (fun H locs hP _ hS => ?_)
  replace hP : va_P D bq_cl (bq_wC a k x4) H := by rw [hx4]; exact hP
  refine lv_aload_n hx hb dX4_become_20 rfl (lv_at hl 1 rfl) ?_
  refine bq_get (q0 := 1) S hK hP fl_X4_31_X4_6 rfl rfl rfl dX4_become_21 ?_
  refine lv_iconst (v := (0 : Int32)) hx hb dX4_become_24 (by decide) ?_
  refine lv_aload_n hx hb dX4_become_25 rfl (lv_at hl 0 rfl) ?_
  refine bq_get (q0 := 8) S hK hP fl_X4_31_X4_6 rfl rfl rfl dX4_become_26 ?_
  refine lv_iconst (v := (0 : Int32)) hx hb dX4_become_29 (by decide) ?_
  refine lv_iconst (v := (2 : Int32)) hx hb dX4_become_30 (by decide) ?_
  obtain ⟨⟨g51, g52, g53, g54, g55⟩, h⟩ := bq_gp h
  obtain ⟨x6, hx6, h⟩ := bq_b h
  refine va_copyi (D := D) hx hb (hml.trans hl.1.symm) hown (hts _ ml_X4_44) (hts _ acn) (hts _ acs) (hts _ aci) hK hP (hD _) hS 5 12 0 0 rfl rfl rfl rfl rfl g51 g52 g53 g54 g55 (fun _ _ => rfl) (by decide) (by decide +kernel) dX4_become_31 (fun H locs hP _ hS => ?_)
  replace hP : va_P D bq_cl (bq_wC a k x6) H := by rw [hx6]; exact hP
  refine lv_aload_n hx hb dX4_become_34 rfl (lv_at hl 0 rfl) ?_
  refine lv_aload_n hx hb dX4_become_35 rfl (lv_at hl 1 rfl) ?_
  refine bq_get (q0 := 1) S hK hP fl_X4_34_X4_7 rfl rfl rfl dX4_become_36 ?_
  refine lv_aload_n hx hb dX4_become_39 rfl (lv_at hl 1 rfl) ?_
  refine bq_get (q0 := 1) S hK hP fl_X4_18_X4_2 rfl rfl rfl dX4_become_40 ?_
  obtain ⟨x8, ho7, h⟩ := Option.bind_eq_some_iff.mp h
  refine bq_callVv (q0 := 8) (As := [.ref (a 6), .int _]) S hK hD hA hP hS (cX4_takeHall_k_8_6 ho7) hd_yX4_takeHall ml_X4_50 in_yX4_takeHall (hts _ sl_X4_X4_yX4_takeHall) ⟨rfl, rfl⟩ ⟨by decide, by decide⟩ rfl rfl rfl hl.1 rfl (Nat.le_of_ble_eq_true rfl) ⟨Nat.zero_le _, Nat.zero_le _⟩ dX4_become_43 (fun H locs hP hS => ?_)
  refine lv_aload_n hx hb dX4_become_46 rfl (lv_at hl 0 rfl) ?_
  obtain ⟨x10, ho9, h⟩ := Option.bind_eq_some_iff.mp h
  refine bq_callVv (q0 := 8) (As := []) S hK hD hA hP hS (cX4_learnNear_k_8 ho9) hd_yX4_learnNear ml_X4_54 in_yX4_learnNear (hts _ sl_X4_X4_yX4_learnNear) ⟨rfl, rfl⟩ ⟨by decide, by decide⟩ rfl rfl rfl hl.1 rfl (Nat.le_of_ble_eq_true rfl) ⟨Nat.zero_le _, Nat.zero_le _⟩ dX4_become_47 (fun H locs hP hS => ?_)
  have e2 := hret _ h
  exact hR _ _ _ _ rfl (by rw [e2]; exact hP) hS dX4_become_50
def fX9_image (n : Nat) (x0 : bq_S) : Option (Int32 × bq_S) :=
  (fX4_become n 8 1 x0).bind (fun x2 =>
  bd (bq_sI x2 0 11 (1 : Int32)) (fun x3 =>
  some ((1 : Int32), x3)))
theorem dX9_image_0 : decode cX9_image 0 = .ok (.aload_n 0, 1) := by decide +kernel
theorem dX9_image_1 : decode cX9_image 1 = .ok (.getfield 16, 3) := by decide +kernel
theorem dX9_image_4 : decode cX9_image 4 = .ok (.aload_n 0, 1) := by decide +kernel
theorem dX9_image_5 : decode cX9_image 5 = .ok (.getfield 10, 3) := by decide +kernel
theorem dX9_image_8 : decode cX9_image 8 = .ok (.invokevirtual 230, 3) := by decide +kernel
theorem dX9_image_11 : decode cX9_image 11 = .ok (.aload_n 0, 1) := by decide +kernel
theorem dX9_image_12 : decode cX9_image 12 = .ok (.iconst 1, 1) := by decide +kernel
theorem dX9_image_13 : decode cX9_image 13 = .ok (.putfield 79, 3) := by decide +kernel
theorem dX9_image_16 : decode cX9_image 16 = .ok (.iconst 1, 1) := by decide +kernel
theorem dX9_image_17 : decode cX9_image 17 = .ok (.ireturn, 1) := by decide +kernel
set_option maxHeartbeats 4000000 in
set_option maxRecDepth 100000 in
theorem cX9_image_k_0 {l : Launch} {D : va_G} {a : Nat → Nat} {k : Nat → ClassId} {n : Nat} {x0 xz : bq_S} {rz : Int32} (h : fX9_image n  x0 = some (rz, xz)) : bq_M l D bq_cl (bq_ty k) (bq_wC a k) yX9_image cX9_image 1 (some .int) { frames := 5, cells := 0, slots := 0, locals := 109 } [.ref (a 0)] x0 (some rz) xz := by
  refine bq_ofW RX9 [(0, .ref (a 0))] (by decide +kernel) rfl (Nat.le_of_ble_eq_true rfl) rfl (bq_adC a k) ?_
  intro p e s m below meth c A Q ls S hK hD hA hR hS hP hl
  have hx := S.1; have hb := S.2.1; have hml := S.2.2.1; have hown := S.2.2.2.1; have hts := S.2.2.2.2
  have hret : ∀ z, some z = some (rz, xz) → (rz, xz) = z := fun z h => (Option.some.inj h).symm
  unfold fX9_image at h
  refine lv_aload_n hx hb dX9_image_0 rfl (lv_at hl 0 rfl) ?_
  refine bq_get (q0 := 0) S hK hP fl_X9_16_X9_1 rfl rfl rfl dX9_image_1 ?_
  refine lv_aload_n hx hb dX9_image_4 rfl (lv_at hl 0 rfl) ?_
  refine bq_get (q0 := 0) S hK hP fl_X9_10_X9_0 rfl rfl rfl dX9_image_5 ?_
  obtain ⟨x2, ho1, h⟩ := Option.bind_eq_some_iff.mp h
  refine bq_callVv (q0 := 8) (As := [.ref (a 1)]) S hK hD hA hP hS (cX4_become_k_8_1 ho1) hd_yX4_become ml_X9_230 in_yX4_become (hts _ sl_X4_X4_yX4_become) ⟨rfl, rfl⟩ ⟨by decide, by decide⟩ rfl rfl rfl hl.1 rfl (Nat.le_of_ble_eq_true rfl) ⟨Nat.zero_le _, Nat.zero_le _⟩ dX9_image_8 (fun H locs hP hS => ?_)
  refine lv_aload_n hx hb dX9_image_11 rfl (lv_at hl 0 rfl) ?_
  refine lv_iconst (v := (1 : Int32)) hx hb dX9_image_12 (by decide) ?_
  obtain ⟨x3, hx3, h⟩ := bq_b h
  refine bq_put (x1 := x3) (q0 := 0) (ty := .boolean) S hK hD hP hS fl_X9_79_X9_11 bt_X9 rfl (by decide +kernel) rfl rfl (Nat.le_of_ble_eq_true rfl) rfl rfl (by rw [hx3]; rfl) dX9_image_13 (fun H locs hP hS => ?_)
  refine lv_iconst (v := (1 : Int32)) hx hb dX9_image_16 (by decide) ?_
  obtain ⟨e1, e2⟩ := Prod.mk.inj (hret _ h)
  exact hR _ _ _ _ _ (congrArg some e1) rfl (by rw [e2]; exact hP) hS dX9_image_17
set_option maxHeartbeats 4000000 in
set_option maxRecDepth 100000 in
theorem cX4_takeBooks_k_1_8 {l : Launch} {D : va_G} {a : Nat → Nat} {k : Nat → ClassId} {n : Nat} {x0 xz : bq_S} (h : fX4_takeBooks n 1 8 x0 = some xz) : bq_M l D bq_cl (bq_ty k) (bq_wC a k) yX4_takeBooks cX4_takeBooks 2 none { frames := 3, cells := 0, slots := 0, locals := 67 } [.ref (a 1), .ref (a 8)] x0 none xz := by
  refine bq_ofWv RX4 [(0, .ref (a 1)), (1, .ref (a 8))] (by decide +kernel) rfl (Nat.le_of_ble_eq_true rfl) rfl (bq_adC a k) ?_
  intro p e s m below meth c A Q ls S hK hD hA hR hS hP hl
  have hx := S.1; have hb := S.2.1; have hml := S.2.2.1; have hown := S.2.2.2.1; have hts := S.2.2.2.2
  have hret : ∀ z, some z = some xz → xz = z := fun z h => (Option.some.inj h).symm
  unfold fX4_takeBooks at h
  refine lv_aload_n hx hb dX4_takeBooks_0 rfl (lv_at hl 0 rfl) ?_
  refine lv_aload_n hx hb dX4_takeBooks_1 rfl (lv_at hl 1 rfl) ?_
  refine bq_get (q0 := 8) S hK hP fl_X4_9_X4_0 rfl rfl rfl dX4_takeBooks_2 ?_
  obtain ⟨x1, hx1, h⟩ := bq_b h
  refine bq_put (x1 := x1) (q0 := 1) (ty := .int) S hK hD hP hS fl_X4_9_X4_0 bt_X4 rfl (by decide +kernel) rfl rfl (Nat.le_of_ble_eq_true rfl) rfl rfl (by rw [hx1]; rfl) dX4_takeBooks_5 (fun H locs hP hS => ?_)
  refine lv_aload_n hx hb dX4_takeBooks_8 rfl (lv_at hl 0 rfl) ?_
  refine lv_aload_n hx hb dX4_takeBooks_9 rfl (lv_at hl 1 rfl) ?_
  refine bq_get (q0 := 8) S hK hP fl_X4_15_X4_1 rfl rfl rfl dX4_takeBooks_10 ?_
  obtain ⟨x2, hx2, h⟩ := bq_b h
  refine bq_put (x1 := x2) (q0 := 1) (ty := .int) S hK hD hP hS fl_X4_15_X4_1 bt_X4 rfl (by decide +kernel) rfl rfl (Nat.le_of_ble_eq_true rfl) rfl rfl (by rw [hx2]; rfl) dX4_takeBooks_13 (fun H locs hP hS => ?_)
  refine lv_aload_n hx hb dX4_takeBooks_16 rfl (lv_at hl 0 rfl) ?_
  refine lv_iconst (v := (0 : Int32)) hx hb dX4_takeBooks_17 (by decide) ?_
  obtain ⟨x3, hx3, h⟩ := bq_b h
  refine bq_put (x1 := x3) (q0 := 1) (ty := .int) S hK hD hP hS fl_X4_18_X4_2 bt_X4 rfl (by decide +kernel) rfl rfl (Nat.le_of_ble_eq_true rfl) rfl rfl (by rw [hx3]; rfl) dX4_takeBooks_18 (fun H locs hP hS => ?_)
  refine lv_aload_n hx hb dX4_takeBooks_21 rfl (lv_at hl 1 rfl) ?_
  refine bq_get (q0 := 8) S hK hP fl_X4_21_X4_3 rfl rfl rfl dX4_takeBooks_22 ?_
  refine lv_iconst (v := (0 : Int32)) hx hb dX4_takeBooks_25 (by decide) ?_
  refine lv_aload_n hx hb dX4_takeBooks_26 rfl (lv_at hl 0 rfl) ?_
  refine bq_get (q0 := 1) S hK hP fl_X4_21_X4_3 rfl rfl rfl dX4_takeBooks_27 ?_
  refine lv_iconst (v := (0 : Int32)) hx hb dX4_takeBooks_30 (by decide) ?_
  refine lv_bipush (v := (8 : Int32)) hx hb dX4_takeBooks_31 (by decide) ?_
  obtain ⟨⟨g41, g42, g43, g44, g45⟩, h⟩ := bq_gp h
  obtain ⟨x5, hx5, h⟩ := bq_b h
  refine va_copyi (D := D) hx hb (hml.trans hl.1.symm) hown (hts _ ml_X4_44) (hts _ acn) (hts _ acs) (hts _ aci) hK hP (hD _) hS 9 2 0 0 rfl rfl rfl rfl rfl g41 g42 g43 g44 g45 (fun _ _ => rfl) (by decide) (by decide +kernel) dX4_takeBooks_33 (fun H locs hP _ hS => ?_)
  replace hP : va_P D bq_cl (bq_wC a k x5) H := by rw [hx5]; exact hP
  refine lv_aload_n hx hb dX4_takeBooks_36 rfl (lv_at hl 1 rfl) ?_
  refine bq_get (q0 := 8) S hK hP fl_X4_25_X4_4 rfl rfl rfl dX4_takeBooks_37 ?_
  refine lv_iconst (v := (0 : Int32)) hx hb dX4_takeBooks_40 (by decide) ?_
  refine lv_aload_n hx hb dX4_takeBooks_41 rfl (lv_at hl 0 rfl) ?_
  refine bq_get (q0 := 1) S hK hP fl_X4_25_X4_4 rfl rfl rfl dX4_takeBooks_42 ?_
  refine lv_iconst (v := (0 : Int32)) hx hb dX4_takeBooks_45 (by decide) ?_
  refine lv_bipush (v := (8 : Int32)) hx hb dX4_takeBooks_46 (by decide) ?_
  obtain ⟨⟨g61, g62, g63, g64, g65⟩, h⟩ := bq_gp h
  obtain ⟨x7, hx7, h⟩ := bq_b h
  refine va_copyi (D := D) hx hb (hml.trans hl.1.symm) hown (hts _ ml_X4_44) (hts _ acn) (hts _ acs) (hts _ aci) hK hP (hD _) hS 10 3 0 0 rfl rfl rfl rfl rfl g61 g62 g63 g64 g65 (fun _ _ => rfl) (by decide) (by decide +kernel) dX4_takeBooks_48 (fun H locs hP _ hS => ?_)
  replace hP : va_P D bq_cl (bq_wC a k x7) H := by rw [hx7]; exact hP
  refine lv_aload_n hx hb dX4_takeBooks_51 rfl (lv_at hl 0 rfl) ?_
  refine bq_get (q0 := 1) S hK hP fl_X4_28_X4_5 rfl rfl rfl dX4_takeBooks_52 ?_
  refine lv_iconst (v := (0 : Int32)) hx hb dX4_takeBooks_55 (by decide) ?_
  obtain ⟨x9, ho8, h⟩ := Option.bind_eq_some_iff.mp h
  refine bq_callSv (As := [.ref (a 4), .int _]) S hK hD hA hP hS (cJ7_fill_k_4 ho8) hd_yJ7_fill_53178 ml_X4_57 st_yJ7_fill_53178 ⟨rfl, rfl⟩ ⟨by decide, by decide⟩ rfl hl.1 rfl (Nat.le_of_ble_eq_true rfl) ⟨Nat.zero_le _, Nat.zero_le _⟩ dX4_takeBooks_56 (fun H locs hP hS => ?_)
  refine lv_aload_n hx hb dX4_takeBooks_59 rfl (lv_at hl 0 rfl) ?_
  obtain ⟨x11, ho10, h⟩ := Option.bind_eq_some_iff.mp h
  refine bq_callVv (q0 := 1) (As := []) S hK hD hA hP hS (cX4_learnNear_k_1 ho10) hd_yX4_learnNear ml_X4_54 in_yX4_learnNear (hts _ sl_X4_X4_yX4_learnNear) ⟨rfl, rfl⟩ ⟨by decide, by decide⟩ rfl rfl rfl hl.1 rfl (Nat.le_of_ble_eq_true rfl) ⟨Nat.zero_le _, Nat.zero_le _⟩ dX4_takeBooks_60 (fun H locs hP hS => ?_)
  have e2 := hret _ h
  exact hR _ _ _ _ rfl (by rw [e2]; exact hP) hS dX4_takeBooks_63
set_option maxHeartbeats 4000000 in
set_option maxRecDepth 100000 in
theorem cX4_takeHall_k_1_13 {l : Launch} {D : va_G} {a : Nat → Nat} {k : Nat → ClassId} {p2 : Int32} {x0 xz : bq_S} (h : fX4_takeHall  1 13 8 p2 x0 = some xz) : bq_M l D bq_cl (bq_ty k) (bq_wC a k) yX4_takeHall cX4_takeHall 3 none { frames := 1, cells := 0, slots := 0, locals := 60 } [.ref (a 1), .ref (a 13), .int p2] x0 none xz := by
  refine bq_ofWv RX4 [(0, .ref (a 1)), (1, .ref (a 13)), (2, .int p2)] (by decide +kernel) rfl (Nat.le_of_ble_eq_true rfl) rfl (bq_adC a k) ?_
  intro p e s m below meth c A Q ls S hK hD hA hR hS hP hl
  have hx := S.1; have hb := S.2.1; have hml := S.2.2.1; have hown := S.2.2.2.1; have hts := S.2.2.2.2
  have hret : ∀ z, some z = some xz → xz = z := fun z h => (Option.some.inj h).symm
  unfold fX4_takeHall at h
  refine lv_aload_n hx hb dX4_takeHall_0 rfl (lv_at hl 1 rfl) ?_
  refine lv_iconst (v := (0 : Int32)) hx hb dX4_takeHall_1 (by decide) ?_
  refine lv_aload_n hx hb dX4_takeHall_2 rfl (lv_at hl 0 rfl) ?_
  refine bq_get (q0 := 1) S hK hP fl_X4_34_X4_7 rfl rfl rfl dX4_takeHall_3 ?_
  refine lv_iconst (v := (0 : Int32)) hx hb dX4_takeHall_6 (by decide) ?_
  refine lv_iload_n hx hb dX4_takeHall_7 rfl (lv_at hl 2 rfl) ?_
  obtain ⟨⟨g11, g12, g13, g14, g15⟩, h⟩ := bq_gp h
  obtain ⟨x2, hx2, h⟩ := bq_b h
  refine va_copyi (D := D) hx hb (hml.trans hl.1.symm) hown (hts _ ml_X4_44) (hts _ acn) (hts _ acs) (hts _ aci) hK hP (hD _) hS 13 6 0 0 rfl rfl rfl rfl rfl g11 g12 g13 g14 g15 (fun _ _ => rfl) (by decide) (by decide +kernel) dX4_takeHall_8 (fun H locs hP _ hS => ?_)
  replace hP : va_P D bq_cl (bq_wC a k x2) H := by rw [hx2]; exact hP
  refine lv_aload_n hx hb dX4_takeHall_11 rfl (lv_at hl 0 rfl) ?_
  refine lv_iload_n hx hb dX4_takeHall_12 rfl (lv_at hl 2 rfl) ?_
  obtain ⟨x3, hx3, h⟩ := bq_b h
  refine bq_put (x1 := x3) (q0 := 1) (ty := .int) S hK hD hP hS fl_X4_18_X4_2 bt_X4 rfl (by decide +kernel) rfl rfl (Nat.le_of_ble_eq_true rfl) rfl rfl (by rw [hx3]; rfl) dX4_takeHall_13 (fun H locs hP hS => ?_)
  have e2 := hret _ h
  exact hR _ _ _ _ rfl (by rw [e2]; exact hP) hS dX4_takeHall_16
set_option maxHeartbeats 4000000 in
set_option maxRecDepth 100000 in
theorem cX4_become_k_1_8 {l : Launch} {D : va_G} {a : Nat → Nat} {k : Nat → ClassId} {n : Nat} {x0 xz : bq_S} (h : fX4_become n 1 8 x0 = some xz) : bq_M l D bq_cl (bq_ty k) (bq_wC a k) yX4_become cX4_become 2 none { frames := 4, cells := 0, slots := 0, locals := 88 } [.ref (a 1), .ref (a 8)] x0 none xz := by
  refine bq_ofWv RX4 [(0, .ref (a 1)), (1, .ref (a 8))] (by decide +kernel) rfl (Nat.le_of_ble_eq_true rfl) rfl (bq_adC a k) ?_
  intro p e s m below meth c A Q ls S hK hD hA hR hS hP hl
  have hx := S.1; have hb := S.2.1; have hml := S.2.2.1; have hown := S.2.2.2.1; have hts := S.2.2.2.2
  have hret : ∀ z, some z = some xz → xz = z := fun z h => (Option.some.inj h).symm
  unfold fX4_become at h
  refine lv_aload_n hx hb dX4_become_0 rfl (lv_at hl 0 rfl) ?_
  refine lv_aload_n hx hb dX4_become_1 rfl (lv_at hl 1 rfl) ?_
  obtain ⟨x2, ho1, h⟩ := Option.bind_eq_some_iff.mp h
  refine bq_callVv (q0 := 1) (As := [.ref (a 8)]) S hK hD hA hP hS (cX4_takeBooks_k_1_8 ho1) hd_yX4_takeBooks ml_X4_40 in_yX4_takeBooks (hts _ sl_X4_X4_yX4_takeBooks) ⟨rfl, rfl⟩ ⟨by decide, by decide⟩ rfl rfl rfl hl.1 rfl (Nat.le_of_ble_eq_true rfl) ⟨Nat.zero_le _, Nat.zero_le _⟩ dX4_become_2 (fun H locs hP hS => ?_)
  refine lv_aload_n hx hb dX4_become_5 rfl (lv_at hl 1 rfl) ?_
  refine bq_get (q0 := 8) S hK hP fl_X4_28_X4_5 rfl rfl rfl dX4_become_6 ?_
  refine lv_iconst (v := (0 : Int32)) hx hb dX4_become_9 (by decide) ?_
  refine lv_aload_n hx hb dX4_become_10 rfl (lv_at hl 0 rfl) ?_
  refine bq_get (q0 := 1) S hK hP fl_X4_28_X4_5 rfl rfl rfl dX4_become_11 ?_
  refine lv_iconst (v := (0 : Int32)) hx hb dX4_become_14 (by decide) ?_
  refine lv_bipush (v := (8 : Int32)) hx hb dX4_become_15 (by decide) ?_
  obtain ⟨⟨g31, g32, g33, g34, g35⟩, h⟩ := bq_gp h
  obtain ⟨x4, hx4, h⟩ := bq_b h
  refine va_copyi (D := D) hx hb (hml.trans hl.1.symm) hown (hts _ ml_X4_44) (hts _ acn) (hts _ acs) (hts _ aci) hK hP (hD _) hS 11 4 0 0 rfl rfl rfl rfl rfl g31 g32 g33 g34 g35 (fun _ _ => rfl) (by decide) (by decide +kernel) dX4_become_17 (fun H locs hP _ hS => ?_)
  replace hP : va_P D bq_cl (bq_wC a k x4) H := by rw [hx4]; exact hP
  refine lv_aload_n hx hb dX4_become_20 rfl (lv_at hl 1 rfl) ?_
  refine bq_get (q0 := 8) S hK hP fl_X4_31_X4_6 rfl rfl rfl dX4_become_21 ?_
  refine lv_iconst (v := (0 : Int32)) hx hb dX4_become_24 (by decide) ?_
  refine lv_aload_n hx hb dX4_become_25 rfl (lv_at hl 0 rfl) ?_
  refine bq_get (q0 := 1) S hK hP fl_X4_31_X4_6 rfl rfl rfl dX4_become_26 ?_
  refine lv_iconst (v := (0 : Int32)) hx hb dX4_become_29 (by decide) ?_
  refine lv_iconst (v := (2 : Int32)) hx hb dX4_become_30 (by decide) ?_
  obtain ⟨⟨g51, g52, g53, g54, g55⟩, h⟩ := bq_gp h
  obtain ⟨x6, hx6, h⟩ := bq_b h
  refine va_copyi (D := D) hx hb (hml.trans hl.1.symm) hown (hts _ ml_X4_44) (hts _ acn) (hts _ acs) (hts _ aci) hK hP (hD _) hS 12 5 0 0 rfl rfl rfl rfl rfl g51 g52 g53 g54 g55 (fun _ _ => rfl) (by decide) (by decide +kernel) dX4_become_31 (fun H locs hP _ hS => ?_)
  replace hP : va_P D bq_cl (bq_wC a k x6) H := by rw [hx6]; exact hP
  refine lv_aload_n hx hb dX4_become_34 rfl (lv_at hl 0 rfl) ?_
  refine lv_aload_n hx hb dX4_become_35 rfl (lv_at hl 1 rfl) ?_
  refine bq_get (q0 := 8) S hK hP fl_X4_34_X4_7 rfl rfl rfl dX4_become_36 ?_
  refine lv_aload_n hx hb dX4_become_39 rfl (lv_at hl 1 rfl) ?_
  refine bq_get (q0 := 8) S hK hP fl_X4_18_X4_2 rfl rfl rfl dX4_become_40 ?_
  obtain ⟨x8, ho7, h⟩ := Option.bind_eq_some_iff.mp h
  refine bq_callVv (q0 := 1) (As := [.ref (a 13), .int _]) S hK hD hA hP hS (cX4_takeHall_k_1_13 ho7) hd_yX4_takeHall ml_X4_50 in_yX4_takeHall (hts _ sl_X4_X4_yX4_takeHall) ⟨rfl, rfl⟩ ⟨by decide, by decide⟩ rfl rfl rfl hl.1 rfl (Nat.le_of_ble_eq_true rfl) ⟨Nat.zero_le _, Nat.zero_le _⟩ dX4_become_43 (fun H locs hP hS => ?_)
  refine lv_aload_n hx hb dX4_become_46 rfl (lv_at hl 0 rfl) ?_
  obtain ⟨x10, ho9, h⟩ := Option.bind_eq_some_iff.mp h
  refine bq_callVv (q0 := 1) (As := []) S hK hD hA hP hS (cX4_learnNear_k_1 ho9) hd_yX4_learnNear ml_X4_54 in_yX4_learnNear (hts _ sl_X4_X4_yX4_learnNear) ⟨rfl, rfl⟩ ⟨by decide, by decide⟩ rfl rfl rfl hl.1 rfl (Nat.le_of_ble_eq_true rfl) ⟨Nat.zero_le _, Nat.zero_le _⟩ dX4_become_47 (fun H locs hP hS => ?_)
  have e2 := hret _ h
  exact hR _ _ _ _ rfl (by rw [e2]; exact hP) hS dX4_become_50
def fX9_restore (n : Nat) (x0 : bq_S) : Option (Int32 × bq_S) :=
  if (x0.1 0 11) = 0 then
  some ((-4 : Int32), x0)
  else
  (fX4_become n 1 8 x0).bind (fun x3 =>
  some ((1 : Int32), x3))
theorem dX9_restore_0 : decode cX9_restore 0 = .ok (.aload_n 0, 1) := by decide +kernel
theorem dX9_restore_1 : decode cX9_restore 1 = .ok (.getfield 79, 3) := by decide +kernel
theorem dX9_restore_4 : decode cX9_restore 4 = .ok (.ifCond .ne 6, 3) := by decide +kernel
theorem dX9_restore_7 : decode cX9_restore 7 = .ok (.bipush (-4), 2) := by decide +kernel
theorem dX9_restore_9 : decode cX9_restore 9 = .ok (.ireturn, 1) := by decide +kernel
theorem dX9_restore_10 : decode cX9_restore 10 = .ok (.aload_n 0, 1) := by decide +kernel
theorem dX9_restore_11 : decode cX9_restore 11 = .ok (.getfield 10, 3) := by decide +kernel
theorem dX9_restore_14 : decode cX9_restore 14 = .ok (.aload_n 0, 1) := by decide +kernel
theorem dX9_restore_15 : decode cX9_restore 15 = .ok (.getfield 16, 3) := by decide +kernel
theorem dX9_restore_18 : decode cX9_restore 18 = .ok (.invokevirtual 230, 3) := by decide +kernel
theorem dX9_restore_21 : decode cX9_restore 21 = .ok (.iconst 1, 1) := by decide +kernel
theorem dX9_restore_22 : decode cX9_restore 22 = .ok (.ireturn, 1) := by decide +kernel
set_option maxHeartbeats 4000000 in
set_option maxRecDepth 100000 in
theorem cX9_restore_k_0 {l : Launch} {D : va_G} {a : Nat → Nat} {k : Nat → ClassId} {n : Nat} {x0 xz : bq_S} {rz : Int32} (h : fX9_restore n  x0 = some (rz, xz)) : bq_M l D bq_cl (bq_ty k) (bq_wC a k) yX9_restore cX9_restore 1 (some .int) { frames := 5, cells := 0, slots := 0, locals := 109 } [.ref (a 0)] x0 (some rz) xz := by
  refine bq_ofW RX9 [(0, .ref (a 0))] (by decide +kernel) rfl (Nat.le_of_ble_eq_true rfl) rfl (bq_adC a k) ?_
  intro p e s m below meth c A Q ls S hK hD hA hR hS hP hl
  have hx := S.1; have hb := S.2.1; have hml := S.2.2.1; have hown := S.2.2.2.1; have hts := S.2.2.2.2
  have hret : ∀ z, some z = some (rz, xz) → (rz, xz) = z := fun z h => (Option.some.inj h).symm
  unfold fX9_restore at h
  refine lv_aload_n hx hb dX9_restore_0 rfl (lv_at hl 0 rfl) ?_
  refine bq_get (q0 := 0) S hK hP fl_X9_79_X9_11 rfl rfl rfl dX9_restore_1 ?_
  refine lv_if_ne (tgt := 10) hx hb dX9_restore_4 (by decide) (fun c1 => ?_) (fun c1 => ?_)
  · replace h := (if_neg c1).symm.trans h
    refine lv_aload_n hx hb dX9_restore_10 rfl (lv_at hl 0 rfl) ?_
    refine bq_get (q0 := 0) S hK hP fl_X9_10_X9_0 rfl rfl rfl dX9_restore_11 ?_
    refine lv_aload_n hx hb dX9_restore_14 rfl (lv_at hl 0 rfl) ?_
    refine bq_get (q0 := 0) S hK hP fl_X9_16_X9_1 rfl rfl rfl dX9_restore_15 ?_
    obtain ⟨x3, ho2, h⟩ := Option.bind_eq_some_iff.mp h
    refine bq_callVv (q0 := 1) (As := [.ref (a 8)]) S hK hD hA hP hS (cX4_become_k_1_8 ho2) hd_yX4_become ml_X9_230 in_yX4_become (hts _ sl_X4_X4_yX4_become) ⟨rfl, rfl⟩ ⟨by decide, by decide⟩ rfl rfl rfl hl.1 rfl (Nat.le_of_ble_eq_true rfl) ⟨Nat.zero_le _, Nat.zero_le _⟩ dX9_restore_18 (fun H locs hP hS => ?_)
    refine lv_iconst (v := (1 : Int32)) hx hb dX9_restore_21 (by decide) ?_
    obtain ⟨e1, e2⟩ := Prod.mk.inj (hret _ h)
    exact hR _ _ _ _ _ (congrArg some e1) rfl (by rw [e2]; exact hP) hS dX9_restore_22
  · replace h := (if_pos c1).symm.trans h
    refine lv_bipush (v := (-4 : Int32)) hx hb dX9_restore_7 (by decide) ?_
    obtain ⟨e1, e2⟩ := Prod.mk.inj (hret _ h)
    exact hR _ _ _ _ _ (congrArg some e1) rfl (by rw [e2]; exact hP) hS dX9_restore_9
def fX9_isSheet (p0 : Int32) (x0 : bq_S) : Option (Int32 × bq_S) :=
  if p0 < 0 then
  some ((0 : Int32), x0)
  else
  if (4 : Int32) ≤ p0 then
  some ((0 : Int32), x0)
  else
  some ((1 : Int32), x0)
theorem dX9_isSheet_0 : decode cX9_isSheet 0 = .ok (.iload_n 0, 1) := by decide +kernel
theorem dX9_isSheet_1 : decode cX9_isSheet 1 = .ok (.ifCond .lt 12, 3) := by decide +kernel
theorem dX9_isSheet_4 : decode cX9_isSheet 4 = .ok (.iload_n 0, 1) := by decide +kernel
theorem dX9_isSheet_5 : decode cX9_isSheet 5 = .ok (.iconst 4, 1) := by decide +kernel
theorem dX9_isSheet_6 : decode cX9_isSheet 6 = .ok (.if_icmp .ge 7, 3) := by decide +kernel
theorem dX9_isSheet_9 : decode cX9_isSheet 9 = .ok (.iconst 1, 1) := by decide +kernel
theorem dX9_isSheet_10 : decode cX9_isSheet 10 = .ok (.goto 4, 3) := by decide +kernel
theorem dX9_isSheet_13 : decode cX9_isSheet 13 = .ok (.iconst 0, 1) := by decide +kernel
theorem dX9_isSheet_14 : decode cX9_isSheet 14 = .ok (.ireturn, 1) := by decide +kernel
set_option maxHeartbeats 4000000 in
set_option maxRecDepth 100000 in
theorem cX9_isSheet_k {l : Launch} {D : va_G} {a : Nat → Nat} {k : Nat → ClassId} {p0 : Int32} {x0 xz : bq_S} {rz : Int32} (h : fX9_isSheet  p0 x0 = some (rz, xz)) : bq_M l D bq_cl (bq_ty k) (bq_wC a k) yX9_isSheet cX9_isSheet 1 (some .boolean) { frames := 0, cells := 0, slots := 0, locals := 0 } [.int p0] x0 (some rz) xz := by
  refine bq_ofW RX9 [(0, .int p0)] (by decide +kernel) rfl (Nat.le_of_ble_eq_true rfl) rfl (bq_adC a k) ?_
  intro p e s m below meth c A Q ls S hK hD hA hR hS hP hl
  have hx := S.1; have hb := S.2.1; have hml := S.2.2.1; have hown := S.2.2.2.1; have hts := S.2.2.2.2
  have hret : ∀ z, some z = some (rz, xz) → (rz, xz) = z := fun z h => (Option.some.inj h).symm
  unfold fX9_isSheet at h
  refine lv_iload_n hx hb dX9_isSheet_0 rfl (lv_at hl 0 rfl) ?_
  refine lv_if_lt (tgt := 13) hx hb dX9_isSheet_1 (by decide) (fun c1 => ?_) (fun c1 => ?_)
  · replace h := (if_pos c1).symm.trans h
    refine lv_iconst (v := (0 : Int32)) hx hb dX9_isSheet_13 (by decide) ?_
    obtain ⟨e1, e2⟩ := Prod.mk.inj (hret _ h)
    exact hR _ _ _ _ _ (congrArg some e1) rfl (by rw [e2]; exact hP) hS dX9_isSheet_14
  · replace h := (if_neg c1).symm.trans h
    refine lv_iload_n hx hb dX9_isSheet_4 rfl (lv_at hl 0 rfl) ?_
    refine lv_iconst (v := (4 : Int32)) hx hb dX9_isSheet_5 (by decide) ?_
    refine lv_icmp_ge (tgt := 13) hx hb dX9_isSheet_6 (by decide) (fun c2 => ?_) (fun c2 => ?_)
    · replace h := (if_pos c2).symm.trans h
      refine lv_iconst (v := (0 : Int32)) hx hb dX9_isSheet_13 (by decide) ?_
      obtain ⟨e1, e2⟩ := Prod.mk.inj (hret _ h)
      exact hR _ _ _ _ _ (congrArg some e1) rfl (by rw [e2]; exact hP) hS dX9_isSheet_14
    · replace h := (if_neg c2).symm.trans h
      refine lv_iconst (v := (1 : Int32)) hx hb dX9_isSheet_9 (by decide) ?_
      refine lv_goto (tgt := 14) hx hb dX9_isSheet_10 (by decide) ?_
      obtain ⟨e1, e2⟩ := Prod.mk.inj (hret _ h)
      exact hR _ _ _ _ _ (congrArg some e1) rfl (by rw [e2]; exact hP) hS dX9_isSheet_14
def fX9_isLane (p0 : Int32) (x0 : bq_S) : Option (Int32 × bq_S) :=
  if p0 < 0 then
  some ((0 : Int32), x0)
  else
  if (3 : Int32) ≤ p0 then
  some ((0 : Int32), x0)
  else
  some ((1 : Int32), x0)
theorem dX9_isLane_0 : decode cX9_isLane 0 = .ok (.iload_n 0, 1) := by decide +kernel
theorem dX9_isLane_1 : decode cX9_isLane 1 = .ok (.ifCond .lt 12, 3) := by decide +kernel
theorem dX9_isLane_4 : decode cX9_isLane 4 = .ok (.iload_n 0, 1) := by decide +kernel
theorem dX9_isLane_5 : decode cX9_isLane 5 = .ok (.iconst 3, 1) := by decide +kernel
theorem dX9_isLane_6 : decode cX9_isLane 6 = .ok (.if_icmp .ge 7, 3) := by decide +kernel
theorem dX9_isLane_9 : decode cX9_isLane 9 = .ok (.iconst 1, 1) := by decide +kernel
theorem dX9_isLane_10 : decode cX9_isLane 10 = .ok (.goto 4, 3) := by decide +kernel
theorem dX9_isLane_13 : decode cX9_isLane 13 = .ok (.iconst 0, 1) := by decide +kernel
theorem dX9_isLane_14 : decode cX9_isLane 14 = .ok (.ireturn, 1) := by decide +kernel
set_option maxHeartbeats 4000000 in
set_option maxRecDepth 100000 in
theorem cX9_isLane_k {l : Launch} {D : va_G} {a : Nat → Nat} {k : Nat → ClassId} {p0 : Int32} {x0 xz : bq_S} {rz : Int32} (h : fX9_isLane  p0 x0 = some (rz, xz)) : bq_M l D bq_cl (bq_ty k) (bq_wC a k) yX9_isLane cX9_isLane 1 (some .boolean) { frames := 0, cells := 0, slots := 0, locals := 0 } [.int p0] x0 (some rz) xz := by
  refine bq_ofW RX9 [(0, .int p0)] (by decide +kernel) rfl (Nat.le_of_ble_eq_true rfl) rfl (bq_adC a k) ?_
  intro p e s m below meth c A Q ls S hK hD hA hR hS hP hl
  have hx := S.1; have hb := S.2.1; have hml := S.2.2.1; have hown := S.2.2.2.1; have hts := S.2.2.2.2
  have hret : ∀ z, some z = some (rz, xz) → (rz, xz) = z := fun z h => (Option.some.inj h).symm
  unfold fX9_isLane at h
  refine lv_iload_n hx hb dX9_isLane_0 rfl (lv_at hl 0 rfl) ?_
  refine lv_if_lt (tgt := 13) hx hb dX9_isLane_1 (by decide) (fun c1 => ?_) (fun c1 => ?_)
  · replace h := (if_pos c1).symm.trans h
    refine lv_iconst (v := (0 : Int32)) hx hb dX9_isLane_13 (by decide) ?_
    obtain ⟨e1, e2⟩ := Prod.mk.inj (hret _ h)
    exact hR _ _ _ _ _ (congrArg some e1) rfl (by rw [e2]; exact hP) hS dX9_isLane_14
  · replace h := (if_neg c1).symm.trans h
    refine lv_iload_n hx hb dX9_isLane_4 rfl (lv_at hl 0 rfl) ?_
    refine lv_iconst (v := (3 : Int32)) hx hb dX9_isLane_5 (by decide) ?_
    refine lv_icmp_ge (tgt := 13) hx hb dX9_isLane_6 (by decide) (fun c2 => ?_) (fun c2 => ?_)
    · replace h := (if_pos c2).symm.trans h
      refine lv_iconst (v := (0 : Int32)) hx hb dX9_isLane_13 (by decide) ?_
      obtain ⟨e1, e2⟩ := Prod.mk.inj (hret _ h)
      exact hR _ _ _ _ _ (congrArg some e1) rfl (by rw [e2]; exact hP) hS dX9_isLane_14
    · replace h := (if_neg c2).symm.trans h
      refine lv_iconst (v := (1 : Int32)) hx hb dX9_isLane_9 (by decide) ?_
      refine lv_goto (tgt := 14) hx hb dX9_isLane_10 (by decide) ?_
      obtain ⟨e1, e2⟩ := Prod.mk.inj (hret _ h)
      exact hR _ _ _ _ _ (congrArg some e1) rfl (by rw [e2]; exact hP) hS dX9_isLane_14
def fX6_holds (q0 : Nat) (p1 : Int32) (p2 : Int32) (x0 : bq_S) : Option (Int32 × bq_S) :=
  if p1 < 0 then
  some ((0 : Int32), x0)
  else
  if p2 < 0 then
  some ((0 : Int32), x0)
  else
  if ((x0.1 q0 2) - p2) < p1 then
  some ((0 : Int32), x0)
  else
  some ((1 : Int32), x0)
theorem dX6_holds_0 : decode cX6_holds 0 = .ok (.iload_n 1, 1) := by decide +kernel
theorem dX6_holds_1 : decode cX6_holds 1 = .ok (.ifCond .lt 21, 3) := by decide +kernel
theorem dX6_holds_4 : decode cX6_holds 4 = .ok (.iload_n 2, 1) := by decide +kernel
theorem dX6_holds_5 : decode cX6_holds 5 = .ok (.ifCond .lt 17, 3) := by decide +kernel
theorem dX6_holds_8 : decode cX6_holds 8 = .ok (.iload_n 1, 1) := by decide +kernel
theorem dX6_holds_9 : decode cX6_holds 9 = .ok (.aload_n 0, 1) := by decide +kernel
theorem dX6_holds_10 : decode cX6_holds 10 = .ok (.getfield 19, 3) := by decide +kernel
theorem dX6_holds_13 : decode cX6_holds 13 = .ok (.iload_n 2, 1) := by decide +kernel
theorem dX6_holds_14 : decode cX6_holds 14 = .ok (.isub, 1) := by decide +kernel
theorem dX6_holds_15 : decode cX6_holds 15 = .ok (.if_icmp .gt 7, 3) := by decide +kernel
theorem dX6_holds_18 : decode cX6_holds 18 = .ok (.iconst 1, 1) := by decide +kernel
theorem dX6_holds_19 : decode cX6_holds 19 = .ok (.goto 4, 3) := by decide +kernel
theorem dX6_holds_22 : decode cX6_holds 22 = .ok (.iconst 0, 1) := by decide +kernel
theorem dX6_holds_23 : decode cX6_holds 23 = .ok (.ireturn, 1) := by decide +kernel
set_option maxHeartbeats 4000000 in
set_option maxRecDepth 100000 in
theorem cX6_holds_k_34 {l : Launch} {D : va_G} {a : Nat → Nat} {k : Nat → ClassId} {p1 : Int32} {p2 : Int32} {x0 xz : bq_S} {rz : Int32} (h : fX6_holds  34 p1 p2 x0 = some (rz, xz)) : bq_M l D bq_cl (bq_ty k) (bq_wC a k) yX6_holds cX6_holds 3 (some .boolean) { frames := 0, cells := 0, slots := 0, locals := 0 } [.ref (a 34), .int p1, .int p2] x0 (some rz) xz := by
  refine bq_ofW RX6 [(0, .ref (a 34)), (1, .int p1), (2, .int p2)] (by decide +kernel) rfl (Nat.le_of_ble_eq_true rfl) rfl (bq_adC a k) ?_
  intro p e s m below meth c A Q ls S hK hD hA hR hS hP hl
  have hx := S.1; have hb := S.2.1; have hml := S.2.2.1; have hown := S.2.2.2.1; have hts := S.2.2.2.2
  have hret : ∀ z, some z = some (rz, xz) → (rz, xz) = z := fun z h => (Option.some.inj h).symm
  unfold fX6_holds at h
  refine lv_iload_n hx hb dX6_holds_0 rfl (lv_at hl 1 rfl) ?_
  refine lv_if_lt (tgt := 22) hx hb dX6_holds_1 (by decide) (fun c1 => ?_) (fun c1 => ?_)
  · replace h := (if_pos c1).symm.trans h
    refine lv_iconst (v := (0 : Int32)) hx hb dX6_holds_22 (by decide) ?_
    obtain ⟨e1, e2⟩ := Prod.mk.inj (hret _ h)
    exact hR _ _ _ _ _ (congrArg some e1) rfl (by rw [e2]; exact hP) hS dX6_holds_23
  · replace h := (if_neg c1).symm.trans h
    refine lv_iload_n hx hb dX6_holds_4 rfl (lv_at hl 2 rfl) ?_
    refine lv_if_lt (tgt := 22) hx hb dX6_holds_5 (by decide) (fun c2 => ?_) (fun c2 => ?_)
    · replace h := (if_pos c2).symm.trans h
      refine lv_iconst (v := (0 : Int32)) hx hb dX6_holds_22 (by decide) ?_
      obtain ⟨e1, e2⟩ := Prod.mk.inj (hret _ h)
      exact hR _ _ _ _ _ (congrArg some e1) rfl (by rw [e2]; exact hP) hS dX6_holds_23
    · replace h := (if_neg c2).symm.trans h
      refine lv_iload_n hx hb dX6_holds_8 rfl (lv_at hl 1 rfl) ?_
      refine lv_aload_n hx hb dX6_holds_9 rfl (lv_at hl 0 rfl) ?_
      refine bq_get (q0 := 34) S hK hP fl_X6_19_X6_2 rfl rfl rfl dX6_holds_10 ?_
      refine lv_iload_n hx hb dX6_holds_13 rfl (lv_at hl 2 rfl) ?_
      refine lv_isub hx hb dX6_holds_14 ?_
      refine lv_icmp_gt (tgt := 22) hx hb dX6_holds_15 (by decide) (fun c3 => ?_) (fun c3 => ?_)
      · replace h := (if_pos c3).symm.trans h
        refine lv_iconst (v := (0 : Int32)) hx hb dX6_holds_22 (by decide) ?_
        obtain ⟨e1, e2⟩ := Prod.mk.inj (hret _ h)
        exact hR _ _ _ _ _ (congrArg some e1) rfl (by rw [e2]; exact hP) hS dX6_holds_23
      · replace h := (if_neg c3).symm.trans h
        refine lv_iconst (v := (1 : Int32)) hx hb dX6_holds_18 (by decide) ?_
        refine lv_goto (tgt := 23) hx hb dX6_holds_19 (by decide) ?_
        obtain ⟨e1, e2⟩ := Prod.mk.inj (hret _ h)
        exact hR _ _ _ _ _ (congrArg some e1) rfl (by rw [e2]; exact hP) hS dX6_holds_23
def fX9_refusalOf (p1 : Int32) (p2 : Int32) (p3 : Int32) (p4 : Int32) (x0 : bq_S) : Option (Int32 × bq_S) :=
  (fX9_isSheet p1 x0).bind (fun o1 => un2 o1 (fun v3 x2 =>
  if v3 = 0 then
  some ((-1 : Int32), x2)
  else
  (fX9_isLane p2 x2).bind (fun o5 => un2 o5 (fun v7 x6 =>
  if v7 = 0 then
  some ((-1 : Int32), x6)
  else
  if ok_i p1 4 then
  if (x6.1 (34 + 2 * p1.toNatClampNeg) 1) = (-1 : Int32) then
  some ((-11 : Int32), x6)
  else
  if (x6.1 (34 + 2 * p1.toNatClampNeg) 1) = p2 then
  (fX6_holds (34 + 2 * p1.toNatClampNeg) p3 p4 x6).bind (fun o12 => un2 o12 (fun v14 x13 =>
  if v14 = 0 then
  some ((-13 : Int32), x13)
  else
  some ((0 : Int32), x13)))
  else
  some ((-12 : Int32), x6)
  else none))))
theorem dX9_refusalOf_0 : decode cX9_refusalOf 0 = .ok (.iload_n 1, 1) := by decide +kernel
theorem dX9_refusalOf_1 : decode cX9_refusalOf 1 = .ok (.invokestatic 252, 3) := by decide +kernel
theorem dX9_refusalOf_4 : decode cX9_refusalOf 4 = .ok (.ifCond .eq 10, 3) := by decide +kernel
theorem dX9_refusalOf_7 : decode cX9_refusalOf 7 = .ok (.iload_n 2, 1) := by decide +kernel
theorem dX9_refusalOf_8 : decode cX9_refusalOf 8 = .ok (.invokestatic 255, 3) := by decide +kernel
theorem dX9_refusalOf_11 : decode cX9_refusalOf 11 = .ok (.ifCond .ne 5, 3) := by decide +kernel
theorem dX9_refusalOf_14 : decode cX9_refusalOf 14 = .ok (.iconst (-1), 1) := by decide +kernel
theorem dX9_refusalOf_15 : decode cX9_refusalOf 15 = .ok (.ireturn, 1) := by decide +kernel
theorem dX9_refusalOf_16 : decode cX9_refusalOf 16 = .ok (.aload_n 0, 1) := by decide +kernel
theorem dX9_refusalOf_17 : decode cX9_refusalOf 17 = .ok (.getfield 70, 3) := by decide +kernel
theorem dX9_refusalOf_20 : decode cX9_refusalOf 20 = .ok (.iload_n 1, 1) := by decide +kernel
theorem dX9_refusalOf_21 : decode cX9_refusalOf 21 = .ok (.aaload, 1) := by decide +kernel
theorem dX9_refusalOf_22 : decode cX9_refusalOf 22 = .ok (.astore 5, 2) := by decide +kernel
theorem dX9_refusalOf_24 : decode cX9_refusalOf 24 = .ok (.aload 5, 2) := by decide +kernel
theorem dX9_refusalOf_26 : decode cX9_refusalOf 26 = .ok (.getfield 262, 3) := by decide +kernel
theorem dX9_refusalOf_29 : decode cX9_refusalOf 29 = .ok (.iconst (-1), 1) := by decide +kernel
theorem dX9_refusalOf_30 : decode cX9_refusalOf 30 = .ok (.if_icmp .ne 6, 3) := by decide +kernel
theorem dX9_refusalOf_33 : decode cX9_refusalOf 33 = .ok (.bipush (-11), 2) := by decide +kernel
theorem dX9_refusalOf_35 : decode cX9_refusalOf 35 = .ok (.ireturn, 1) := by decide +kernel
theorem dX9_refusalOf_36 : decode cX9_refusalOf 36 = .ok (.aload 5, 2) := by decide +kernel
theorem dX9_refusalOf_38 : decode cX9_refusalOf 38 = .ok (.getfield 262, 3) := by decide +kernel
theorem dX9_refusalOf_41 : decode cX9_refusalOf 41 = .ok (.iload_n 2, 1) := by decide +kernel
theorem dX9_refusalOf_42 : decode cX9_refusalOf 42 = .ok (.if_icmp .eq 6, 3) := by decide +kernel
theorem dX9_refusalOf_45 : decode cX9_refusalOf 45 = .ok (.bipush (-12), 2) := by decide +kernel
theorem dX9_refusalOf_47 : decode cX9_refusalOf 47 = .ok (.ireturn, 1) := by decide +kernel
theorem dX9_refusalOf_48 : decode cX9_refusalOf 48 = .ok (.aload 5, 2) := by decide +kernel
theorem dX9_refusalOf_50 : decode cX9_refusalOf 50 = .ok (.iload_n 3, 1) := by decide +kernel
theorem dX9_refusalOf_51 : decode cX9_refusalOf 51 = .ok (.iload 4, 2) := by decide +kernel
theorem dX9_refusalOf_53 : decode cX9_refusalOf 53 = .ok (.invokevirtual 270, 3) := by decide +kernel
theorem dX9_refusalOf_56 : decode cX9_refusalOf 56 = .ok (.ifCond .eq 7, 3) := by decide +kernel
theorem dX9_refusalOf_59 : decode cX9_refusalOf 59 = .ok (.iconst 0, 1) := by decide +kernel
theorem dX9_refusalOf_60 : decode cX9_refusalOf 60 = .ok (.goto 5, 3) := by decide +kernel
theorem dX9_refusalOf_63 : decode cX9_refusalOf 63 = .ok (.bipush (-13), 2) := by decide +kernel
theorem dX9_refusalOf_65 : decode cX9_refusalOf 65 = .ok (.ireturn, 1) := by decide +kernel
set_option maxHeartbeats 4000000 in
set_option maxRecDepth 100000 in
theorem cX9_refusalOf_k_0_s0 {l : Launch} {D : va_G} {a : Nat → Nat} {k : Nat → ClassId} {p1 : Int32} {p2 : Int32} {p3 : Int32} {p4 : Int32} {x0 xz : bq_S} {rz : Int32} (hkp1 : p1.toNatClampNeg = 0) (h : fX9_refusalOf  p1 p2 p3 p4 x0 = some (rz, xz)) : bq_M l D bq_cl (bq_ty k) (bq_wC a k) yX9_refusalOf cX9_refusalOf 6 (some .int) { frames := 1, cells := 0, slots := 0, locals := 22 } [.ref (a 0), .int p1, .int p2, .int p3, .int p4] x0 (some rz) xz := by
  refine bq_ofW RX9 [(0, .ref (a 0)), (1, .int p1), (2, .int p2), (3, .int p3), (4, .int p4)] (by decide +kernel) rfl (Nat.le_of_ble_eq_true rfl) rfl (bq_adC a k) ?_
  intro p e s m below meth c A Q ls S hK hD hA hR hS hP hl
  have hx := S.1; have hb := S.2.1; have hml := S.2.2.1; have hown := S.2.2.2.1; have hts := S.2.2.2.2
  have hret : ∀ z, some z = some (rz, xz) → (rz, xz) = z := fun z h => (Option.some.inj h).symm
  unfold fX9_refusalOf at h
  refine lv_iload_n hx hb dX9_refusalOf_0 rfl (lv_at hl 1 rfl) ?_
  obtain ⟨o1, ho1, h⟩ := Option.bind_eq_some_iff.mp h
  obtain ⟨v3, x2⟩ := o1
  replace h := un2_e h
  refine bq_callSi (As := [.int _]) S hK hD hA hP hS (cX9_isSheet_k ho1) hd_yX9_isSheet ml_X9_252 st_yX9_isSheet ⟨rfl, rfl⟩ ⟨by decide, by decide⟩ rfl hl.1 rfl (Nat.le_of_ble_eq_true rfl) ⟨Nat.zero_le _, Nat.zero_le _⟩ dX9_refusalOf_1 (fun H locs hP hS => ?_)
  refine lv_if_eq (tgt := 14) hx hb dX9_refusalOf_4 (by decide) (fun c4 => ?_) (fun c4 => ?_)
  · replace h := (if_pos c4).symm.trans h
    refine lv_iconst (v := (-1 : Int32)) hx hb dX9_refusalOf_14 (by decide) ?_
    obtain ⟨e1, e2⟩ := Prod.mk.inj (hret _ h)
    exact hR _ _ _ _ _ (congrArg some e1) rfl (by rw [e2]; exact hP) hS dX9_refusalOf_15
  · replace h := (if_neg c4).symm.trans h
    refine lv_iload_n hx hb dX9_refusalOf_7 rfl (lv_at hl 2 rfl) ?_
    obtain ⟨o5, ho5, h⟩ := Option.bind_eq_some_iff.mp h
    obtain ⟨v7, x6⟩ := o5
    replace h := un2_e h
    refine bq_callSi (As := [.int _]) S hK hD hA hP hS (cX9_isLane_k ho5) hd_yX9_isLane ml_X9_255 st_yX9_isLane ⟨rfl, rfl⟩ ⟨by decide, by decide⟩ rfl hl.1 rfl (Nat.le_of_ble_eq_true rfl) ⟨Nat.zero_le _, Nat.zero_le _⟩ dX9_refusalOf_8 (fun H locs hP hS => ?_)
    refine lv_if_ne (tgt := 16) hx hb dX9_refusalOf_11 (by decide) (fun c8 => ?_) (fun c8 => ?_)
    · replace h := (if_neg c8).symm.trans h
      refine lv_aload_n hx hb dX9_refusalOf_16 rfl (lv_at hl 0 rfl) ?_
      refine bq_get (q0 := 0) S hK hP fl_X9_70_X9_9 rfl rfl rfl dX9_refusalOf_17 ?_
      refine lv_iload_n hx hb dX9_refusalOf_20 rfl (lv_at hl 1 rfl) ?_
      obtain ⟨g9, h⟩ := bq_gd h
      refine va_aldq (D := D) hx hb hK hP 33 3 rfl rfl g9 dX9_refusalOf_21 ?_
      rw [hkp1]
      try rw [hkp1] at h
      refine W.eq (g2 := F0 m 22 ls [.ref (a 34)]) rfl ?_
      refine lv_astore (lv' := [(5, .ref (a 34)), (0, .ref (a 0)), (1, .int p1), (2, .int p2), (3, .int p3), (4, .int p4)]) hx hb dX9_refusalOf_22 hl (by decide) rfl (fun ls hl => ?_)
      refine lv_aload hx hb dX9_refusalOf_24 (lv_at hl 0 rfl) ?_
      refine bq_get (q0 := 34) S hK hP fl_X9_262_X6_1 rfl rfl rfl dX9_refusalOf_26 ?_
      refine lv_iconst (v := (-1 : Int32)) hx hb dX9_refusalOf_29 (by decide) ?_
      refine lv_icmp_ne (tgt := 36) hx hb dX9_refusalOf_30 (by decide) (fun c10 => ?_) (fun c10 => ?_)
      · replace h := (if_neg c10).symm.trans h
        refine lv_aload hx hb dX9_refusalOf_36 (lv_at hl 0 rfl) ?_
        refine bq_get (q0 := 34) S hK hP fl_X9_262_X6_1 rfl rfl rfl dX9_refusalOf_38 ?_
        refine lv_iload_n hx hb dX9_refusalOf_41 rfl (lv_at hl 3 rfl) ?_
        refine lv_icmp_eq (tgt := 48) hx hb dX9_refusalOf_42 (by decide) (fun c11 => ?_) (fun c11 => ?_)
        · replace h := (if_pos c11).symm.trans h
          refine lv_aload hx hb dX9_refusalOf_48 (lv_at hl 0 rfl) ?_
          refine lv_iload_n hx hb dX9_refusalOf_50 rfl (lv_at hl 4 rfl) ?_
          refine lv_iload hx hb dX9_refusalOf_51 (lv_at hl 5 rfl) ?_
          obtain ⟨o12, ho12, h⟩ := Option.bind_eq_some_iff.mp h
          obtain ⟨v14, x13⟩ := o12
          replace h := un2_e h
          refine bq_callVi (q0 := 34) (As := [.int _, .int _]) S hK hD hA hP hS (cX6_holds_k_34 ho12) hd_yX6_holds ml_X9_270 in_yX6_holds (hts _ sl_X6_X6_yX6_holds) ⟨rfl, rfl⟩ ⟨by decide, by decide⟩ rfl rfl rfl hl.1 rfl (Nat.le_of_ble_eq_true rfl) ⟨Nat.zero_le _, Nat.zero_le _⟩ dX9_refusalOf_53 (fun H locs hP hS => ?_)
          refine lv_if_eq (tgt := 63) hx hb dX9_refusalOf_56 (by decide) (fun c15 => ?_) (fun c15 => ?_)
          · replace h := (if_pos c15).symm.trans h
            refine lv_bipush (v := (-13 : Int32)) hx hb dX9_refusalOf_63 (by decide) ?_
            obtain ⟨e1, e2⟩ := Prod.mk.inj (hret _ h)
            exact hR _ _ _ _ _ (congrArg some e1) rfl (by rw [e2]; exact hP) hS dX9_refusalOf_65
          · replace h := (if_neg c15).symm.trans h
            refine lv_iconst (v := (0 : Int32)) hx hb dX9_refusalOf_59 (by decide) ?_
            refine lv_goto (tgt := 65) hx hb dX9_refusalOf_60 (by decide) ?_
            obtain ⟨e1, e2⟩ := Prod.mk.inj (hret _ h)
            exact hR _ _ _ _ _ (congrArg some e1) rfl (by rw [e2]; exact hP) hS dX9_refusalOf_65
        · replace h := (if_neg c11).symm.trans h
          refine lv_bipush (v := (-12 : Int32)) hx hb dX9_refusalOf_45 (by decide) ?_
          obtain ⟨e1, e2⟩ := Prod.mk.inj (hret _ h)
          exact hR _ _ _ _ _ (congrArg some e1) rfl (by rw [e2]; exact hP) hS dX9_refusalOf_47
      · replace h := (if_pos c10).symm.trans h
        refine lv_bipush (v := (-11 : Int32)) hx hb dX9_refusalOf_33 (by decide) ?_
        obtain ⟨e1, e2⟩ := Prod.mk.inj (hret _ h)
        exact hR _ _ _ _ _ (congrArg some e1) rfl (by rw [e2]; exact hP) hS dX9_refusalOf_35
    · replace h := (if_pos c8).symm.trans h
      refine lv_iconst (v := (-1 : Int32)) hx hb dX9_refusalOf_14 (by decide) ?_
      obtain ⟨e1, e2⟩ := Prod.mk.inj (hret _ h)
      exact hR _ _ _ _ _ (congrArg some e1) rfl (by rw [e2]; exact hP) hS dX9_refusalOf_15
