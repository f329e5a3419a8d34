def fX7_readHall_b13 (n : Nat) (v2 : Int32) (r3 : Nat) (lb4 : Nat) (v : Int32 × Int32 × Int32 × bq_S) : Option ((Int32 × Int32 × Int32 × bq_S) ⊕ (Int32 × Int32 × Int32 × bq_S)) :=
  un4 v (fun v5 v6 v7 x8 =>
  if (8 : Int32) ≤ v7 then
  some (.inr (v5, v6, v7, x8))
  else
  (fX7_look n  x8).bind (fun o10 => un2 o10 (fun v12 x11 =>
  bd (v12 - (48 : Int32)) (fun v13 =>
  if v13 < 0 then
  some (.inr (v5, v6, v7, x11))
  else
  if v2 ≤ v13 then
  some (.inr (v5, v6, v7, x11))
  else
  (fX9_has v5 v13 x11).bind (fun o16 => un2 o16 (fun v18 x17 =>
  if v18 = 0 then
  (fX9_bit v13 x17).bind (fun o20 => un2 o20 (fun v22 x21 =>
  bd (v5 ||| v22) (fun v23 =>
  if ok_i v6 lb4 then
  bd (bq_sI x21 r3 v6.toNatClampNeg v13) (fun x24 =>
  bd (v6 + (1 : Int32)) (fun v26 =>
  bd (bq_sI x24 22 3 ((x24.1 22 3) + (1 : Int32))) (fun x27 =>
  bd (v7 + (1 : Int32)) (fun v28 =>
  some (.inl (v23, v26, v28, x27))))))
  else none)))
  else
  some (.inr (v5, v6, v7, x17))))))))
def fX7_readHall_j85 (n : Nat) (v34 : Int32) (x35 : bq_S) : Option (Int32 × bq_S) :=
  (fX7_look n  x35).bind (fun o36 => un2 o36 (fun v38 x37 =>
  if v38 = (-1 : Int32) then
  some (v34, x37)
  else
  some (((-20 : Int32) - (x37.1 22 3)), x37)))
def fX7_readHall (n : Nat) (p1 : Int32) (q2 : Nat) (la2 : Nat) (x0 : bq_S) : Option (Int32 × bq_S) :=
  bd (bq_sI x0 22 3 (0 : Int32)) (fun x1 =>
  (wh n (fX7_readHall_b13 n p1 q2 la2) ((0 : Int32), (0 : Int32), (0 : Int32), x1)).bind (fun e29 => un4 e29 (fun v30 v31 v32 x33 =>
  fX7_readHall_j85 n v31 x33)))
theorem dX7_readHall_0 : decode cX7_readHall 0 = .ok (.iconst 0, 1) := by decide +kernel
theorem dX7_readHall_1 : decode cX7_readHall 1 = .ok (.istore_n 3, 1) := by decide +kernel
theorem dX7_readHall_2 : decode cX7_readHall 2 = .ok (.iconst 0, 1) := by decide +kernel
theorem dX7_readHall_3 : decode cX7_readHall 3 = .ok (.istore 4, 2) := by decide +kernel
theorem dX7_readHall_5 : decode cX7_readHall 5 = .ok (.aload_n 0, 1) := by decide +kernel
theorem dX7_readHall_6 : decode cX7_readHall 6 = .ok (.iconst 0, 1) := by decide +kernel
theorem dX7_readHall_7 : decode cX7_readHall 7 = .ok (.putfield 23, 3) := by decide +kernel
theorem dX7_readHall_10 : decode cX7_readHall 10 = .ok (.iconst 0, 1) := by decide +kernel
theorem dX7_readHall_11 : decode cX7_readHall 11 = .ok (.istore 5, 2) := by decide +kernel
theorem dX7_readHall_13 : decode cX7_readHall 13 = .ok (.iload 5, 2) := by decide +kernel
theorem dX7_readHall_15 : decode cX7_readHall 15 = .ok (.bipush 8, 2) := by decide +kernel
theorem dX7_readHall_17 : decode cX7_readHall 17 = .ok (.if_icmp .ge 68, 3) := by decide +kernel
theorem dX7_readHall_20 : decode cX7_readHall 20 = .ok (.aload_n 0, 1) := by decide +kernel
theorem dX7_readHall_21 : decode cX7_readHall 21 = .ok (.invokevirtual 45, 3) := by decide +kernel
theorem dX7_readHall_24 : decode cX7_readHall 24 = .ok (.bipush 48, 2) := by decide +kernel
theorem dX7_readHall_26 : decode cX7_readHall 26 = .ok (.isub, 1) := by decide +kernel
theorem dX7_readHall_27 : decode cX7_readHall 27 = .ok (.istore 6, 2) := by decide +kernel
theorem dX7_readHall_29 : decode cX7_readHall 29 = .ok (.iload 6, 2) := by decide +kernel
theorem dX7_readHall_31 : decode cX7_readHall 31 = .ok (.ifCond .lt 54, 3) := by decide +kernel
theorem dX7_readHall_34 : decode cX7_readHall 34 = .ok (.iload 6, 2) := by decide +kernel
theorem dX7_readHall_36 : decode cX7_readHall 36 = .ok (.iload_n 1, 1) := by decide +kernel
theorem dX7_readHall_37 : decode cX7_readHall 37 = .ok (.if_icmp .ge 48, 3) := by decide +kernel
theorem dX7_readHall_40 : decode cX7_readHall 40 = .ok (.iload_n 3, 1) := by decide +kernel
theorem dX7_readHall_41 : decode cX7_readHall 41 = .ok (.iload 6, 2) := by decide +kernel
theorem dX7_readHall_43 : decode cX7_readHall 43 = .ok (.invokestatic 69, 3) := by decide +kernel
theorem dX7_readHall_46 : decode cX7_readHall 46 = .ok (.ifCond .eq 6, 3) := by decide +kernel
theorem dX7_readHall_49 : decode cX7_readHall 49 = .ok (.goto 36, 3) := by decide +kernel
theorem dX7_readHall_52 : decode cX7_readHall 52 = .ok (.iload_n 3, 1) := by decide +kernel
theorem dX7_readHall_53 : decode cX7_readHall 53 = .ok (.iload 6, 2) := by decide +kernel
theorem dX7_readHall_55 : decode cX7_readHall 55 = .ok (.invokestatic 66, 3) := by decide +kernel
theorem dX7_readHall_58 : decode cX7_readHall 58 = .ok (.ior, 1) := by decide +kernel
theorem dX7_readHall_59 : decode cX7_readHall 59 = .ok (.istore_n 3, 1) := by decide +kernel
theorem dX7_readHall_60 : decode cX7_readHall 60 = .ok (.aload_n 2, 1) := by decide +kernel
theorem dX7_readHall_61 : decode cX7_readHall 61 = .ok (.iload 4, 2) := by decide +kernel
theorem dX7_readHall_63 : decode cX7_readHall 63 = .ok (.iload 6, 2) := by decide +kernel
theorem dX7_readHall_65 : decode cX7_readHall 65 = .ok (.iastore, 1) := by decide +kernel
theorem dX7_readHall_66 : decode cX7_readHall 66 = .ok (.iinc 4 1, 3) := by decide +kernel
theorem dX7_readHall_69 : decode cX7_readHall 69 = .ok (.aload_n 0, 1) := by decide +kernel
theorem dX7_readHall_70 : decode cX7_readHall 70 = .ok (.dup, 1) := by decide +kernel
theorem dX7_readHall_71 : decode cX7_readHall 71 = .ok (.getfield 23, 3) := by decide +kernel
theorem dX7_readHall_74 : decode cX7_readHall 74 = .ok (.iconst 1, 1) := by decide +kernel
theorem dX7_readHall_75 : decode cX7_readHall 75 = .ok (.iadd, 1) := by decide +kernel
theorem dX7_readHall_76 : decode cX7_readHall 76 = .ok (.putfield 23, 3) := by decide +kernel
theorem dX7_readHall_79 : decode cX7_readHall 79 = .ok (.iinc 5 1, 3) := by decide +kernel
theorem dX7_readHall_82 : decode cX7_readHall 82 = .ok (.goto (-69), 3) := by decide +kernel
theorem dX7_readHall_85 : decode cX7_readHall 85 = .ok (.aload_n 0, 1) := by decide +kernel
theorem dX7_readHall_86 : decode cX7_readHall 86 = .ok (.invokevirtual 45, 3) := by decide +kernel
theorem dX7_readHall_89 : decode cX7_readHall 89 = .ok (.iconst (-1), 1) := by decide +kernel
theorem dX7_readHall_90 : decode cX7_readHall 90 = .ok (.if_icmp .ne 8, 3) := by decide +kernel
theorem dX7_readHall_93 : decode cX7_readHall 93 = .ok (.iload 4, 2) := by decide +kernel
theorem dX7_readHall_95 : decode cX7_readHall 95 = .ok (.goto 10, 3) := by decide +kernel
theorem dX7_readHall_98 : decode cX7_readHall 98 = .ok (.bipush (-20), 2) := by decide +kernel
theorem dX7_readHall_100 : decode cX7_readHall 100 = .ok (.aload_n 0, 1) := by decide +kernel
theorem dX7_readHall_101 : decode cX7_readHall 101 = .ok (.getfield 23, 3) := by decide +kernel
theorem dX7_readHall_104 : decode cX7_readHall 104 = .ok (.isub, 1) := by decide +kernel
theorem dX7_readHall_105 : decode cX7_readHall 105 = .ok (.ireturn, 1) := by decide +kernel
set_option maxHeartbeats 4000000 in
set_option maxRecDepth 100000 in
theorem cX7_readHall_k_22_42 {l : Launch} {D : va_G} {a : Nat → Nat} {k : Nat → ClassId} {n : Nat} {p1 : Int32} {x0 xz : bq_S} {rz : Int32} (h : fX7_readHall n p1 42 8 x0 = some (rz, xz)) : bq_M l D bq_cl (bq_ty k) (bq_wC a k) yX7_readHall cX7_readHall 7 (some .int) { frames := 1, cells := 0, slots := 0, locals := 21 } [.ref (a 22), .int p1, .ref (a 42)] x0 (some rz) xz := by
  refine bq_ofW RX7 [(0, .ref (a 22)), (1, .int p1), (2, .ref (a 42))] (by decide +kernel) rfl (Nat.le_of_ble_eq_true rfl) rfl (bq_adC a k) ?_
  intro p e s m below meth c A Q ls S hK hD hA hR hS hP hl
  have hx := S.1; have hb := S.2.1; have hml := S.2.2.1; have hown := S.2.2.2.1; have hts := S.2.2.2.2
  have hret : ∀ z, some z = some (rz, xz) → (rz, xz) = z := fun z h => (Option.some.inj h).symm
  unfold fX7_readHall at h
  have hj85 : ∀ (v34 : Int32) (x35 : bq_S) (H : Heap) (locs : List Loc) (ls : Array Slot), fX7_readHall_j85 n v34 x35 = some (rz, xz) → va_P D bq_cl (bq_wC a k x35) H → va_S A s.heap H locs → lv_has ls 7 [(0, .ref (a 22)), (4, .int v34)] → W p l e { frames := 1, cells := 0, slots := 0, locals := 21 } s m [.ref (a 22), .int p1, .ref (a 42)].toArray below meth c H locs 0 0 Q (F0 m 85 ls []) := by
    intro v34 x35 H locs ls h hP hS hl
    unfold fX7_readHall_j85 at h
    refine lv_aload_n hx hb dX7_readHall_85 rfl (lv_at hl 0 rfl) ?_
    obtain ⟨o36, ho36, h⟩ := Option.bind_eq_some_iff.mp h
    obtain ⟨v38, x37⟩ := o36
    replace h := un2_e h
    refine bq_callVi (q0 := 22) (As := []) S hK hD hA hP hS (cX7_look_k_22 ho36) hd_yX7_look ml_X7_45 in_yX7_look (hts _ sl_X7_X7_yX7_look) ⟨rfl, rfl⟩ ⟨by decide, by decide⟩ rfl rfl rfl hl.1 rfl (Nat.le_of_ble_eq_true rfl) ⟨Nat.zero_le _, Nat.zero_le _⟩ dX7_readHall_86 (fun H locs hP hS => ?_)
    refine lv_iconst (v := (-1 : Int32)) hx hb dX7_readHall_89 (by decide) ?_
    refine lv_icmp_ne (tgt := 98) hx hb dX7_readHall_90 (by decide) (fun c39 => ?_) (fun c39 => ?_)
    · replace h := (if_neg c39).symm.trans h
      refine lv_bipush (v := (-20 : Int32)) hx hb dX7_readHall_98 (by decide) ?_
      refine lv_aload_n hx hb dX7_readHall_100 rfl (lv_at hl 0 rfl) ?_
      refine bq_get (q0 := 22) S hK hP fl_X7_23_X7_3 rfl rfl rfl dX7_readHall_101 ?_
      refine lv_isub hx hb dX7_readHall_104 ?_
      obtain ⟨e1, e2⟩ := Prod.mk.inj (hret _ h)
      exact hR _ _ _ _ _ (congrArg some e1) rfl (by rw [e2]; exact hP) hS dX7_readHall_105
    · replace h := (if_pos c39).symm.trans h
      refine lv_iload hx hb dX7_readHall_93 (lv_at hl 1 rfl) ?_
      refine lv_goto (tgt := 105) hx hb dX7_readHall_95 (by decide) ?_
      obtain ⟨e1, e2⟩ := Prod.mk.inj (hret _ h)
      exact hR _ _ _ _ _ (congrArg some e1) rfl (by rw [e2]; exact hP) hS dX7_readHall_105
  refine lv_iconst (v := (0 : Int32)) hx hb dX7_readHall_0 (by decide) ?_
  refine lv_istore_n (lv' := [(3, .int (0 : Int32)), (0, .ref (a 22)), (1, .int p1), (2, .ref (a 42))]) hx hb dX7_readHall_1 rfl hl (by decide) rfl (fun ls hl => ?_)
  refine lv_iconst (v := (0 : Int32)) hx hb dX7_readHall_2 (by decide) ?_
  refine lv_istore (lv' := [(4, .int (0 : Int32)), (3, .int (0 : Int32)), (0, .ref (a 22)), (1, .int p1), (2, .ref (a 42))]) hx hb dX7_readHall_3 hl (by decide) rfl (fun ls hl => ?_)
  refine lv_aload_n hx hb dX7_readHall_5 rfl (lv_at hl 2 rfl) ?_
  refine lv_iconst (v := (0 : Int32)) hx hb dX7_readHall_6 (by decide) ?_
  obtain ⟨x1, hx1, h⟩ := bq_b h
  refine bq_put (x1 := x1) (q0 := 22) (ty := .int) S hK hD hP hS fl_X7_23_X7_3 bt_X7 rfl (by decide +kernel) rfl rfl (Nat.le_of_ble_eq_true rfl) rfl rfl (by rw [hx1]; rfl) dX7_readHall_7 (fun H locs hP hS => ?_)
  refine lv_iconst (v := (0 : Int32)) hx hb dX7_readHall_10 (by decide) ?_
  refine lv_istore (lv' := [(5, .int (0 : Int32)), (4, .int (0 : Int32)), (3, .int (0 : Int32)), (0, .ref (a 22)), (1, .int p1), (2, .ref (a 42))]) hx hb dX7_readHall_11 hl (by decide) rfl (fun ls hl => ?_)
  have hl13 : ∀ (v2 : Int32) (kf : Nat) (v5 : Int32) (v6 : Int32) (v7 : Int32) (x8 : bq_S) (eo : Int32 × Int32 × Int32 × bq_S) (H : Heap) (locs : List Loc) (ls : Array Slot), wh kf (fX7_readHall_b13 n v2 42 8) (v5, v6, v7, x8) = some eo → va_P D bq_cl (bq_wC a k x8) H → va_S A s.heap H locs → lv_has ls 7 [(0, .ref (a 22)), (1, .int v2), (2, .ref (a 42)), (3, .int v5), (4, .int v6), (5, .int v7)] → (∀ (H : Heap) (locs : List Loc) (ls : Array Slot) (v30 : Int32) (v31 : Int32) (v32 : Int32) (x33 : bq_S), eo = (v30, v31, v32, x33) → va_P D bq_cl (bq_wC a k x33) H → va_S A s.heap H locs → lv_has ls 7 [(0, .ref (a 22)), (4, .int v31)] → W p l e { frames := 1, cells := 0, slots := 0, locals := 21 } s m [.ref (a 22), .int p1, .ref (a 42)].toArray below meth c H locs 0 0 Q (F0 m 85 ls [])) → W p l e { frames := 1, cells := 0, slots := 0, locals := 21 } s m [.ref (a 22), .int p1, .ref (a 42)].toArray below meth c H locs 0 0 Q (F0 m 13 ls []) := by
    intro v2 kf
    induction kf with
    | zero => intro v5 v6 v7 x8 eo H locs ls h; cases h
    | succ kf ih =>
      intro v5 v6 v7 x8 eo H locs ls h hP hS hl kx
      obtain ⟨out, h, hw⟩ := wh_s h
      unfold fX7_readHall_b13 at h
      replace h := un4_e h
      refine lv_iload hx hb dX7_readHall_13 (lv_at hl 5 rfl) ?_
      refine lv_bipush (v := (8 : Int32)) hx hb dX7_readHall_15 (by decide) ?_
      refine lv_icmp_ge (tgt := 85) hx hb dX7_readHall_17 (by decide) (fun c9 => ?_) (fun c9 => ?_)
      · replace h := (if_pos c9).symm.trans h
        cases h
        exact kx _ _ _ _ _ _ _ (Option.some.inj hw).symm hP hS (lv_sub hl [0, 4] rfl)
      · replace h := (if_neg c9).symm.trans h
        refine lv_aload_n hx hb dX7_readHall_20 rfl (lv_at hl 0 rfl) ?_
        obtain ⟨o10, ho10, h⟩ := Option.bind_eq_some_iff.mp h
        obtain ⟨v12, x11⟩ := o10
        replace h := un2_e h
        refine bq_callVi (q0 := 22) (As := []) S hK hD hA hP hS (cX7_look_k_22 ho10) hd_yX7_look ml_X7_45 in_yX7_look (hts _ sl_X7_X7_yX7_look) ⟨rfl, rfl⟩ ⟨by decide, by decide⟩ rfl rfl rfl hl.1 rfl (Nat.le_of_ble_eq_true rfl) ⟨Nat.zero_le _, Nat.zero_le _⟩ dX7_readHall_21 (fun H locs hP hS => ?_)
        refine lv_bipush (v := (48 : Int32)) hx hb dX7_readHall_24 (by decide) ?_
        refine lv_isub hx hb dX7_readHall_26 ?_
        refine lv_topi (fun v13 hv13 => ?_)
        replace h := bq_bv h hv13
        refine lv_istore (lv' := [(6, .int v13), (0, .ref (a 22)), (1, .int v2), (2, .ref (a 42)), (3, .int v5), (4, .int v6), (5, .int v7)]) hx hb dX7_readHall_27 hl (by decide) rfl (fun ls hl => ?_)
        refine lv_iload hx hb dX7_readHall_29 (lv_at hl 0 rfl) ?_
        refine lv_if_lt (tgt := 85) hx hb dX7_readHall_31 (by decide) (fun c14 => ?_) (fun c14 => ?_)
        · replace h := (if_pos c14).symm.trans h
          cases h
          exact kx _ _ _ _ _ _ _ (Option.some.inj hw).symm hP hS (lv_sub hl [1, 5] rfl)
        · replace h := (if_neg c14).symm.trans h
          refine lv_iload hx hb dX7_readHall_34 (lv_at hl 0 rfl) ?_
          refine lv_iload_n hx hb dX7_readHall_36 rfl (lv_at hl 2 rfl) ?_
          refine lv_icmp_ge (tgt := 85) hx hb dX7_readHall_37 (by decide) (fun c15 => ?_) (fun c15 => ?_)
          · replace h := (if_pos c15).symm.trans h
            cases h
            exact kx _ _ _ _ _ _ _ (Option.some.inj hw).symm hP hS (lv_sub hl [1, 5] rfl)
          · replace h := (if_neg c15).symm.trans h
            refine lv_iload_n hx hb dX7_readHall_40 rfl (lv_at hl 4 rfl) ?_
            refine lv_iload hx hb dX7_readHall_41 (lv_at hl 0 rfl) ?_
            obtain ⟨o16, ho16, h⟩ := Option.bind_eq_some_iff.mp h
            obtain ⟨v18, x17⟩ := o16
            replace h := un2_e h
            refine bq_callSNi (As := [.int _, .int _]) S hK hD hA hP hS (cX9_has_k ho16) hd_yX9_has mn_X7_69 st_yX9_has ⟨rfl, rfl⟩ ⟨by decide, by decide⟩ rfl hl.1 rfl (Nat.le_of_ble_eq_true rfl) ⟨Nat.zero_le _, Nat.zero_le _⟩ dX7_readHall_43 (fun H locs hP hS => ?_)
            refine lv_if_eq (tgt := 52) hx hb dX7_readHall_46 (by decide) (fun c19 => ?_) (fun c19 => ?_)
            · replace h := (if_pos c19).symm.trans h
              refine lv_iload_n hx hb dX7_readHall_52 rfl (lv_at hl 4 rfl) ?_
              refine lv_iload hx hb dX7_readHall_53 (lv_at hl 0 rfl) ?_
              obtain ⟨o20, ho20, h⟩ := Option.bind_eq_some_iff.mp h
              obtain ⟨v22, x21⟩ := o20
              replace h := un2_e h
              refine bq_callSNi (As := [.int _]) S hK hD hA hP hS (cX9_bit_k ho20) hd_yX9_bit mn_X7_66 st_yX9_bit ⟨rfl, rfl⟩ ⟨by decide, by decide⟩ rfl hl.1 rfl (Nat.le_of_ble_eq_true rfl) ⟨Nat.zero_le _, Nat.zero_le _⟩ dX7_readHall_55 (fun H locs hP hS => ?_)
              refine lv_ior hx hb dX7_readHall_58 ?_
              refine lv_topi (fun v23 hv23 => ?_)
              replace h := bq_bv h hv23
              refine lv_istore_n (lv' := [(3, .int v23), (6, .int v13), (0, .ref (a 22)), (1, .int v2), (2, .ref (a 42)), (4, .int v6), (5, .int v7)]) hx hb dX7_readHall_59 rfl hl (by decide) rfl (fun ls hl => ?_)
              refine lv_aload_n hx hb dX7_readHall_60 rfl (lv_at hl 4 rfl) ?_
              refine lv_iload hx hb dX7_readHall_61 (lv_at hl 5 rfl) ?_
              refine lv_iload hx hb dX7_readHall_63 (lv_at hl 1 rfl) ?_
              obtain ⟨g25, h⟩ := bq_gd h
              obtain ⟨x24, hx24, h⟩ := bq_b h
              refine bq_iast (x1 := x24) (q0 := 42) (t0 := 0) S hK hD hP hS rfl rfl g25 (by rw [hx24]; rfl) dX7_readHall_65 (fun H locs hP hS => ?_)
              obtain ⟨v26, hv26, h⟩ := bq_b h
              refine lv_iinc (v := v26) (lv' := [(4, .int v26), (3, .int v23), (6, .int v13), (0, .ref (a 22)), (1, .int v2), (2, .ref (a 42)), (5, .int v7)]) hx hb dX7_readHall_66 hl (k := 5) rfl (by rw [hv26]; rfl) (by decide) rfl (fun ls hl => ?_)
              refine lv_aload_n hx hb dX7_readHall_69 rfl (lv_at hl 3 rfl) ?_
              refine lv_dup hx hb dX7_readHall_70 rfl ?_
              refine bq_get (q0 := 22) S hK hP fl_X7_23_X7_3 rfl rfl rfl dX7_readHall_71 ?_
              refine lv_iconst (v := (1 : Int32)) hx hb dX7_readHall_74 (by decide) ?_
              refine lv_iadd hx hb dX7_readHall_75 ?_
              obtain ⟨x27, hx27, h⟩ := bq_b h
              refine bq_put (x1 := x27) (q0 := 22) (ty := .int) S hK hD hP hS fl_X7_23_X7_3 bt_X7 rfl (by decide +kernel) rfl rfl (Nat.le_of_ble_eq_true rfl) rfl rfl (by rw [hx27]; rfl) dX7_readHall_76 (fun H locs hP hS => ?_)
              obtain ⟨v28, hv28, h⟩ := bq_b h
              refine lv_iinc (v := v28) (lv' := [(5, .int v28), (4, .int v26), (3, .int v23), (6, .int v13), (0, .ref (a 22)), (1, .int v2), (2, .ref (a 42))]) hx hb dX7_readHall_79 hl (k := 6) rfl (by rw [hv28]; rfl) (by decide) rfl (fun ls hl => ?_)
              refine lv_goto (tgt := 13) hx hb dX7_readHall_82 (by decide) ?_
              cases h
              exact ih _ _ _ _ _ _ _ _ hw hP hS (lv_sub hl [4, 5, 6, 2, 1, 0] rfl) kx
            · replace h := (if_neg c19).symm.trans h
              refine lv_goto (tgt := 85) hx hb dX7_readHall_49 (by decide) ?_
              cases h
              exact kx _ _ _ _ _ _ _ (Option.some.inj hw).symm hP hS (lv_sub hl [1, 5] rfl)
  obtain ⟨e29, he29, h⟩ := Option.bind_eq_some_iff.mp h
  refine hl13 _ n _ _ _ _ e29 _ _ _ he29 hP hS (lv_sub hl [3, 4, 5, 2, 1, 0] rfl) (fun H locs ls v30 v31 v32 x33 hz hP hS hl => ?_)
  subst hz
  replace h := un4_e h
  exact hj85 _ _ _ _ _ h hP hS (lv_sub hl [0, 1] rfl)
def fX4_takeHall (q0 : Nat) (q1 : Nat) (la1 : Nat) (p2 : Int32) (x0 : bq_S) : Option (bq_S) :=
  if ¬ (0 : Int32) < 0 ∧ ¬ (0 : Int32) < 0 ∧ ¬ p2 < 0 ∧ (0 : Int32).toNatClampNeg + p2.toNatClampNeg ≤ la1 ∧ (0 : Int32).toNatClampNeg + p2.toNatClampNeg ≤ 8 then
  bd (bq_cI x0 q1 (q0 + 5) (0 : Int32).toNatClampNeg (0 : Int32).toNatClampNeg p2.toNatClampNeg) (fun x2 =>
  bd (bq_sI x2 q0 2 p2) (fun x3 =>
  some x3))
  else none
theorem dX4_takeHall_0 : decode cX4_takeHall 0 = .ok (.aload_n 1, 1) := by decide +kernel
theorem dX4_takeHall_1 : decode cX4_takeHall 1 = .ok (.iconst 0, 1) := by decide +kernel
theorem dX4_takeHall_2 : decode cX4_takeHall 2 = .ok (.aload_n 0, 1) := by decide +kernel
theorem dX4_takeHall_3 : decode cX4_takeHall 3 = .ok (.getfield 34, 3) := by decide +kernel
theorem dX4_takeHall_6 : decode cX4_takeHall 6 = .ok (.iconst 0, 1) := by decide +kernel
theorem dX4_takeHall_7 : decode cX4_takeHall 7 = .ok (.iload_n 2, 1) := by decide +kernel
theorem dX4_takeHall_8 : decode cX4_takeHall 8 = .ok (.invokestatic 44, 3) := by decide +kernel
theorem dX4_takeHall_11 : decode cX4_takeHall 11 = .ok (.aload_n 0, 1) := by decide +kernel
theorem dX4_takeHall_12 : decode cX4_takeHall 12 = .ok (.iload_n 2, 1) := by decide +kernel
theorem dX4_takeHall_13 : decode cX4_takeHall 13 = .ok (.putfield 18, 3) := by decide +kernel
theorem dX4_takeHall_16 : decode cX4_takeHall 16 = .ok (.return_, 1) := by decide +kernel
set_option maxHeartbeats 4000000 in
set_option maxRecDepth 100000 in
theorem cX4_takeHall_k_1_42 {l : Launch} {D : va_G} {a : Nat → Nat} {k : Nat → ClassId} {p2 : Int32} {x0 xz : bq_S} (h : fX4_takeHall  1 42 8 p2 x0 = some xz) : bq_M l D bq_cl (bq_ty k) (bq_wC a k) yX4_takeHall cX4_takeHall 3 none { frames := 1, cells := 0, slots := 0, locals := 60 } [.ref (a 1), .ref (a 42), .int p2] x0 none xz := by
  refine bq_ofWv RX4 [(0, .ref (a 1)), (1, .ref (a 42)), (2, .int p2)] (by decide +kernel) rfl (Nat.le_of_ble_eq_true rfl) rfl (bq_adC a k) ?_
  intro p e s m below meth c A Q ls S hK hD hA hR hS hP hl
  have hx := S.1; have hb := S.2.1; have hml := S.2.2.1; have hown := S.2.2.2.1; have hts := S.2.2.2.2
  have hret : ∀ z, some z = some xz → xz = z := fun z h => (Option.some.inj h).symm
  unfold fX4_takeHall at h
  refine lv_aload_n hx hb dX4_takeHall_0 rfl (lv_at hl 1 rfl) ?_
  refine lv_iconst (v := (0 : Int32)) hx hb dX4_takeHall_1 (by decide) ?_
  refine lv_aload_n hx hb dX4_takeHall_2 rfl (lv_at hl 0 rfl) ?_
  refine bq_get (q0 := 1) S hK hP fl_X4_34_X4_7 rfl rfl rfl dX4_takeHall_3 ?_
  refine lv_iconst (v := (0 : Int32)) hx hb dX4_takeHall_6 (by decide) ?_
  refine lv_iload_n hx hb dX4_takeHall_7 rfl (lv_at hl 2 rfl) ?_
  obtain ⟨⟨g11, g12, g13, g14, g15⟩, h⟩ := bq_gp h
  obtain ⟨x2, hx2, h⟩ := bq_b h
  refine va_copyi (D := D) hx hb (hml.trans hl.1.symm) hown (hts _ ml_X4_44) (hts _ acn) (hts _ acs) (hts _ aci) hK hP (hD _) hS 42 6 0 0 rfl rfl rfl rfl rfl g11 g12 g13 g14 g15 (fun _ _ => rfl) (by decide) (by decide +kernel) dX4_takeHall_8 (fun H locs hP _ hS => ?_)
  replace hP : va_P D bq_cl (bq_wC a k x2) H := by rw [hx2]; exact hP
  refine lv_aload_n hx hb dX4_takeHall_11 rfl (lv_at hl 0 rfl) ?_
  refine lv_iload_n hx hb dX4_takeHall_12 rfl (lv_at hl 2 rfl) ?_
  obtain ⟨x3, hx3, h⟩ := bq_b h
  refine bq_put (x1 := x3) (q0 := 1) (ty := .int) S hK hD hP hS fl_X4_18_X4_2 bt_X4 rfl (by decide +kernel) rfl rfl (Nat.le_of_ble_eq_true rfl) rfl rfl (by rw [hx3]; rfl) dX4_takeHall_13 (fun H locs hP hS => ?_)
  have e2 := hret _ h
  exact hR _ _ _ _ rfl (by rw [e2]; exact hP) hS dX4_takeHall_16
def fX9_hall (n : Nat) (x0 : bq_S) : Option (Int32 × bq_S) :=
  (fX7_readHall n (x0.1 1 0) 42 8 x0).bind (fun o1 => un2 o1 (fun v3 x2 =>
  (fX7_clear  x2).bind (fun x5 =>
  if v3 < 0 then
  some (v3, x5)
  else
  (fX4_takeHall 1 42 8 v3 x5).bind (fun x8 =>
  some (v3, x8)))))
theorem dX9_hall_0 : decode cX9_hall 0 = .ok (.aload_n 0, 1) := by decide +kernel
theorem dX9_hall_1 : decode cX9_hall 1 = .ok (.getfield 25, 3) := by decide +kernel
theorem dX9_hall_4 : decode cX9_hall 4 = .ok (.aload_n 0, 1) := by decide +kernel
theorem dX9_hall_5 : decode cX9_hall 5 = .ok (.getfield 10, 3) := by decide +kernel
theorem dX9_hall_8 : decode cX9_hall 8 = .ok (.getfield 87, 3) := by decide +kernel
theorem dX9_hall_11 : decode cX9_hall 11 = .ok (.aload_n 0, 1) := by decide +kernel
theorem dX9_hall_12 : decode cX9_hall 12 = .ok (.getfield 75, 3) := by decide +kernel
theorem dX9_hall_15 : decode cX9_hall 15 = .ok (.invokevirtual 145, 3) := by decide +kernel
theorem dX9_hall_18 : decode cX9_hall 18 = .ok (.istore_n 1, 1) := by decide +kernel
theorem dX9_hall_19 : decode cX9_hall 19 = .ok (.aload_n 0, 1) := by decide +kernel
theorem dX9_hall_20 : decode cX9_hall 20 = .ok (.getfield 25, 3) := by decide +kernel
theorem dX9_hall_23 : decode cX9_hall 23 = .ok (.invokevirtual 139, 3) := by decide +kernel
theorem dX9_hall_26 : decode cX9_hall 26 = .ok (.iload_n 1, 1) := by decide +kernel
theorem dX9_hall_27 : decode cX9_hall 27 = .ok (.ifCond .lt 15, 3) := by decide +kernel
theorem dX9_hall_30 : decode cX9_hall 30 = .ok (.aload_n 0, 1) := by decide +kernel
theorem dX9_hall_31 : decode cX9_hall 31 = .ok (.getfield 10, 3) := by decide +kernel
theorem dX9_hall_34 : decode cX9_hall 34 = .ok (.aload_n 0, 1) := by decide +kernel
theorem dX9_hall_35 : decode cX9_hall 35 = .ok (.getfield 75, 3) := by decide +kernel
theorem dX9_hall_38 : decode cX9_hall 38 = .ok (.iload_n 1, 1) := by decide +kernel
theorem dX9_hall_39 : decode cX9_hall 39 = .ok (.invokevirtual 149, 3) := by decide +kernel
theorem dX9_hall_42 : decode cX9_hall 42 = .ok (.iload_n 1, 1) := by decide +kernel
theorem dX9_hall_43 : decode cX9_hall 43 = .ok (.ireturn, 1) := by decide +kernel
set_option maxHeartbeats 4000000 in
set_option maxRecDepth 100000 in
theorem cX9_hall_k_0 {l : Launch} {D : va_G} {a : Nat → Nat} {k : Nat → ClassId} {n : Nat} {x0 xz : bq_S} {rz : Int32} (h : fX9_hall n  x0 = some (rz, xz)) : bq_M l D bq_cl (bq_ty k) (bq_wC a k) yX9_hall cX9_hall 2 (some .int) { frames := 2, cells := 0, slots := 0, locals := 82 } [.ref (a 0)] x0 (some rz) xz := by
  refine bq_ofW RX9 [(0, .ref (a 0))] (by decide +kernel) rfl (Nat.le_of_ble_eq_true rfl) rfl (bq_adC a k) ?_
  intro p e s m below meth c A Q ls S hK hD hA hR hS hP hl
  have hx := S.1; have hb := S.2.1; have hml := S.2.2.1; have hown := S.2.2.2.1; have hts := S.2.2.2.2
  have hret : ∀ z, some z = some (rz, xz) → (rz, xz) = z := fun z h => (Option.some.inj h).symm
  unfold fX9_hall at h
  refine lv_aload_n hx hb dX9_hall_0 rfl (lv_at hl 0 rfl) ?_
  refine bq_get (q0 := 0) S hK hP fl_X9_25_X9_3 rfl rfl rfl dX9_hall_1 ?_
  refine lv_aload_n hx hb dX9_hall_4 rfl (lv_at hl 0 rfl) ?_
  refine bq_get (q0 := 0) S hK hP fl_X9_10_X9_0 rfl rfl rfl dX9_hall_5 ?_
  refine bq_get (q0 := 1) S hK hP fl_X9_87_X4_0 rfl rfl rfl dX9_hall_8 ?_
  refine lv_aload_n hx hb dX9_hall_11 rfl (lv_at hl 0 rfl) ?_
  refine bq_get (q0 := 0) S hK hP fl_X9_75_X9_10 rfl rfl rfl dX9_hall_12 ?_
  obtain ⟨o1, ho1, h⟩ := Option.bind_eq_some_iff.mp h
  obtain ⟨v3, x2⟩ := o1
  replace h := un2_e h
  refine bq_callVi (q0 := 22) (As := [.int _, .ref (a 42)]) S hK hD hA hP hS (cX7_readHall_k_22_42 ho1) hd_yX7_readHall ml_X9_145 in_yX7_readHall (hts _ sl_X7_X7_yX7_readHall) ⟨rfl, rfl⟩ ⟨by decide, by decide⟩ rfl rfl rfl hl.1 rfl (Nat.le_of_ble_eq_true rfl) ⟨Nat.zero_le _, Nat.zero_le _⟩ dX9_hall_15 (fun H locs hP hS => ?_)
  refine lv_istore_n (lv' := [(1, .int v3), (0, .ref (a 0))]) hx hb dX9_hall_18 rfl hl (by decide) rfl (fun ls hl => ?_)
  refine lv_aload_n hx hb dX9_hall_19 rfl (lv_at hl 1 rfl) ?_
  refine bq_get (q0 := 0) S hK hP fl_X9_25_X9_3 rfl rfl rfl dX9_hall_20 ?_
  obtain ⟨x5, ho4, h⟩ := Option.bind_eq_some_iff.mp h
  refine bq_callVv (q0 := 22) (As := []) S hK hD hA hP hS (cX7_clear_k_22 ho4) hd_yX7_clear ml_X9_139 in_yX7_clear (hts _ sl_X7_X7_yX7_clear) ⟨rfl, rfl⟩ ⟨by decide, by decide⟩ rfl rfl rfl hl.1 rfl (Nat.le_of_ble_eq_true rfl) ⟨Nat.zero_le _, Nat.zero_le _⟩ dX9_hall_23 (fun H locs hP hS => ?_)
  refine lv_iload_n hx hb dX9_hall_26 rfl (lv_at hl 0 rfl) ?_
  refine lv_if_lt (tgt := 42) hx hb dX9_hall_27 (by decide) (fun c6 => ?_) (fun c6 => ?_)
  · replace h := (if_pos c6).symm.trans h
    refine lv_iload_n hx hb dX9_hall_42 rfl (lv_at hl 0 rfl) ?_
    obtain ⟨e1, e2⟩ := Prod.mk.inj (hret _ h)
    exact hR _ _ _ _ _ (congrArg some e1) rfl (by rw [e2]; exact hP) hS dX9_hall_43
  · replace h := (if_neg c6).symm.trans h
    refine lv_aload_n hx hb dX9_hall_30 rfl (lv_at hl 1 rfl) ?_
    refine bq_get (q0 := 0) S hK hP fl_X9_10_X9_0 rfl rfl rfl dX9_hall_31 ?_
    refine lv_aload_n hx hb dX9_hall_34 rfl (lv_at hl 1 rfl) ?_
    refine bq_get (q0 := 0) S hK hP fl_X9_75_X9_10 rfl rfl rfl dX9_hall_35 ?_
    refine lv_iload_n hx hb dX9_hall_38 rfl (lv_at hl 0 rfl) ?_
    obtain ⟨x8, ho7, h⟩ := Option.bind_eq_some_iff.mp h
    refine bq_callVv (q0 := 1) (As := [.ref (a 42), .int _]) S hK hD hA hP hS (cX4_takeHall_k_1_42 ho7) hd_yX4_takeHall ml_X9_149 in_yX4_takeHall (hts _ sl_X4_X4_yX4_takeHall) ⟨rfl, rfl⟩ ⟨by decide, by decide⟩ rfl rfl rfl hl.1 rfl (Nat.le_of_ble_eq_true rfl) ⟨Nat.zero_le _, Nat.zero_le _⟩ dX9_hall_39 (fun H locs hP hS => ?_)
    refine lv_iload_n hx hb dX9_hall_42 rfl (lv_at hl 0 rfl) ?_
    obtain ⟨e1, e2⟩ := Prod.mk.inj (hret _ h)
    exact hR _ _ _ _ _ (congrArg some e1) rfl (by rw [e2]; exact hP) hS dX9_hall_43
def fX4_isPlace (q0 : Nat) (p1 : Int64) (x0 : bq_S) : Option (Int32 × bq_S) :=
  if (lg_cmp p1 (0 : Int64)) < 0 then
  some ((0 : Int32), x0)
  else
  if 0 ≤ (lg_cmp p1 (x0.1 q0 2).toInt64) then
  some ((0 : Int32), x0)
  else
  some ((1 : Int32), x0)
theorem dX4_isPlace_0 : decode cX4_isPlace 0 = .ok (.lload_n 1, 1) := by decide +kernel
theorem dX4_isPlace_1 : decode cX4_isPlace 1 = .ok (.lconst 0, 1) := by decide +kernel
theorem dX4_isPlace_2 : decode cX4_isPlace 2 = .ok (.lcmp, 1) := by decide +kernel
theorem dX4_isPlace_3 : decode cX4_isPlace 3 = .ok (.ifCond .lt 17, 3) := by decide +kernel
theorem dX4_isPlace_6 : decode cX4_isPlace 6 = .ok (.lload_n 1, 1) := by decide +kernel
theorem dX4_isPlace_7 : decode cX4_isPlace 7 = .ok (.aload_n 0, 1) := by decide +kernel
theorem dX4_isPlace_8 : decode cX4_isPlace 8 = .ok (.getfield 18, 3) := by decide +kernel
theorem dX4_isPlace_11 : decode cX4_isPlace 11 = .ok (.i2l, 1) := by decide +kernel
theorem dX4_isPlace_12 : decode cX4_isPlace 12 = .ok (.lcmp, 1) := by decide +kernel
theorem dX4_isPlace_13 : decode cX4_isPlace 13 = .ok (.ifCond .ge 7, 3) := by decide +kernel
theorem dX4_isPlace_16 : decode cX4_isPlace 16 = .ok (.iconst 1, 1) := by decide +kernel
theorem dX4_isPlace_17 : decode cX4_isPlace 17 = .ok (.goto 4, 3) := by decide +kernel
theorem dX4_isPlace_20 : decode cX4_isPlace 20 = .ok (.iconst 0, 1) := by decide +kernel
theorem dX4_isPlace_21 : decode cX4_isPlace 21 = .ok (.ireturn, 1) := by decide +kernel
set_option maxHeartbeats 4000000 in
set_option maxRecDepth 100000 in
theorem cX4_isPlace_k_1 {l : Launch} {D : va_G} {a : Nat → Nat} {k : Nat → ClassId} {p1 : Int64} {x0 xz : bq_S} {rz : Int32} (h : fX4_isPlace  1 p1 x0 = some (rz, xz)) : bq_M l D bq_cl (bq_ty k) (bq_wC a k) yX4_isPlace cX4_isPlace 3 (some .boolean) { frames := 0, cells := 0, slots := 0, locals := 0 } [.ref (a 1), .long p1] x0 (some rz) xz := by
  refine bq_ofW RX4 [(0, .ref (a 1)), (1, .long p1)] (by decide +kernel) rfl (Nat.le_of_ble_eq_true rfl) rfl (bq_adC a k) ?_
  intro p e s m below meth c A Q ls S hK hD hA hR hS hP hl
  have hx := S.1; have hb := S.2.1; have hml := S.2.2.1; have hown := S.2.2.2.1; have hts := S.2.2.2.2
  have hret : ∀ z, some z = some (rz, xz) → (rz, xz) = z := fun z h => (Option.some.inj h).symm
  unfold fX4_isPlace at h
  refine lv_lload_n hx hb dX4_isPlace_0 rfl (lv_at hl 1 rfl) ?_
  refine lv_lconst (v := (0 : Int64)) hx hb dX4_isPlace_1 (by decide) ?_
  refine W.lcmp hx hb dX4_isPlace_2 ?_
  refine lv_if_lt (tgt := 20) hx hb dX4_isPlace_3 (by decide) (fun c1 => ?_) (fun c1 => ?_)
  · replace h := (if_pos c1).symm.trans h
    refine lv_iconst (v := (0 : Int32)) hx hb dX4_isPlace_20 (by decide) ?_
    obtain ⟨e1, e2⟩ := Prod.mk.inj (hret _ h)
    exact hR _ _ _ _ _ (congrArg some e1) rfl (by rw [e2]; exact hP) hS dX4_isPlace_21
  · replace h := (if_neg c1).symm.trans h
    refine lv_lload_n hx hb dX4_isPlace_6 rfl (lv_at hl 1 rfl) ?_
    refine lv_aload_n hx hb dX4_isPlace_7 rfl (lv_at hl 0 rfl) ?_
    refine bq_get (q0 := 1) S hK hP fl_X4_18_X4_2 rfl rfl rfl dX4_isPlace_8 ?_
    refine lv_i2l hx hb dX4_isPlace_11 rfl ?_
    refine W.lcmp hx hb dX4_isPlace_12 ?_
    refine lv_if_ge (tgt := 20) hx hb dX4_isPlace_13 (by decide) (fun c2 => ?_) (fun c2 => ?_)
    · replace h := (if_pos c2).symm.trans h
      refine lv_iconst (v := (0 : Int32)) hx hb dX4_isPlace_20 (by decide) ?_
      obtain ⟨e1, e2⟩ := Prod.mk.inj (hret _ h)
      exact hR _ _ _ _ _ (congrArg some e1) rfl (by rw [e2]; exact hP) hS dX4_isPlace_21
    · replace h := (if_neg c2).symm.trans h
      refine lv_iconst (v := (1 : Int32)) hx hb dX4_isPlace_16 (by decide) ?_
      refine lv_goto (tgt := 21) hx hb dX4_isPlace_17 (by decide) ?_
      obtain ⟨e1, e2⟩ := Prod.mk.inj (hret _ h)
      exact hR _ _ _ _ _ (congrArg some e1) rfl (by rw [e2]; exact hP) hS dX4_isPlace_21
def fX9_at (p1 : Int32) (x0 : bq_S) : Option (Int32 × bq_S) :=
  (fX4_isPlace 1 p1.toInt64 x0).bind (fun o1 => un2 o1 (fun v3 x2 =>
  if v3 = 0 then
  some ((-1 : Int32), x2)
  else
  if ok_i p1 8 then
  some ((x2.1 6 p1.toNatClampNeg), x2)
  else none))
theorem dX9_at_0 : decode cX9_at 0 = .ok (.aload_n 0, 1) := by decide +kernel
theorem dX9_at_1 : decode cX9_at 1 = .ok (.getfield 10, 3) := by decide +kernel
theorem dX9_at_4 : decode cX9_at 4 = .ok (.iload_n 1, 1) := by decide +kernel
theorem dX9_at_5 : decode cX9_at 5 = .ok (.i2l, 1) := by decide +kernel
theorem dX9_at_6 : decode cX9_at 6 = .ok (.invokevirtual 153, 3) := by decide +kernel
theorem dX9_at_9 : decode cX9_at 9 = .ok (.ifCond .eq 15, 3) := by decide +kernel
theorem dX9_at_12 : decode cX9_at 12 = .ok (.aload_n 0, 1) := by decide +kernel
theorem dX9_at_13 : decode cX9_at 13 = .ok (.getfield 10, 3) := by decide +kernel
theorem dX9_at_16 : decode cX9_at 16 = .ok (.getfield 156, 3) := by decide +kernel
theorem dX9_at_19 : decode cX9_at 19 = .ok (.iload_n 1, 1) := by decide +kernel
theorem dX9_at_20 : decode cX9_at 20 = .ok (.iaload, 1) := by decide +kernel
theorem dX9_at_21 : decode cX9_at 21 = .ok (.goto 4, 3) := by decide +kernel
theorem dX9_at_24 : decode cX9_at 24 = .ok (.iconst (-1), 1) := by decide +kernel
theorem dX9_at_25 : decode cX9_at 25 = .ok (.ireturn, 1) := by decide +kernel
set_option maxHeartbeats 4000000 in
set_option maxRecDepth 100000 in
theorem cX9_at_k_0 {l : Launch} {D : va_G} {a : Nat → Nat} {k : Nat → ClassId} {p1 : Int32} {x0 xz : bq_S} {rz : Int32} (h : fX9_at  p1 x0 = some (rz, xz)) : bq_M l D bq_cl (bq_ty k) (bq_wC a k) yX9_at cX9_at 2 (some .int) { frames := 1, cells := 0, slots := 0, locals := 22 } [.ref (a 0), .int p1] x0 (some rz) xz := by
  refine bq_ofW RX9 [(0, .ref (a 0)), (1, .int p1)] (by decide +kernel) rfl (Nat.le_of_ble_eq_true rfl) rfl (bq_adC a k) ?_
  intro p e s m below meth c A Q ls S hK hD hA hR hS hP hl
  have hx := S.1; have hb := S.2.1; have hml := S.2.2.1; have hown := S.2.2.2.1; have hts := S.2.2.2.2
  have hret : ∀ z, some z = some (rz, xz) → (rz, xz) = z := fun z h => (Option.some.inj h).symm
  unfold fX9_at at h
  refine lv_aload_n hx hb dX9_at_0 rfl (lv_at hl 0 rfl) ?_
  refine bq_get (q0 := 0) S hK hP fl_X9_10_X9_0 rfl rfl rfl dX9_at_1 ?_
  refine lv_iload_n hx hb dX9_at_4 rfl (lv_at hl 1 rfl) ?_
  refine lv_i2l hx hb dX9_at_5 rfl ?_
  obtain ⟨o1, ho1, h⟩ := Option.bind_eq_some_iff.mp h
  obtain ⟨v3, x2⟩ := o1
  replace h := un2_e h
  refine bq_callVi (q0 := 1) (As := [.long _]) S hK hD hA hP hS (cX4_isPlace_k_1 ho1) hd_yX4_isPlace ml_X9_153 in_yX4_isPlace (hts _ sl_X4_X4_yX4_isPlace) ⟨rfl, rfl⟩ ⟨by decide, by decide⟩ rfl rfl rfl hl.1 rfl (Nat.le_of_ble_eq_true rfl) ⟨Nat.zero_le _, Nat.zero_le _⟩ dX9_at_6 (fun H locs hP hS => ?_)
  refine lv_if_eq (tgt := 24) hx hb dX9_at_9 (by decide) (fun c4 => ?_) (fun c4 => ?_)
  · replace h := (if_pos c4).symm.trans h
    refine lv_iconst (v := (-1 : Int32)) hx hb dX9_at_24 (by decide) ?_
    obtain ⟨e1, e2⟩ := Prod.mk.inj (hret _ h)
    exact hR _ _ _ _ _ (congrArg some e1) rfl (by rw [e2]; exact hP) hS dX9_at_25
  · replace h := (if_neg c4).symm.trans h
    refine lv_aload_n hx hb dX9_at_12 rfl (lv_at hl 0 rfl) ?_
    refine bq_get (q0 := 0) S hK hP fl_X9_10_X9_0 rfl rfl rfl dX9_at_13 ?_
    refine bq_get (q0 := 1) S hK hP fl_X9_156_X4_7 rfl rfl rfl dX9_at_16 ?_
    refine lv_iload_n hx hb dX9_at_19 rfl (lv_at hl 1 rfl) ?_
    obtain ⟨g5, h⟩ := bq_gd h
    refine va_iald (D := D) hx hb hK hP 6 0 rfl rfl g5 dX9_at_20 ?_
    refine lv_goto (tgt := 25) hx hb dX9_at_21 (by decide) ?_
    obtain ⟨e1, e2⟩ := Prod.mk.inj (hret _ h)
    exact hR _ _ _ _ _ (congrArg some e1) rfl (by rw [e2]; exact hP) hS dX9_at_25
def fJ6_bitCount (p0 : Int32) (x0 : bq_S) : Option (Int32 × bq_S) :=
  bd (p0 - ((p0.toUInt32 >>> ((1 : Int32).toUInt32 &&& Int32.toUInt32 31)).toInt32 &&& (1431655765 : Int32))) (fun v1 =>
  bd ((v1 &&& (858993459 : Int32)) + ((v1.toUInt32 >>> ((2 : Int32).toUInt32 &&& Int32.toUInt32 31)).toInt32 &&& (858993459 : Int32))) (fun v2 =>
  bd ((v2 + (v2.toUInt32 >>> ((4 : Int32).toUInt32 &&& Int32.toUInt32 31)).toInt32) &&& (252645135 : Int32)) (fun v3 =>
  bd (v3 + (v3.toUInt32 >>> ((8 : Int32).toUInt32 &&& Int32.toUInt32 31)).toInt32) (fun v4 =>
  bd (v4 + (v4.toUInt32 >>> ((16 : Int32).toUInt32 &&& Int32.toUInt32 31)).toInt32) (fun v5 =>
  some ((v5 &&& (63 : Int32)), x0))))))
theorem dJ6_bitCount_0f7a4_0 : decode cJ6_bitCount_0f7a4 0 = .ok (.iload_n 0, 1) := by decide +kernel
theorem dJ6_bitCount_0f7a4_1 : decode cJ6_bitCount_0f7a4 1 = .ok (.iload_n 0, 1) := by decide +kernel
theorem dJ6_bitCount_0f7a4_2 : decode cJ6_bitCount_0f7a4 2 = .ok (.iconst 1, 1) := by decide +kernel
theorem dJ6_bitCount_0f7a4_3 : decode cJ6_bitCount_0f7a4 3 = .ok (.iushr, 1) := by decide +kernel
theorem dJ6_bitCount_0f7a4_4 : decode cJ6_bitCount_0f7a4 4 = .ok (.ldc_w 265, 3) := by decide +kernel
theorem dJ6_bitCount_0f7a4_7 : decode cJ6_bitCount_0f7a4 7 = .ok (.iand, 1) := by decide +kernel
theorem dJ6_bitCount_0f7a4_8 : decode cJ6_bitCount_0f7a4 8 = .ok (.isub, 1) := by decide +kernel
theorem dJ6_bitCount_0f7a4_9 : decode cJ6_bitCount_0f7a4 9 = .ok (.istore_n 0, 1) := by decide +kernel
theorem dJ6_bitCount_0f7a4_10 : decode cJ6_bitCount_0f7a4 10 = .ok (.iload_n 0, 1) := by decide +kernel
theorem dJ6_bitCount_0f7a4_11 : decode cJ6_bitCount_0f7a4 11 = .ok (.ldc_w 266, 3) := by decide +kernel
theorem dJ6_bitCount_0f7a4_14 : decode cJ6_bitCount_0f7a4 14 = .ok (.iand, 1) := by decide +kernel
theorem dJ6_bitCount_0f7a4_15 : decode cJ6_bitCount_0f7a4 15 = .ok (.iload_n 0, 1) := by decide +kernel
theorem dJ6_bitCount_0f7a4_16 : decode cJ6_bitCount_0f7a4 16 = .ok (.iconst 2, 1) := by decide +kernel
theorem dJ6_bitCount_0f7a4_17 : decode cJ6_bitCount_0f7a4 17 = .ok (.iushr, 1) := by decide +kernel
theorem dJ6_bitCount_0f7a4_18 : decode cJ6_bitCount_0f7a4 18 = .ok (.ldc_w 266, 3) := by decide +kernel
theorem dJ6_bitCount_0f7a4_21 : decode cJ6_bitCount_0f7a4 21 = .ok (.iand, 1) := by decide +kernel
theorem dJ6_bitCount_0f7a4_22 : decode cJ6_bitCount_0f7a4 22 = .ok (.iadd, 1) := by decide +kernel
theorem dJ6_bitCount_0f7a4_23 : decode cJ6_bitCount_0f7a4 23 = .ok (.istore_n 0, 1) := by decide +kernel
theorem dJ6_bitCount_0f7a4_24 : decode cJ6_bitCount_0f7a4 24 = .ok (.iload_n 0, 1) := by decide +kernel
theorem dJ6_bitCount_0f7a4_25 : decode cJ6_bitCount_0f7a4 25 = .ok (.iload_n 0, 1) := by decide +kernel
theorem dJ6_bitCount_0f7a4_26 : decode cJ6_bitCount_0f7a4 26 = .ok (.iconst 4, 1) := by decide +kernel
theorem dJ6_bitCount_0f7a4_27 : decode cJ6_bitCount_0f7a4 27 = .ok (.iushr, 1) := by decide +kernel
theorem dJ6_bitCount_0f7a4_28 : decode cJ6_bitCount_0f7a4 28 = .ok (.iadd, 1) := by decide +kernel
theorem dJ6_bitCount_0f7a4_29 : decode cJ6_bitCount_0f7a4 29 = .ok (.ldc_w 267, 3) := by decide +kernel
theorem dJ6_bitCount_0f7a4_32 : decode cJ6_bitCount_0f7a4 32 = .ok (.iand, 1) := by decide +kernel
theorem dJ6_bitCount_0f7a4_33 : decode cJ6_bitCount_0f7a4 33 = .ok (.istore_n 0, 1) := by decide +kernel
theorem dJ6_bitCount_0f7a4_34 : decode cJ6_bitCount_0f7a4 34 = .ok (.iload_n 0, 1) := by decide +kernel
theorem dJ6_bitCount_0f7a4_35 : decode cJ6_bitCount_0f7a4 35 = .ok (.iload_n 0, 1) := by decide +kernel
theorem dJ6_bitCount_0f7a4_36 : decode cJ6_bitCount_0f7a4 36 = .ok (.bipush 8, 2) := by decide +kernel
theorem dJ6_bitCount_0f7a4_38 : decode cJ6_bitCount_0f7a4 38 = .ok (.iushr, 1) := by decide +kernel
theorem dJ6_bitCount_0f7a4_39 : decode cJ6_bitCount_0f7a4 39 = .ok (.iadd, 1) := by decide +kernel
theorem dJ6_bitCount_0f7a4_40 : decode cJ6_bitCount_0f7a4 40 = .ok (.istore_n 0, 1) := by decide +kernel
theorem dJ6_bitCount_0f7a4_41 : decode cJ6_bitCount_0f7a4 41 = .ok (.iload_n 0, 1) := by decide +kernel
theorem dJ6_bitCount_0f7a4_42 : decode cJ6_bitCount_0f7a4 42 = .ok (.iload_n 0, 1) := by decide +kernel
theorem dJ6_bitCount_0f7a4_43 : decode cJ6_bitCount_0f7a4 43 = .ok (.bipush 16, 2) := by decide +kernel
theorem dJ6_bitCount_0f7a4_45 : decode cJ6_bitCount_0f7a4 45 = .ok (.iushr, 1) := by decide +kernel
theorem dJ6_bitCount_0f7a4_46 : decode cJ6_bitCount_0f7a4 46 = .ok (.iadd, 1) := by decide +kernel
theorem dJ6_bitCount_0f7a4_47 : decode cJ6_bitCount_0f7a4 47 = .ok (.istore_n 0, 1) := by decide +kernel
theorem dJ6_bitCount_0f7a4_48 : decode cJ6_bitCount_0f7a4 48 = .ok (.iload_n 0, 1) := by decide +kernel
theorem dJ6_bitCount_0f7a4_49 : decode cJ6_bitCount_0f7a4 49 = .ok (.bipush 63, 2) := by decide +kernel
theorem dJ6_bitCount_0f7a4_51 : decode cJ6_bitCount_0f7a4 51 = .ok (.iand, 1) := by decide +kernel
theorem dJ6_bitCount_0f7a4_52 : decode cJ6_bitCount_0f7a4 52 = .ok (.ireturn, 1) := by decide +kernel
set_option maxHeartbeats 4000000 in
set_option maxRecDepth 100000 in
theorem cJ6_bitCount_k {l : Launch} {D : va_G} {a : Nat → Nat} {k : Nat → ClassId} {p0 : Int32} {x0 xz : bq_S} {rz : Int32} (h : fJ6_bitCount  p0 x0 = some (rz, xz)) : bq_M l D bq_cl (bq_ty k) (bq_wC a k) yJ6_bitCount_0f7a4 cJ6_bitCount_0f7a4 1 (some .int) { frames := 0, cells := 0, slots := 0, locals := 0 } [.int p0] x0 (some rz) xz := by
  refine bq_ofW RJ6 [(0, .int p0)] (by decide +kernel) rfl (Nat.le_of_ble_eq_true rfl) rfl (bq_adC a k) ?_
  intro p e s m below meth c A Q ls S hK hD hA hR hS hP hl
  have hx := S.1; have hb := S.2.1; have hml := S.2.2.1; have hown := S.2.2.2.1; have hts := S.2.2.2.2
  have hret : ∀ z, some z = some (rz, xz) → (rz, xz) = z := fun z h => (Option.some.inj h).symm
  unfold fJ6_bitCount at h
  refine lv_iload_n hx hb dJ6_bitCount_0f7a4_0 rfl (lv_at hl 0 rfl) ?_
  refine lv_iload_n hx hb dJ6_bitCount_0f7a4_1 rfl (lv_at hl 0 rfl) ?_
  refine lv_iconst (v := (1 : Int32)) hx hb dJ6_bitCount_0f7a4_2 (by decide) ?_
  refine lv_iushr hx hb dJ6_bitCount_0f7a4_3 rfl ?_
  refine lv_ldcw hx hb hown (hts _ ki_J6_265) dJ6_bitCount_0f7a4_4 ?_
  refine lv_iand hx hb dJ6_bitCount_0f7a4_7 ?_
  refine lv_isub hx hb dJ6_bitCount_0f7a4_8 ?_
  refine lv_topi (fun v1 hv1 => ?_)
  replace h := bq_bv h hv1
  refine lv_istore_n (lv' := [(0, .int v1)]) hx hb dJ6_bitCount_0f7a4_9 rfl hl (by decide) rfl (fun ls hl => ?_)
  refine lv_iload_n hx hb dJ6_bitCount_0f7a4_10 rfl (lv_at hl 0 rfl) ?_
  refine lv_ldcw hx hb hown (hts _ ki_J6_266) dJ6_bitCount_0f7a4_11 ?_
  refine lv_iand hx hb dJ6_bitCount_0f7a4_14 ?_
  refine lv_iload_n hx hb dJ6_bitCount_0f7a4_15 rfl (lv_at hl 0 rfl) ?_
  refine lv_iconst (v := (2 : Int32)) hx hb dJ6_bitCount_0f7a4_16 (by decide) ?_
  refine lv_iushr hx hb dJ6_bitCount_0f7a4_17 rfl ?_
  refine lv_ldcw hx hb hown (hts _ ki_J6_266) dJ6_bitCount_0f7a4_18 ?_
  refine lv_iand hx hb dJ6_bitCount_0f7a4_21 ?_
  refine lv_iadd hx hb dJ6_bitCount_0f7a4_22 ?_
  refine lv_topi (fun v2 hv2 => ?_)
  replace h := bq_bv h hv2
  refine lv_istore_n (lv' := [(0, .int v2)]) hx hb dJ6_bitCount_0f7a4_23 rfl hl (by decide) rfl (fun ls hl => ?_)
  refine lv_iload_n hx hb dJ6_bitCount_0f7a4_24 rfl (lv_at hl 0 rfl) ?_
  refine lv_iload_n hx hb dJ6_bitCount_0f7a4_25 rfl (lv_at hl 0 rfl) ?_
  refine lv_iconst (v := (4 : Int32)) hx hb dJ6_bitCount_0f7a4_26 (by decide) ?_
  refine lv_iushr hx hb dJ6_bitCount_0f7a4_27 rfl ?_
  refine lv_iadd hx hb dJ6_bitCount_0f7a4_28 ?_
  refine lv_ldcw hx hb hown (hts _ ki_J6_267) dJ6_bitCount_0f7a4_29 ?_
  refine lv_iand hx hb dJ6_bitCount_0f7a4_32 ?_
  refine lv_topi (fun v3 hv3 => ?_)
  replace h := bq_bv h hv3
  refine lv_istore_n (lv' := [(0, .int v3)]) hx hb dJ6_bitCount_0f7a4_33 rfl hl (by decide) rfl (fun ls hl => ?_)
  refine lv_iload_n hx hb dJ6_bitCount_0f7a4_34 rfl (lv_at hl 0 rfl) ?_
  refine lv_iload_n hx hb dJ6_bitCount_0f7a4_35 rfl (lv_at hl 0 rfl) ?_
  refine lv_bipush (v := (8 : Int32)) hx hb dJ6_bitCount_0f7a4_36 (by decide) ?_
  refine lv_iushr hx hb dJ6_bitCount_0f7a4_38 rfl ?_
  refine lv_iadd hx hb dJ6_bitCount_0f7a4_39 ?_
  refine lv_topi (fun v4 hv4 => ?_)
  replace h := bq_bv h hv4
  refine lv_istore_n (lv' := [(0, .int v4)]) hx hb dJ6_bitCount_0f7a4_40 rfl hl (by decide) rfl (fun ls hl => ?_)
  refine lv_iload_n hx hb dJ6_bitCount_0f7a4_41 rfl (lv_at hl 0 rfl) ?_
  refine lv_iload_n hx hb dJ6_bitCount_0f7a4_42 rfl (lv_at hl 0 rfl) ?_
  refine lv_bipush (v := (16 : Int32)) hx hb dJ6_bitCount_0f7a4_43 (by decide) ?_
  refine lv_iushr hx hb dJ6_bitCount_0f7a4_45 rfl ?_
  refine lv_iadd hx hb dJ6_bitCount_0f7a4_46 ?_
  refine lv_topi (fun v5 hv5 => ?_)
  replace h := bq_bv h hv5
  refine lv_istore_n (lv' := [(0, .int v5)]) hx hb dJ6_bitCount_0f7a4_47 rfl hl (by decide) rfl (fun ls hl => ?_)
  refine lv_iload_n hx hb dJ6_bitCount_0f7a4_48 rfl (lv_at hl 0 rfl) ?_
  refine lv_bipush (v := (63 : Int32)) hx hb dJ6_bitCount_0f7a4_49 (by decide) ?_
  refine lv_iand hx hb dJ6_bitCount_0f7a4_51 ?_
  obtain ⟨e1, e2⟩ := Prod.mk.inj (hret _ h)
  exact hR _ _ _ _ _ (congrArg some e1) rfl (by rw [e2]; exact hP) hS dJ6_bitCount_0f7a4_52
def fX4_bitsOf_b4 (n : Nat) (r1 : Nat) (lb2 : Nat) (v : Int32 × Int32 × bq_S) : Option ((Int32 × Int32 × bq_S) ⊕ (Int32 × Int32 × bq_S)) :=
  un3 v (fun v3 v4 x5 =>
  if (8 : Int32) ≤ v4 then
  some (.inr (v3, v4, x5))
  else
  if ok_i v4 lb2 then
  (fJ6_bitCount (x5.1 r1 v4.toNatClampNeg) x5).bind (fun o8 => un2 o8 (fun v10 x9 =>
  bd (v3 + v10) (fun v11 =>
  bd (v4 + (1 : Int32)) (fun v12 =>
  some (.inl (v11, v12, x9))))))
  else none)
def fX4_bitsOf (n : Nat) (q0 : Nat) (q1 : Nat) (la1 : Nat) (x0 : bq_S) : Option (Int32 × bq_S) :=
  (wh n (fX4_bitsOf_b4 n q1 la1) ((0 : Int32), (0 : Int32), x0)).bind (fun e13 => un3 e13 (fun v14 v15 x16 =>
  some (v14, x16)))
theorem dX4_bitsOf_0 : decode cX4_bitsOf 0 = .ok (.iconst 0, 1) := by decide +kernel
theorem dX4_bitsOf_1 : decode cX4_bitsOf 1 = .ok (.istore_n 2, 1) := by decide +kernel
theorem dX4_bitsOf_2 : decode cX4_bitsOf 2 = .ok (.iconst 0, 1) := by decide +kernel
theorem dX4_bitsOf_3 : decode cX4_bitsOf 3 = .ok (.istore_n 3, 1) := by decide +kernel
theorem dX4_bitsOf_4 : decode cX4_bitsOf 4 = .ok (.iload_n 3, 1) := by decide +kernel
theorem dX4_bitsOf_5 : decode cX4_bitsOf 5 = .ok (.bipush 8, 2) := by decide +kernel
theorem dX4_bitsOf_7 : decode cX4_bitsOf 7 = .ok (.if_icmp .ge 18, 3) := by decide +kernel
theorem dX4_bitsOf_10 : decode cX4_bitsOf 10 = .ok (.iload_n 2, 1) := by decide +kernel
theorem dX4_bitsOf_11 : decode cX4_bitsOf 11 = .ok (.aload_n 1, 1) := by decide +kernel
theorem dX4_bitsOf_12 : decode cX4_bitsOf 12 = .ok (.iload_n 3, 1) := by decide +kernel
theorem dX4_bitsOf_13 : decode cX4_bitsOf 13 = .ok (.iaload, 1) := by decide +kernel
theorem dX4_bitsOf_14 : decode cX4_bitsOf 14 = .ok (.invokestatic 99, 3) := by decide +kernel
theorem dX4_bitsOf_17 : decode cX4_bitsOf 17 = .ok (.iadd, 1) := by decide +kernel
theorem dX4_bitsOf_18 : decode cX4_bitsOf 18 = .ok (.istore_n 2, 1) := by decide +kernel
theorem dX4_bitsOf_19 : decode cX4_bitsOf 19 = .ok (.iinc 3 1, 3) := by decide +kernel
theorem dX4_bitsOf_22 : decode cX4_bitsOf 22 = .ok (.goto (-18), 3) := by decide +kernel
theorem dX4_bitsOf_25 : decode cX4_bitsOf 25 = .ok (.iload_n 2, 1) := by decide +kernel
theorem dX4_bitsOf_26 : decode cX4_bitsOf 26 = .ok (.ireturn, 1) := by decide +kernel
set_option maxHeartbeats 4000000 in
set_option maxRecDepth 100000 in
theorem cX4_bitsOf_k_1_3 {l : Launch} {D : va_G} {a : Nat → Nat} {k : Nat → ClassId} {n : Nat} {x0 xz : bq_S} {rz : Int32} (h : fX4_bitsOf n 1 3 8 x0 = some (rz, xz)) : bq_M l D bq_cl (bq_ty k) (bq_wC a k) yX4_bitsOf cX4_bitsOf 4 (some .int) { frames := 1, cells := 0, slots := 0, locals := 20 } [.ref (a 1), .ref (a 3)] x0 (some rz) xz := by
  refine bq_ofW RX4 [(0, .ref (a 1)), (1, .ref (a 3))] (by decide +kernel) rfl (Nat.le_of_ble_eq_true rfl) rfl (bq_adC a k) ?_
  intro p e s m below meth c A Q ls S hK hD hA hR hS hP hl
  have hx := S.1; have hb := S.2.1; have hml := S.2.2.1; have hown := S.2.2.2.1; have hts := S.2.2.2.2
  have hret : ∀ z, some z = some (rz, xz) → (rz, xz) = z := fun z h => (Option.some.inj h).symm
  unfold fX4_bitsOf at h
  refine lv_iconst (v := (0 : Int32)) hx hb dX4_bitsOf_0 (by decide) ?_
  refine lv_istore_n (lv' := [(2, .int (0 : Int32)), (0, .ref (a 1)), (1, .ref (a 3))]) hx hb dX4_bitsOf_1 rfl hl (by decide) rfl (fun ls hl => ?_)
  refine lv_iconst (v := (0 : Int32)) hx hb dX4_bitsOf_2 (by decide) ?_
  refine lv_istore_n (lv' := [(3, .int (0 : Int32)), (2, .int (0 : Int32)), (0, .ref (a 1)), (1, .ref (a 3))]) hx hb dX4_bitsOf_3 rfl hl (by decide) rfl (fun ls hl => ?_)
  have hl4 : ∀ (kf : Nat) (v3 : Int32) (v4 : Int32) (x5 : bq_S) (eo : Int32 × Int32 × bq_S) (H : Heap) (locs : List Loc) (ls : Array Slot), wh kf (fX4_bitsOf_b4 n 3 8) (v3, v4, x5) = some eo → va_P D bq_cl (bq_wC a k x5) H → va_S A s.heap H locs → lv_has ls 4 [(1, .ref (a 3)), (2, .int v3), (3, .int v4)] → (∀ (H : Heap) (locs : List Loc) (ls : Array Slot) (v14 : Int32) (v15 : Int32) (x16 : bq_S), eo = (v14, v15, x16) → va_P D bq_cl (bq_wC a k x16) H → va_S A s.heap H locs → lv_has ls 4 [(2, .int v14)] → W p l e { frames := 1, cells := 0, slots := 0, locals := 20 } s m [.ref (a 1), .ref (a 3)].toArray below meth c H locs 0 0 Q (F0 m 25 ls [])) → W p l e { frames := 1, cells := 0, slots := 0, locals := 20 } s m [.ref (a 1), .ref (a 3)].toArray below meth c H locs 0 0 Q (F0 m 4 ls []) := by
    intro  kf
    induction kf with
    | zero => intro v3 v4 x5 eo H locs ls h; cases h
    | succ kf ih =>
      intro v3 v4 x5 eo H locs ls h hP hS hl kx
      obtain ⟨out, h, hw⟩ := wh_s h
      unfold fX4_bitsOf_b4 at h
      replace h := un3_e h
      refine lv_iload_n hx hb dX4_bitsOf_4 rfl (lv_at hl 2 rfl) ?_
      refine lv_bipush (v := (8 : Int32)) hx hb dX4_bitsOf_5 (by decide) ?_
      refine lv_icmp_ge (tgt := 25) hx hb dX4_bitsOf_7 (by decide) (fun c6 => ?_) (fun c6 => ?_)
      · replace h := (if_pos c6).symm.trans h
        cases h
        exact kx _ _ _ _ _ _ (Option.some.inj hw).symm hP hS (lv_sub hl [1] rfl)
      · replace h := (if_neg c6).symm.trans h
        refine lv_iload_n hx hb dX4_bitsOf_10 rfl (lv_at hl 1 rfl) ?_
        refine lv_aload_n hx hb dX4_bitsOf_11 rfl (lv_at hl 0 rfl) ?_
        refine lv_iload_n hx hb dX4_bitsOf_12 rfl (lv_at hl 2 rfl) ?_
        obtain ⟨g7, h⟩ := bq_gd h
        refine va_iald (D := D) hx hb hK hP 3 0 rfl rfl g7 dX4_bitsOf_13 ?_
        obtain ⟨o8, ho8, h⟩ := Option.bind_eq_some_iff.mp h
        obtain ⟨v10, x9⟩ := o8
        replace h := un2_e h
        refine bq_callSi (As := [.int _]) S hK hD hA hP hS (cJ6_bitCount_k ho8) hd_yJ6_bitCount_0f7a4 ml_X4_99 st_yJ6_bitCount_0f7a4 ⟨rfl, rfl⟩ ⟨by decide, by decide⟩ rfl hl.1 rfl (Nat.le_of_ble_eq_true rfl) ⟨Nat.zero_le _, Nat.zero_le _⟩ dX4_bitsOf_14 (fun H locs hP hS => ?_)
        refine lv_iadd hx hb dX4_bitsOf_17 ?_
        refine lv_topi (fun v11 hv11 => ?_)
        replace h := bq_bv h hv11
        refine lv_istore_n (lv' := [(2, .int v11), (1, .ref (a 3)), (3, .int v4)]) hx hb dX4_bitsOf_18 rfl hl (by decide) rfl (fun ls hl => ?_)
        obtain ⟨v12, hv12, h⟩ := bq_b h
        refine lv_iinc (v := v12) (lv' := [(3, .int v12), (2, .int v11), (1, .ref (a 3))]) hx hb dX4_bitsOf_19 hl (k := 2) rfl (by rw [hv12]; rfl) (by decide) rfl (fun ls hl => ?_)
        refine lv_goto (tgt := 4) hx hb dX4_bitsOf_22 (by decide) ?_
        cases h
        exact ih _ _ _ _ _ _ _ hw hP hS (lv_sub hl [2, 1, 0] rfl) kx
  obtain ⟨e13, he13, h⟩ := Option.bind_eq_some_iff.mp h
  refine hl4 n _ _ _ e13 _ _ _ he13 hP hS (lv_sub hl [3, 1, 0] rfl) (fun H locs ls v14 v15 x16 hz hP hS hl => ?_)
  subst hz
  replace h := un3_e h
  refine lv_iload_n hx hb dX4_bitsOf_25 rfl (lv_at hl 0 rfl) ?_
  obtain ⟨e1, e2⟩ := Prod.mk.inj (hret _ h)
  exact hR _ _ _ _ _ (congrArg some e1) rfl (by rw [e2]; exact hP) hS dX4_bitsOf_26
set_option maxHeartbeats 4000000 in
set_option maxRecDepth 100000 in
theorem cX4_bitsOf_k_1_4 {l : Launch} {D : va_G} {a : Nat → Nat} {k : Nat → ClassId} {n : Nat} {x0 xz : bq_S} {rz : Int32} (h : fX4_bitsOf n 1 4 8 x0 = some (rz, xz)) : bq_M l D bq_cl (bq_ty k) (bq_wC a k) yX4_bitsOf cX4_bitsOf 4 (some .int) { frames := 1, cells := 0, slots := 0, locals := 20 } [.ref (a 1), .ref (a 4)] x0 (some rz) xz := by
  refine bq_ofW RX4 [(0, .ref (a 1)), (1, .ref (a 4))] (by decide +kernel) rfl (Nat.le_of_ble_eq_true rfl) rfl (bq_adC a k) ?_
  intro p e s m below meth c A Q ls S hK hD hA hR hS hP hl
  have hx := S.1; have hb := S.2.1; have hml := S.2.2.1; have hown := S.2.2.2.1; have hts := S.2.2.2.2
  have hret : ∀ z, some z = some (rz, xz) → (rz, xz) = z := fun z h => (Option.some.inj h).symm
  unfold fX4_bitsOf at h
  refine lv_iconst (v := (0 : Int32)) hx hb dX4_bitsOf_0 (by decide) ?_
  refine lv_istore_n (lv' := [(2, .int (0 : Int32)), (0, .ref (a 1)), (1, .ref (a 4))]) hx hb dX4_bitsOf_1 rfl hl (by decide) rfl (fun ls hl => ?_)
  refine lv_iconst (v := (0 : Int32)) hx hb dX4_bitsOf_2 (by decide) ?_
  refine lv_istore_n (lv' := [(3, .int (0 : Int32)), (2, .int (0 : Int32)), (0, .ref (a 1)), (1, .ref (a 4))]) hx hb dX4_bitsOf_3 rfl hl (by decide) rfl (fun ls hl => ?_)
  have hl4 : ∀ (kf : Nat) (v3 : Int32) (v4 : Int32) (x5 : bq_S) (eo : Int32 × Int32 × bq_S) (H : Heap) (locs : List Loc) (ls : Array Slot), wh kf (fX4_bitsOf_b4 n 4 8) (v3, v4, x5) = some eo → va_P D bq_cl (bq_wC a k x5) H → va_S A s.heap H locs → lv_has ls 4 [(1, .ref (a 4)), (2, .int v3), (3, .int v4)] → (∀ (H : Heap) (locs : List Loc) (ls : Array Slot) (v14 : Int32) (v15 : Int32) (x16 : bq_S), eo = (v14, v15, x16) → va_P D bq_cl (bq_wC a k x16) H → va_S A s.heap H locs → lv_has ls 4 [(2, .int v14)] → W p l e { frames := 1, cells := 0, slots := 0, locals := 20 } s m [.ref (a 1), .ref (a 4)].toArray below meth c H locs 0 0 Q (F0 m 25 ls [])) → W p l e { frames := 1, cells := 0, slots := 0, locals := 20 } s m [.ref (a 1), .ref (a 4)].toArray below meth c H locs 0 0 Q (F0 m 4 ls []) := by
    intro  kf
    induction kf with
    | zero => intro v3 v4 x5 eo H locs ls h; cases h
    | succ kf ih =>
      intro v3 v4 x5 eo H locs ls h hP hS hl kx
      obtain ⟨out, h, hw⟩ := wh_s h
      unfold fX4_bitsOf_b4 at h
      replace h := un3_e h
      refine lv_iload_n hx hb dX4_bitsOf_4 rfl (lv_at hl 2 rfl) ?_
      refine lv_bipush (v := (8 : Int32)) hx hb dX4_bitsOf_5 (by decide) ?_
      refine lv_icmp_ge (tgt := 25) hx hb dX4_bitsOf_7 (by decide) (fun c6 => ?_) (fun c6 => ?_)
      · replace h := (if_pos c6).symm.trans h
        cases h
        exact kx _ _ _ _ _ _ (Option.some.inj hw).symm hP hS (lv_sub hl [1] rfl)
      · replace h := (if_neg c6).symm.trans h
        refine lv_iload_n hx hb dX4_bitsOf_10 rfl (lv_at hl 1 rfl) ?_
        refine lv_aload_n hx hb dX4_bitsOf_11 rfl (lv_at hl 0 rfl) ?_
        refine lv_iload_n hx hb dX4_bitsOf_12 rfl (lv_at hl 2 rfl) ?_
        obtain ⟨g7, h⟩ := bq_gd h
        refine va_iald (D := D) hx hb hK hP 4 0 rfl rfl g7 dX4_bitsOf_13 ?_
        obtain ⟨o8, ho8, h⟩ := Option.bind_eq_some_iff.mp h
        obtain ⟨v10, x9⟩ := o8
        replace h := un2_e h
        refine bq_callSi (As := [.int _]) S hK hD hA hP hS (cJ6_bitCount_k ho8) hd_yJ6_bitCount_0f7a4 ml_X4_99 st_yJ6_bitCount_0f7a4 ⟨rfl, rfl⟩ ⟨by decide, by decide⟩ rfl hl.1 rfl (Nat.le_of_ble_eq_true rfl) ⟨Nat.zero_le _, Nat.zero_le _⟩ dX4_bitsOf_14 (fun H locs hP hS => ?_)
        refine lv_iadd hx hb dX4_bitsOf_17 ?_
        refine lv_topi (fun v11 hv11 => ?_)
        replace h := bq_bv h hv11
        refine lv_istore_n (lv' := [(2, .int v11), (1, .ref (a 4)), (3, .int v4)]) hx hb dX4_bitsOf_18 rfl hl (by decide) rfl (fun ls hl => ?_)
        obtain ⟨v12, hv12, h⟩ := bq_b h
        refine lv_iinc (v := v12) (lv' := [(3, .int v12), (2, .int v11), (1, .ref (a 4))]) hx hb dX4_bitsOf_19 hl (k := 2) rfl (by rw [hv12]; rfl) (by decide) rfl (fun ls hl => ?_)
        refine lv_goto (tgt := 4) hx hb dX4_bitsOf_22 (by decide) ?_
        cases h
        exact ih _ _ _ _ _ _ _ hw hP hS (lv_sub hl [2, 1, 0] rfl) kx
  obtain ⟨e13, he13, h⟩ := Option.bind_eq_some_iff.mp h
  refine hl4 n _ _ _ e13 _ _ _ he13 hP hS (lv_sub hl [3, 1, 0] rfl) (fun H locs ls v14 v15 x16 hz hP hS hl => ?_)
  subst hz
  replace h := un3_e h
  refine lv_iload_n hx hb dX4_bitsOf_25 rfl (lv_at hl 0 rfl) ?_
  obtain ⟨e1, e2⟩ := Prod.mk.inj (hret _ h)
  exact hR _ _ _ _ _ (congrArg some e1) rfl (by rw [e2]; exact hP) hS dX4_bitsOf_26
set_option maxHeartbeats 4000000 in
set_option maxRecDepth 100000 in
theorem cX4_bitsOf_k_1_7 {l : Launch} {D : va_G} {a : Nat → Nat} {k : Nat → ClassId} {n : Nat} {x0 xz : bq_S} {rz : Int32} (h : fX4_bitsOf n 1 7 8 x0 = some (rz, xz)) : bq_M l D bq_cl (bq_ty k) (bq_wC a k) yX4_bitsOf cX4_bitsOf 4 (some .int) { frames := 1, cells := 0, slots := 0, locals := 20 } [.ref (a 1), .ref (a 7)] x0 (some rz) xz := by
  refine bq_ofW RX4 [(0, .ref (a 1)), (1, .ref (a 7))] (by decide +kernel) rfl (Nat.le_of_ble_eq_true rfl) rfl (bq_adC a k) ?_
  intro p e s m below meth c A Q ls S hK hD hA hR hS hP hl
  have hx := S.1; have hb := S.2.1; have hml := S.2.2.1; have hown := S.2.2.2.1; have hts := S.2.2.2.2
  have hret : ∀ z, some z = some (rz, xz) → (rz, xz) = z := fun z h => (Option.some.inj h).symm
  unfold fX4_bitsOf at h
  refine lv_iconst (v := (0 : Int32)) hx hb dX4_bitsOf_0 (by decide) ?_
  refine lv_istore_n (lv' := [(2, .int (0 : Int32)), (0, .ref (a 1)), (1, .ref (a 7))]) hx hb dX4_bitsOf_1 rfl hl (by decide) rfl (fun ls hl => ?_)
  refine lv_iconst (v := (0 : Int32)) hx hb dX4_bitsOf_2 (by decide) ?_
  refine lv_istore_n (lv' := [(3, .int (0 : Int32)), (2, .int (0 : Int32)), (0, .ref (a 1)), (1, .ref (a 7))]) hx hb dX4_bitsOf_3 rfl hl (by decide) rfl (fun ls hl => ?_)
  have hl4 : ∀ (kf : Nat) (v3 : Int32) (v4 : Int32) (x5 : bq_S) (eo : Int32 × Int32 × bq_S) (H : Heap) (locs : List Loc) (ls : Array Slot), wh kf (fX4_bitsOf_b4 n 7 8) (v3, v4, x5) = some eo → va_P D bq_cl (bq_wC a k x5) H → va_S A s.heap H locs → lv_has ls 4 [(1, .ref (a 7)), (2, .int v3), (3, .int v4)] → (∀ (H : Heap) (locs : List Loc) (ls : Array Slot) (v14 : Int32) (v15 : Int32) (x16 : bq_S), eo = (v14, v15, x16) → va_P D bq_cl (bq_wC a k x16) H → va_S A s.heap H locs → lv_has ls 4 [(2, .int v14)] → W p l e { frames := 1, cells := 0, slots := 0, locals := 20 } s m [.ref (a 1), .ref (a 7)].toArray below meth c H locs 0 0 Q (F0 m 25 ls [])) → W p l e { frames := 1, cells := 0, slots := 0, locals := 20 } s m [.ref (a 1), .ref (a 7)].toArray below meth c H locs 0 0 Q (F0 m 4 ls []) := by
    intro  kf
    induction kf with
    | zero => intro v3 v4 x5 eo H locs ls h; cases h
    | succ kf ih =>
      intro v3 v4 x5 eo H locs ls h hP hS hl kx
      obtain ⟨out, h, hw⟩ := wh_s h
      unfold fX4_bitsOf_b4 at h
      replace h := un3_e h
      refine lv_iload_n hx hb dX4_bitsOf_4 rfl (lv_at hl 2 rfl) ?_
      refine lv_bipush (v := (8 : Int32)) hx hb dX4_bitsOf_5 (by decide) ?_
      refine lv_icmp_ge (tgt := 25) hx hb dX4_bitsOf_7 (by decide) (fun c6 => ?_) (fun c6 => ?_)
      · replace h := (if_pos c6).symm.trans h
        cases h
        exact kx _ _ _ _ _ _ (Option.some.inj hw).symm hP hS (lv_sub hl [1] rfl)
      · replace h := (if_neg c6).symm.trans h
        refine lv_iload_n hx hb dX4_bitsOf_10 rfl (lv_at hl 1 rfl) ?_
        refine lv_aload_n hx hb dX4_bitsOf_11 rfl (lv_at hl 0 rfl) ?_
        refine lv_iload_n hx hb dX4_bitsOf_12 rfl (lv_at hl 2 rfl) ?_
        obtain ⟨g7, h⟩ := bq_gd h
        refine va_iald (D := D) hx hb hK hP 7 0 rfl rfl g7 dX4_bitsOf_13 ?_
        obtain ⟨o8, ho8, h⟩ := Option.bind_eq_some_iff.mp h
        obtain ⟨v10, x9⟩ := o8
        replace h := un2_e h
        refine bq_callSi (As := [.int _]) S hK hD hA hP hS (cJ6_bitCount_k ho8) hd_yJ6_bitCount_0f7a4 ml_X4_99 st_yJ6_bitCount_0f7a4 ⟨rfl, rfl⟩ ⟨by decide, by decide⟩ rfl hl.1 rfl (Nat.le_of_ble_eq_true rfl) ⟨Nat.zero_le _, Nat.zero_le _⟩ dX4_bitsOf_14 (fun H locs hP hS => ?_)
        refine lv_iadd hx hb dX4_bitsOf_17 ?_
        refine lv_topi (fun v11 hv11 => ?_)
        replace h := bq_bv h hv11
        refine lv_istore_n (lv' := [(2, .int v11), (1, .ref (a 7)), (3, .int v4)]) hx hb dX4_bitsOf_18 rfl hl (by decide) rfl (fun ls hl => ?_)
        obtain ⟨v12, hv12, h⟩ := bq_b h
        refine lv_iinc (v := v12) (lv' := [(3, .int v12), (2, .int v11), (1, .ref (a 7))]) hx hb dX4_bitsOf_19 hl (k := 2) rfl (by rw [hv12]; rfl) (by decide) rfl (fun ls hl => ?_)
        refine lv_goto (tgt := 4) hx hb dX4_bitsOf_22 (by decide) ?_
        cases h
        exact ih _ _ _ _ _ _ _ hw hP hS (lv_sub hl [2, 1, 0] rfl) kx
  obtain ⟨e13, he13, h⟩ := Option.bind_eq_some_iff.mp h
  refine hl4 n _ _ _ e13 _ _ _ he13 hP hS (lv_sub hl [3, 1, 0] rfl) (fun H locs ls v14 v15 x16 hz hP hS hl => ?_)
  subst hz
  replace h := un3_e h
  refine lv_iload_n hx hb dX4_bitsOf_25 rfl (lv_at hl 0 rfl) ?_
  obtain ⟨e1, e2⟩ := Prod.mk.inj (hret _ h)
  exact hR _ _ _ _ _ (congrArg some e1) rfl (by rw [e2]; exact hP) hS dX4_bitsOf_26
def fX4_setAt_b5 (n : Nat) (r1 : Nat) (v2 : Int32) (v : Int32 × Int32 × bq_S) : Option ((Int32 × Int32 × bq_S) ⊕ (Int32 × Int32 × bq_S)) :=
  un3 v (fun v3 v4 x5 =>
  if v2 ≤ v4 then
  some (.inr (v3, v4, x5))
  else
  if ok_i v4 8 then
  (fX9_bit (x5.1 (r1 + 5) v4.toNatClampNeg) x5).bind (fun o8 => un2 o8 (fun v10 x9 =>
  bd (v3 ||| v10) (fun v11 =>
  bd (v4 + (1 : Int32)) (fun v12 =>
  some (.inl (v11, v12, x9))))))
  else none)
def fX4_setAt (n : Nat) (q0 : Nat) (p1 : Int32) (p2 : Int32) (x0 : bq_S) : Option (Int32 × bq_S) :=
  (wh n (fX4_setAt_b5 n q0 p2) ((0 : Int32), p1, x0)).bind (fun e13 => un3 e13 (fun v14 v15 x16 =>
  some (v14, x16)))
theorem dX4_setAt_0 : decode cX4_setAt 0 = .ok (.iconst 0, 1) := by decide +kernel
theorem dX4_setAt_1 : decode cX4_setAt 1 = .ok (.istore_n 3, 1) := by decide +kernel
theorem dX4_setAt_2 : decode cX4_setAt 2 = .ok (.iload_n 1, 1) := by decide +kernel
theorem dX4_setAt_3 : decode cX4_setAt 3 = .ok (.istore 4, 2) := by decide +kernel
theorem dX4_setAt_5 : decode cX4_setAt 5 = .ok (.iload 4, 2) := by decide +kernel
theorem dX4_setAt_7 : decode cX4_setAt 7 = .ok (.iload_n 2, 1) := by decide +kernel
theorem dX4_setAt_8 : decode cX4_setAt 8 = .ok (.if_icmp .ge 22, 3) := by decide +kernel
theorem dX4_setAt_11 : decode cX4_setAt 11 = .ok (.iload_n 3, 1) := by decide +kernel
theorem dX4_setAt_12 : decode cX4_setAt 12 = .ok (.aload_n 0, 1) := by decide +kernel
theorem dX4_setAt_13 : decode cX4_setAt 13 = .ok (.getfield 34, 3) := by decide +kernel
theorem dX4_setAt_16 : decode cX4_setAt 16 = .ok (.iload 4, 2) := by decide +kernel
theorem dX4_setAt_18 : decode cX4_setAt 18 = .ok (.iaload, 1) := by decide +kernel
theorem dX4_setAt_19 : decode cX4_setAt 19 = .ok (.invokestatic 70, 3) := by decide +kernel
theorem dX4_setAt_22 : decode cX4_setAt 22 = .ok (.ior, 1) := by decide +kernel
theorem dX4_setAt_23 : decode cX4_setAt 23 = .ok (.istore_n 3, 1) := by decide +kernel
theorem dX4_setAt_24 : decode cX4_setAt 24 = .ok (.iinc 4 1, 3) := by decide +kernel
theorem dX4_setAt_27 : decode cX4_setAt 27 = .ok (.goto (-22), 3) := by decide +kernel
theorem dX4_setAt_30 : decode cX4_setAt 30 = .ok (.iload_n 3, 1) := by decide +kernel
theorem dX4_setAt_31 : decode cX4_setAt 31 = .ok (.ireturn, 1) := by decide +kernel
set_option maxHeartbeats 4000000 in
set_option maxRecDepth 100000 in
theorem cX4_setAt_k_1 {l : Launch} {D : va_G} {a : Nat → Nat} {k : Nat → ClassId} {n : Nat} {p1 : Int32} {p2 : Int32} {x0 xz : bq_S} {rz : Int32} (h : fX4_setAt n 1 p1 p2 x0 = some (rz, xz)) : bq_M l D bq_cl (bq_ty k) (bq_wC a k) yX4_setAt cX4_setAt 5 (some .int) { frames := 1, cells := 0, slots := 0, locals := 20 } [.ref (a 1), .int p1, .int p2] x0 (some rz) xz := by
  refine bq_ofW RX4 [(0, .ref (a 1)), (1, .int p1), (2, .int p2)] (by decide +kernel) rfl (Nat.le_of_ble_eq_true rfl) rfl (bq_adC a k) ?_
  intro p e s m below meth c A Q ls S hK hD hA hR hS hP hl
  have hx := S.1; have hb := S.2.1; have hml := S.2.2.1; have hown := S.2.2.2.1; have hts := S.2.2.2.2
  have hret : ∀ z, some z = some (rz, xz) → (rz, xz) = z := fun z h => (Option.some.inj h).symm
  unfold fX4_setAt at h
  refine lv_iconst (v := (0 : Int32)) hx hb dX4_setAt_0 (by decide) ?_
  refine lv_istore_n (lv' := [(3, .int (0 : Int32)), (0, .ref (a 1)), (1, .int p1), (2, .int p2)]) hx hb dX4_setAt_1 rfl hl (by decide) rfl (fun ls hl => ?_)
  refine lv_iload_n hx hb dX4_setAt_2 rfl (lv_at hl 2 rfl) ?_
  refine lv_istore (lv' := [(4, .int p1), (3, .int (0 : Int32)), (0, .ref (a 1)), (1, .int p1), (2, .int p2)]) hx hb dX4_setAt_3 hl (by decide) rfl (fun ls hl => ?_)
  have hl5 : ∀ (v2 : Int32) (kf : Nat) (v3 : Int32) (v4 : Int32) (x5 : bq_S) (eo : Int32 × Int32 × bq_S) (H : Heap) (locs : List Loc) (ls : Array Slot), wh kf (fX4_setAt_b5 n 1 v2) (v3, v4, x5) = some eo → va_P D bq_cl (bq_wC a k x5) H → va_S A s.heap H locs → lv_has ls 5 [(0, .ref (a 1)), (2, .int v2), (3, .int v3), (4, .int v4)] → (∀ (H : Heap) (locs : List Loc) (ls : Array Slot) (v14 : Int32) (v15 : Int32) (x16 : bq_S), eo = (v14, v15, x16) → va_P D bq_cl (bq_wC a k x16) H → va_S A s.heap H locs → lv_has ls 5 [(3, .int v14)] → W p l e { frames := 1, cells := 0, slots := 0, locals := 20 } s m [.ref (a 1), .int p1, .int p2].toArray below meth c H locs 0 0 Q (F0 m 30 ls [])) → W p l e { frames := 1, cells := 0, slots := 0, locals := 20 } s m [.ref (a 1), .int p1, .int p2].toArray below meth c H locs 0 0 Q (F0 m 5 ls []) := by
    intro v2 kf
    induction kf with
    | zero => intro v3 v4 x5 eo H locs ls h; cases h
    | succ kf ih =>
      intro v3 v4 x5 eo H locs ls h hP hS hl kx
      obtain ⟨out, h, hw⟩ := wh_s h
      unfold fX4_setAt_b5 at h
      replace h := un3_e h
      refine lv_iload hx hb dX4_setAt_5 (lv_at hl 3 rfl) ?_
      refine lv_iload_n hx hb dX4_setAt_7 rfl (lv_at hl 1 rfl) ?_
      refine lv_icmp_ge (tgt := 30) hx hb dX4_setAt_8 (by decide) (fun c6 => ?_) (fun c6 => ?_)
      · replace h := (if_pos c6).symm.trans h
        cases h
        exact kx _ _ _ _ _ _ (Option.some.inj hw).symm hP hS (lv_sub hl [2] rfl)
      · replace h := (if_neg c6).symm.trans h
        refine lv_iload_n hx hb dX4_setAt_11 rfl (lv_at hl 2 rfl) ?_
        refine lv_aload_n hx hb dX4_setAt_12 rfl (lv_at hl 0 rfl) ?_
        refine bq_get (q0 := 1) S hK hP fl_X4_34_X4_7 rfl rfl rfl dX4_setAt_13 ?_
        refine lv_iload hx hb dX4_setAt_16 (lv_at hl 3 rfl) ?_
        obtain ⟨g7, h⟩ := bq_gd h
        refine va_iald (D := D) hx hb hK hP 6 0 rfl rfl g7 dX4_setAt_18 ?_
        obtain ⟨o8, ho8, h⟩ := Option.bind_eq_some_iff.mp h
        obtain ⟨v10, x9⟩ := o8
        replace h := un2_e h
        refine bq_callSNi (As := [.int _]) S hK hD hA hP hS (cX9_bit_k ho8) hd_yX9_bit mn_X4_70 st_yX9_bit ⟨rfl, rfl⟩ ⟨by decide, by decide⟩ rfl hl.1 rfl (Nat.le_of_ble_eq_true rfl) ⟨Nat.zero_le _, Nat.zero_le _⟩ dX4_setAt_19 (fun H locs hP hS => ?_)
        refine lv_ior hx hb dX4_setAt_22 ?_
        refine lv_topi (fun v11 hv11 => ?_)
        replace h := bq_bv h hv11
        refine lv_istore_n (lv' := [(3, .int v11), (0, .ref (a 1)), (2, .int v2), (4, .int v4)]) hx hb dX4_setAt_23 rfl hl (by decide) rfl (fun ls hl => ?_)
        obtain ⟨v12, hv12, h⟩ := bq_b h
        refine lv_iinc (v := v12) (lv' := [(4, .int v12), (3, .int v11), (0, .ref (a 1)), (2, .int v2)]) hx hb dX4_setAt_24 hl (k := 3) rfl (by rw [hv12]; rfl) (by decide) rfl (fun ls hl => ?_)
        refine lv_goto (tgt := 5) hx hb dX4_setAt_27 (by decide) ?_
        cases h
        exact ih _ _ _ _ _ _ _ hw hP hS (lv_sub hl [2, 3, 1, 0] rfl) kx
  obtain ⟨e13, he13, h⟩ := Option.bind_eq_some_iff.mp h
  refine hl5 _ n _ _ _ e13 _ _ _ he13 hP hS (lv_sub hl [2, 4, 1, 0] rfl) (fun H locs ls v14 v15 x16 hz hP hS hl => ?_)
  subst hz
  replace h := un3_e h
  refine lv_iload_n hx hb dX4_setAt_30 rfl (lv_at hl 0 rfl) ?_
  obtain ⟨e1, e2⟩ := Prod.mk.inj (hret _ h)
  exact hR _ _ _ _ _ (congrArg some e1) rfl (by rw [e2]; exact hP) hS dX4_setAt_31
def fX4_hallSet (n : Nat) (q0 : Nat) (x0 : bq_S) : Option (Int32 × bq_S) :=
  (fX4_setAt n q0 (0 : Int32) (x0.1 q0 2) x0).bind (fun o1 => un2 o1 (fun v3 x2 =>
  some (v3, x2)))
theorem dX4_hallSet_0 : decode cX4_hallSet 0 = .ok (.aload_n 0, 1) := by decide +kernel
theorem dX4_hallSet_1 : decode cX4_hallSet 1 = .ok (.iconst 0, 1) := by decide +kernel
theorem dX4_hallSet_2 : decode cX4_hallSet 2 = .ok (.aload_n 0, 1) := by decide +kernel
theorem dX4_hallSet_3 : decode cX4_hallSet 3 = .ok (.getfield 18, 3) := by decide +kernel
theorem dX4_hallSet_6 : decode cX4_hallSet 6 = .ok (.invokevirtual 95, 3) := by decide +kernel
theorem dX4_hallSet_9 : decode cX4_hallSet 9 = .ok (.ireturn, 1) := by decide +kernel
set_option maxHeartbeats 4000000 in
set_option maxRecDepth 100000 in
theorem cX4_hallSet_k_1 {l : Launch} {D : va_G} {a : Nat → Nat} {k : Nat → ClassId} {n : Nat} {x0 xz : bq_S} {rz : Int32} (h : fX4_hallSet n 1 x0 = some (rz, xz)) : bq_M l D bq_cl (bq_ty k) (bq_wC a k) yX4_hallSet cX4_hallSet 1 (some .int) { frames := 2, cells := 0, slots := 0, locals := 44 } [.ref (a 1)] x0 (some rz) xz := by
  refine bq_ofW RX4 [(0, .ref (a 1))] (by decide +kernel) rfl (Nat.le_of_ble_eq_true rfl) rfl (bq_adC a k) ?_
  intro p e s m below meth c A Q ls S hK hD hA hR hS hP hl
  have hx := S.1; have hb := S.2.1; have hml := S.2.2.1; have hown := S.2.2.2.1; have hts := S.2.2.2.2
  have hret : ∀ z, some z = some (rz, xz) → (rz, xz) = z := fun z h => (Option.some.inj h).symm
  unfold fX4_hallSet at h
  refine lv_aload_n hx hb dX4_hallSet_0 rfl (lv_at hl 0 rfl) ?_
  refine lv_iconst (v := (0 : Int32)) hx hb dX4_hallSet_1 (by decide) ?_
  refine lv_aload_n hx hb dX4_hallSet_2 rfl (lv_at hl 0 rfl) ?_
  refine bq_get (q0 := 1) S hK hP fl_X4_18_X4_2 rfl rfl rfl dX4_hallSet_3 ?_
  obtain ⟨o1, ho1, h⟩ := Option.bind_eq_some_iff.mp h
  obtain ⟨v3, x2⟩ := o1
  replace h := un2_e h
  refine bq_callVi (q0 := 1) (As := [.int _, .int _]) S hK hD hA hP hS (cX4_setAt_k_1 ho1) hd_yX4_setAt ml_X4_95 in_yX4_setAt (hts _ sl_X4_X4_yX4_setAt) ⟨rfl, rfl⟩ ⟨by decide, by decide⟩ rfl rfl rfl hl.1 rfl (Nat.le_of_ble_eq_true rfl) ⟨Nat.zero_le _, Nat.zero_le _⟩ dX4_hallSet_6 (fun H locs hP hS => ?_)
  obtain ⟨e1, e2⟩ := Prod.mk.inj (hret _ h)
  exact hR _ _ _ _ _ (congrArg some e1) rfl (by rw [e2]; exact hP) hS dX4_hallSet_9
def fX4_thicknessOf_b4 (n : Nat) (r1 : Nat) (v2 : Int32) (v : Int32 × Int32 × bq_S) : Option ((Int32 × Int32 × bq_S) ⊕ (Int32 × Int32 × bq_S)) :=
  un3 v (fun v3 v4 x5 =>
  if (8 : Int32) ≤ v4 then
  some (.inr (v3, v4, x5))
  else
  (fX9_has v2 v4 x5).bind (fun o7 => un2 o7 (fun v9 x8 =>
  if v9 = 0 then
  bd (v3 + (0 : Int32)) (fun v11 =>
  bd (v4 + (1 : Int32)) (fun v12 =>
  some (.inl (v11, v12, x8))))
  else
  if ok_i v4 8 then
  bd (v3 + (x8.1 (r1 + 1) v4.toNatClampNeg)) (fun v14 =>
  bd (v4 + (1 : Int32)) (fun v15 =>
  some (.inl (v14, v15, x8))))
  else none)))
def fX4_thicknessOf (n : Nat) (q0 : Nat) (p1 : Int32) (x0 : bq_S) : Option (Int32 × bq_S) :=
  (wh n (fX4_thicknessOf_b4 n q0 p1) ((0 : Int32), (0 : Int32), x0)).bind (fun e16 => un3 e16 (fun v17 v18 x19 =>
  some (v17, x19)))
theorem dX4_thicknessOf_0 : decode cX4_thicknessOf 0 = .ok (.iconst 0, 1) := by decide +kernel
theorem dX4_thicknessOf_1 : decode cX4_thicknessOf 1 = .ok (.istore_n 2, 1) := by decide +kernel
theorem dX4_thicknessOf_2 : decode cX4_thicknessOf 2 = .ok (.iconst 0, 1) := by decide +kernel
theorem dX4_thicknessOf_3 : decode cX4_thicknessOf 3 = .ok (.istore_n 3, 1) := by decide +kernel
theorem dX4_thicknessOf_4 : decode cX4_thicknessOf 4 = .ok (.iload_n 3, 1) := by decide +kernel
theorem dX4_thicknessOf_5 : decode cX4_thicknessOf 5 = .ok (.bipush 8, 2) := by decide +kernel
theorem dX4_thicknessOf_7 : decode cX4_thicknessOf 7 = .ok (.if_icmp .ge 30, 3) := by decide +kernel
theorem dX4_thicknessOf_10 : decode cX4_thicknessOf 10 = .ok (.iload_n 2, 1) := by decide +kernel
theorem dX4_thicknessOf_11 : decode cX4_thicknessOf 11 = .ok (.iload_n 1, 1) := by decide +kernel
theorem dX4_thicknessOf_12 : decode cX4_thicknessOf 12 = .ok (.iload_n 3, 1) := by decide +kernel
theorem dX4_thicknessOf_13 : decode cX4_thicknessOf 13 = .ok (.invokestatic 62, 3) := by decide +kernel
theorem dX4_thicknessOf_16 : decode cX4_thicknessOf 16 = .ok (.ifCond .eq 12, 3) := by decide +kernel
theorem dX4_thicknessOf_19 : decode cX4_thicknessOf 19 = .ok (.aload_n 0, 1) := by decide +kernel
theorem dX4_thicknessOf_20 : decode cX4_thicknessOf 20 = .ok (.getfield 21, 3) := by decide +kernel
theorem dX4_thicknessOf_23 : decode cX4_thicknessOf 23 = .ok (.iload_n 3, 1) := by decide +kernel
theorem dX4_thicknessOf_24 : decode cX4_thicknessOf 24 = .ok (.iaload, 1) := by decide +kernel
theorem dX4_thicknessOf_25 : decode cX4_thicknessOf 25 = .ok (.goto 4, 3) := by decide +kernel
theorem dX4_thicknessOf_28 : decode cX4_thicknessOf 28 = .ok (.iconst 0, 1) := by decide +kernel
theorem dX4_thicknessOf_29 : decode cX4_thicknessOf 29 = .ok (.iadd, 1) := by decide +kernel
theorem dX4_thicknessOf_30 : decode cX4_thicknessOf 30 = .ok (.istore_n 2, 1) := by decide +kernel
theorem dX4_thicknessOf_31 : decode cX4_thicknessOf 31 = .ok (.iinc 3 1, 3) := by decide +kernel
theorem dX4_thicknessOf_34 : decode cX4_thicknessOf 34 = .ok (.goto (-30), 3) := by decide +kernel
theorem dX4_thicknessOf_37 : decode cX4_thicknessOf 37 = .ok (.iload_n 2, 1) := by decide +kernel
theorem dX4_thicknessOf_38 : decode cX4_thicknessOf 38 = .ok (.ireturn, 1) := by decide +kernel
set_option maxHeartbeats 4000000 in
set_option maxRecDepth 100000 in
theorem cX4_thicknessOf_k_1 {l : Launch} {D : va_G} {a : Nat → Nat} {k : Nat → ClassId} {n : Nat} {p1 : Int32} {x0 xz : bq_S} {rz : Int32} (h : fX4_thicknessOf n 1 p1 x0 = some (rz, xz)) : bq_M l D bq_cl (bq_ty k) (bq_wC a k) yX4_thicknessOf cX4_thicknessOf 4 (some .int) { frames := 1, cells := 0, slots := 0, locals := 21 } [.ref (a 1), .int p1] x0 (some rz) xz := by
  refine bq_ofW RX4 [(0, .ref (a 1)), (1, .int p1)] (by decide +kernel) rfl (Nat.le_of_ble_eq_true rfl) rfl (bq_adC a k) ?_
  intro p e s m below meth c A Q ls S hK hD hA hR hS hP hl
  have hx := S.1; have hb := S.2.1; have hml := S.2.2.1; have hown := S.2.2.2.1; have hts := S.2.2.2.2
  have hret : ∀ z, some z = some (rz, xz) → (rz, xz) = z := fun z h => (Option.some.inj h).symm
  unfold fX4_thicknessOf at h
  refine lv_iconst (v := (0 : Int32)) hx hb dX4_thicknessOf_0 (by decide) ?_
  refine lv_istore_n (lv' := [(2, .int (0 : Int32)), (0, .ref (a 1)), (1, .int p1)]) hx hb dX4_thicknessOf_1 rfl hl (by decide) rfl (fun ls hl => ?_)
  refine lv_iconst (v := (0 : Int32)) hx hb dX4_thicknessOf_2 (by decide) ?_
  refine lv_istore_n (lv' := [(3, .int (0 : Int32)), (2, .int (0 : Int32)), (0, .ref (a 1)), (1, .int p1)]) hx hb dX4_thicknessOf_3 rfl hl (by decide) rfl (fun ls hl => ?_)
  have hl4 : ∀ (v2 : Int32) (kf : Nat) (v3 : Int32) (v4 : Int32) (x5 : bq_S) (eo : Int32 × Int32 × bq_S) (H : Heap) (locs : List Loc) (ls : Array Slot), wh kf (fX4_thicknessOf_b4 n 1 v2) (v3, v4, x5) = some eo → va_P D bq_cl (bq_wC a k x5) H → va_S A s.heap H locs → lv_has ls 4 [(0, .ref (a 1)), (1, .int v2), (2, .int v3), (3, .int v4)] → (∀ (H : Heap) (locs : List Loc) (ls : Array Slot) (v17 : Int32) (v18 : Int32) (x19 : bq_S), eo = (v17, v18, x19) → va_P D bq_cl (bq_wC a k x19) H → va_S A s.heap H locs → lv_has ls 4 [(2, .int v17)] → W p l e { frames := 1, cells := 0, slots := 0, locals := 21 } s m [.ref (a 1), .int p1].toArray below meth c H locs 0 0 Q (F0 m 37 ls [])) → W p l e { frames := 1, cells := 0, slots := 0, locals := 21 } s m [.ref (a 1), .int p1].toArray below meth c H locs 0 0 Q (F0 m 4 ls []) := by
    intro v2 kf
    induction kf with
    | zero => intro v3 v4 x5 eo H locs ls h; cases h
    | succ kf ih =>
      intro v3 v4 x5 eo H locs ls h hP hS hl kx
      obtain ⟨out, h, hw⟩ := wh_s h
      unfold fX4_thicknessOf_b4 at h
      replace h := un3_e h
      refine lv_iload_n hx hb dX4_thicknessOf_4 rfl (lv_at hl 3 rfl) ?_
      refine lv_bipush (v := (8 : Int32)) hx hb dX4_thicknessOf_5 (by decide) ?_
      refine lv_icmp_ge (tgt := 37) hx hb dX4_thicknessOf_7 (by decide) (fun c6 => ?_) (fun c6 => ?_)
      · replace h := (if_pos c6).symm.trans h
        cases h
        exact kx _ _ _ _ _ _ (Option.some.inj hw).symm hP hS (lv_sub hl [2] rfl)
      · replace h := (if_neg c6).symm.trans h
        refine lv_iload_n hx hb dX4_thicknessOf_10 rfl (lv_at hl 2 rfl) ?_
        refine lv_iload_n hx hb dX4_thicknessOf_11 rfl (lv_at hl 1 rfl) ?_
        refine lv_iload_n hx hb dX4_thicknessOf_12 rfl (lv_at hl 3 rfl) ?_
        obtain ⟨o7, ho7, h⟩ := Option.bind_eq_some_iff.mp h
        obtain ⟨v9, x8⟩ := o7
        replace h := un2_e h
        refine bq_callSNi (As := [.int _, .int _]) S hK hD hA hP hS (cX9_has_k ho7) hd_yX9_has mn_X4_62 st_yX9_has ⟨rfl, rfl⟩ ⟨by decide, by decide⟩ rfl hl.1 rfl (Nat.le_of_ble_eq_true rfl) ⟨Nat.zero_le _, Nat.zero_le _⟩ dX4_thicknessOf_13 (fun H locs hP hS => ?_)
        refine lv_if_eq (tgt := 28) hx hb dX4_thicknessOf_16 (by decide) (fun c10 => ?_) (fun c10 => ?_)
        · replace h := (if_pos c10).symm.trans h
          refine lv_iconst (v := (0 : Int32)) hx hb dX4_thicknessOf_28 (by decide) ?_
          refine lv_iadd hx hb dX4_thicknessOf_29 ?_
          refine lv_topi (fun v11 hv11 => ?_)
          replace h := bq_bv h hv11
          refine lv_istore_n (lv' := [(2, .int v11), (0, .ref (a 1)), (1, .int v2), (3, .int v4)]) hx hb dX4_thicknessOf_30 rfl hl (by decide) rfl (fun ls hl => ?_)
          obtain ⟨v12, hv12, h⟩ := bq_b h
          refine lv_iinc (v := v12) (lv' := [(3, .int v12), (2, .int v11), (0, .ref (a 1)), (1, .int v2)]) hx hb dX4_thicknessOf_31 hl (k := 3) rfl (by rw [hv12]; rfl) (by decide) rfl (fun ls hl => ?_)
          refine lv_goto (tgt := 4) hx hb dX4_thicknessOf_34 (by decide) ?_
          cases h
          exact ih _ _ _ _ _ _ _ hw hP hS (lv_sub hl [2, 3, 1, 0] rfl) kx
        · replace h := (if_neg c10).symm.trans h
          refine lv_aload_n hx hb dX4_thicknessOf_19 rfl (lv_at hl 0 rfl) ?_
          refine bq_get (q0 := 1) S hK hP fl_X4_21_X4_3 rfl rfl rfl dX4_thicknessOf_20 ?_
          refine lv_iload_n hx hb dX4_thicknessOf_23 rfl (lv_at hl 3 rfl) ?_
          obtain ⟨g13, h⟩ := bq_gd h
          refine va_iald (D := D) hx hb hK hP 2 0 rfl rfl g13 dX4_thicknessOf_24 ?_
          refine lv_goto (tgt := 29) hx hb dX4_thicknessOf_25 (by decide) ?_
          refine lv_iadd hx hb dX4_thicknessOf_29 ?_
          refine lv_topi (fun v14 hv14 => ?_)
          replace h := bq_bv h hv14
          refine lv_istore_n (lv' := [(2, .int v14), (0, .ref (a 1)), (1, .int v2), (3, .int v4)]) hx hb dX4_thicknessOf_30 rfl hl (by decide) rfl (fun ls hl => ?_)
          obtain ⟨v15, hv15, h⟩ := bq_b h
          refine lv_iinc (v := v15) (lv' := [(3, .int v15), (2, .int v14), (0, .ref (a 1)), (1, .int v2)]) hx hb dX4_thicknessOf_31 hl (k := 3) rfl (by rw [hv15]; rfl) (by decide) rfl (fun ls hl => ?_)
          refine lv_goto (tgt := 4) hx hb dX4_thicknessOf_34 (by decide) ?_
          cases h
          exact ih _ _ _ _ _ _ _ hw hP hS (lv_sub hl [2, 3, 1, 0] rfl) kx
  obtain ⟨e16, he16, h⟩ := Option.bind_eq_some_iff.mp h
  refine hl4 _ n _ _ _ e16 _ _ _ he16 hP hS (lv_sub hl [2, 3, 1, 0] rfl) (fun H locs ls v17 v18 x19 hz hP hS hl => ?_)
  subst hz
  replace h := un3_e h
  refine lv_iload_n hx hb dX4_thicknessOf_37 rfl (lv_at hl 0 rfl) ?_
  obtain ⟨e1, e2⟩ := Prod.mk.inj (hret _ h)
  exact hR _ _ _ _ _ (congrArg some e1) rfl (by rw [e2]; exact hP) hS dX4_thicknessOf_38
def fX9_count (n : Nat) (p1 : Int32) (x0 : bq_S) : Option (Int32 × bq_S) :=
  if p1 = (0 : Int32) then
  some ((x0.1 1 0), x0)
  else
  if p1 = (1 : Int32) then
  some ((x0.1 1 2), x0)
  else
  if p1 = (2 : Int32) then
  (fX4_bitsOf n 1 3 8 x0).bind (fun o3 => un2 o3 (fun v5 x4 =>
  some (v5, x4)))
  else
  if p1 = (3 : Int32) then
  (fX4_bitsOf n 1 4 8 x0).bind (fun o7 => un2 o7 (fun v9 x8 =>
  some ((v9 / (2 : Int32)), x8)))
  else
  if p1 = (4 : Int32) then
  (fX4_bitsOf n 1 7 8 x0).bind (fun o11 => un2 o11 (fun v13 x12 =>
  some ((v13 / (2 : Int32)), x12)))
  else
  if p1 = (5 : Int32) then
  (fX4_hallSet n 1 x0).bind (fun o15 => un2 o15 (fun v17 x16 =>
  (fX4_thicknessOf n 1 v17 x16).bind (fun o18 => un2 o18 (fun v20 x19 =>
  some (v20, x19)))))
  else
  some ((-1 : Int32), x0)
theorem dX9_count_0 : decode cX9_count 0 = .ok (.iload_n 1, 1) := by decide +kernel
theorem dX9_count_1 : decode cX9_count 1 = .ok (.tableswitch 119 0 5 #[39, 47, 55, 70, 87, 104], 39) := by decide +kernel
theorem dX9_count_40 : decode cX9_count 40 = .ok (.aload_n 0, 1) := by decide +kernel
theorem dX9_count_41 : decode cX9_count 41 = .ok (.getfield 10, 3) := by decide +kernel
theorem dX9_count_44 : decode cX9_count 44 = .ok (.getfield 87, 3) := by decide +kernel
theorem dX9_count_47 : decode cX9_count 47 = .ok (.ireturn, 1) := by decide +kernel
theorem dX9_count_48 : decode cX9_count 48 = .ok (.aload_n 0, 1) := by decide +kernel
theorem dX9_count_49 : decode cX9_count 49 = .ok (.getfield 10, 3) := by decide +kernel
theorem dX9_count_52 : decode cX9_count 52 = .ok (.getfield 159, 3) := by decide +kernel
theorem dX9_count_55 : decode cX9_count 55 = .ok (.ireturn, 1) := by decide +kernel
theorem dX9_count_56 : decode cX9_count 56 = .ok (.aload_n 0, 1) := by decide +kernel
theorem dX9_count_57 : decode cX9_count 57 = .ok (.getfield 10, 3) := by decide +kernel
theorem dX9_count_60 : decode cX9_count 60 = .ok (.aload_n 0, 1) := by decide +kernel
theorem dX9_count_61 : decode cX9_count 61 = .ok (.getfield 10, 3) := by decide +kernel
theorem dX9_count_64 : decode cX9_count 64 = .ok (.getfield 162, 3) := by decide +kernel
theorem dX9_count_67 : decode cX9_count 67 = .ok (.invokevirtual 165, 3) := by decide +kernel
theorem dX9_count_70 : decode cX9_count 70 = .ok (.ireturn, 1) := by decide +kernel
theorem dX9_count_71 : decode cX9_count 71 = .ok (.aload_n 0, 1) := by decide +kernel
theorem dX9_count_72 : decode cX9_count 72 = .ok (.getfield 10, 3) := by decide +kernel
theorem dX9_count_75 : decode cX9_count 75 = .ok (.aload_n 0, 1) := by decide +kernel
theorem dX9_count_76 : decode cX9_count 76 = .ok (.getfield 10, 3) := by decide +kernel
theorem dX9_count_79 : decode cX9_count 79 = .ok (.getfield 169, 3) := by decide +kernel
theorem dX9_count_82 : decode cX9_count 82 = .ok (.invokevirtual 165, 3) := by decide +kernel
theorem dX9_count_85 : decode cX9_count 85 = .ok (.iconst 2, 1) := by decide +kernel
theorem dX9_count_86 : decode cX9_count 86 = .ok (.idiv, 1) := by decide +kernel
theorem dX9_count_87 : decode cX9_count 87 = .ok (.ireturn, 1) := by decide +kernel
theorem dX9_count_88 : decode cX9_count 88 = .ok (.aload_n 0, 1) := by decide +kernel
theorem dX9_count_89 : decode cX9_count 89 = .ok (.getfield 10, 3) := by decide +kernel
theorem dX9_count_92 : decode cX9_count 92 = .ok (.aload_n 0, 1) := by decide +kernel
theorem dX9_count_93 : decode cX9_count 93 = .ok (.getfield 10, 3) := by decide +kernel
theorem dX9_count_96 : decode cX9_count 96 = .ok (.getfield 172, 3) := by decide +kernel
theorem dX9_count_99 : decode cX9_count 99 = .ok (.invokevirtual 165, 3) := by decide +kernel
theorem dX9_count_102 : decode cX9_count 102 = .ok (.iconst 2, 1) := by decide +kernel
theorem dX9_count_103 : decode cX9_count 103 = .ok (.idiv, 1) := by decide +kernel
theorem dX9_count_104 : decode cX9_count 104 = .ok (.ireturn, 1) := by decide +kernel
theorem dX9_count_105 : decode cX9_count 105 = .ok (.aload_n 0, 1) := by decide +kernel
theorem dX9_count_106 : decode cX9_count 106 = .ok (.getfield 10, 3) := by decide +kernel
theorem dX9_count_109 : decode cX9_count 109 = .ok (.aload_n 0, 1) := by decide +kernel
theorem dX9_count_110 : decode cX9_count 110 = .ok (.getfield 10, 3) := by decide +kernel
theorem dX9_count_113 : decode cX9_count 113 = .ok (.invokevirtual 175, 3) := by decide +kernel
theorem dX9_count_116 : decode cX9_count 116 = .ok (.invokevirtual 179, 3) := by decide +kernel
theorem dX9_count_119 : decode cX9_count 119 = .ok (.ireturn, 1) := by decide +kernel
theorem dX9_count_120 : decode cX9_count 120 = .ok (.iconst (-1), 1) := by decide +kernel
theorem dX9_count_121 : decode cX9_count 121 = .ok (.ireturn, 1) := by decide +kernel
set_option maxHeartbeats 4000000 in
set_option maxRecDepth 100000 in
theorem cX9_count_k_0 {l : Launch} {D : va_G} {a : Nat → Nat} {k : Nat → ClassId} {n : Nat} {p1 : Int32} {x0 xz : bq_S} {rz : Int32} (h : fX9_count n p1 x0 = some (rz, xz)) : bq_M l D bq_cl (bq_ty k) (bq_wC a k) yX9_count cX9_count 2 (some .int) { frames := 3, cells := 0, slots := 0, locals := 64 } [.ref (a 0), .int p1] x0 (some rz) xz := by
  refine bq_ofW RX9 [(0, .ref (a 0)), (1, .int p1)] (by decide +kernel) rfl (Nat.le_of_ble_eq_true rfl) rfl (bq_adC a k) ?_
  intro p e s m below meth c A Q ls S hK hD hA hR hS hP hl
  have hx := S.1; have hb := S.2.1; have hml := S.2.2.1; have hown := S.2.2.2.1; have hts := S.2.2.2.2
  have hret : ∀ z, some z = some (rz, xz) → (rz, xz) = z := fun z h => (Option.some.inj h).symm
  unfold fX9_count at h
  refine lv_iload_n hx hb dX9_count_0 rfl (lv_at hl 1 rfl) ?_
  by_cases c1 : p1 = (0 : Int32)
  · replace h := (if_pos c1).symm.trans h
    refine lv_tableIn (off := 39) (tgt := 40) hx hb dX9_count_1 (by rw [c1]; decide) (by rw [c1]; decide) (by rw [c1]; rfl) (by decide) ?_
    refine lv_aload_n hx hb dX9_count_40 rfl (lv_at hl 0 rfl) ?_
    refine bq_get (q0 := 0) S hK hP fl_X9_10_X9_0 rfl rfl rfl dX9_count_41 ?_
    refine bq_get (q0 := 1) S hK hP fl_X9_87_X4_0 rfl rfl rfl dX9_count_44 ?_
    obtain ⟨e1, e2⟩ := Prod.mk.inj (hret _ h)
    exact hR _ _ _ _ _ (congrArg some e1) rfl (by rw [e2]; exact hP) hS dX9_count_47
  replace h := (if_neg c1).symm.trans h
  by_cases c2 : p1 = (1 : Int32)
  · replace h := (if_pos c2).symm.trans h
    refine lv_tableIn (off := 47) (tgt := 48) hx hb dX9_count_1 (by rw [c2]; decide) (by rw [c2]; decide) (by rw [c2]; rfl) (by decide) ?_
    refine lv_aload_n hx hb dX9_count_48 rfl (lv_at hl 0 rfl) ?_
    refine bq_get (q0 := 0) S hK hP fl_X9_10_X9_0 rfl rfl rfl dX9_count_49 ?_
    refine bq_get (q0 := 1) S hK hP fl_X9_159_X4_2 rfl rfl rfl dX9_count_52 ?_
    obtain ⟨e1, e2⟩ := Prod.mk.inj (hret _ h)
    exact hR _ _ _ _ _ (congrArg some e1) rfl (by rw [e2]; exact hP) hS dX9_count_55
  replace h := (if_neg c2).symm.trans h
  by_cases c6 : p1 = (2 : Int32)
  · replace h := (if_pos c6).symm.trans h
    refine lv_tableIn (off := 55) (tgt := 56) hx hb dX9_count_1 (by rw [c6]; decide) (by rw [c6]; decide) (by rw [c6]; rfl) (by decide) ?_
    refine lv_aload_n hx hb dX9_count_56 rfl (lv_at hl 0 rfl) ?_
    refine bq_get (q0 := 0) S hK hP fl_X9_10_X9_0 rfl rfl rfl dX9_count_57 ?_
    refine lv_aload_n hx hb dX9_count_60 rfl (lv_at hl 0 rfl) ?_
    refine bq_get (q0 := 0) S hK hP fl_X9_10_X9_0 rfl rfl rfl dX9_count_61 ?_
    refine bq_get (q0 := 1) S hK hP fl_X9_162_X4_4 rfl rfl rfl dX9_count_64 ?_
    obtain ⟨o3, ho3, h⟩ := Option.bind_eq_some_iff.mp h
    obtain ⟨v5, x4⟩ := o3
    replace h := un2_e h
    refine bq_callVi (q0 := 1) (As := [.ref (a 3)]) S hK hD hA hP hS (cX4_bitsOf_k_1_3 ho3) hd_yX4_bitsOf ml_X9_165 in_yX4_bitsOf (hts _ sl_X4_X4_yX4_bitsOf) ⟨rfl, rfl⟩ ⟨by decide, by decide⟩ rfl rfl rfl hl.1 rfl (Nat.le_of_ble_eq_true rfl) ⟨Nat.zero_le _, Nat.zero_le _⟩ dX9_count_67 (fun H locs hP hS => ?_)
    obtain ⟨e1, e2⟩ := Prod.mk.inj (hret _ h)
    exact hR _ _ _ _ _ (congrArg some e1) rfl (by rw [e2]; exact hP) hS dX9_count_70
  replace h := (if_neg c6).symm.trans h
  by_cases c10 : p1 = (3 : Int32)
  · replace h := (if_pos c10).symm.trans h
    refine lv_tableIn (off := 70) (tgt := 71) hx hb dX9_count_1 (by rw [c10]; decide) (by rw [c10]; decide) (by rw [c10]; rfl) (by decide) ?_
    refine lv_aload_n hx hb dX9_count_71 rfl (lv_at hl 0 rfl) ?_
    refine bq_get (q0 := 0) S hK hP fl_X9_10_X9_0 rfl rfl rfl dX9_count_72 ?_
    refine lv_aload_n hx hb dX9_count_75 rfl (lv_at hl 0 rfl) ?_
    refine bq_get (q0 := 0) S hK hP fl_X9_10_X9_0 rfl rfl rfl dX9_count_76 ?_
    refine bq_get (q0 := 1) S hK hP fl_X9_169_X4_5 rfl rfl rfl dX9_count_79 ?_
    obtain ⟨o7, ho7, h⟩ := Option.bind_eq_some_iff.mp h
    obtain ⟨v9, x8⟩ := o7
    replace h := un2_e h
    refine bq_callVi (q0 := 1) (As := [.ref (a 4)]) S hK hD hA hP hS (cX4_bitsOf_k_1_4 ho7) hd_yX4_bitsOf ml_X9_165 in_yX4_bitsOf (hts _ sl_X4_X4_yX4_bitsOf) ⟨rfl, rfl⟩ ⟨by decide, by decide⟩ rfl rfl rfl hl.1 rfl (Nat.le_of_ble_eq_true rfl) ⟨Nat.zero_le _, Nat.zero_le _⟩ dX9_count_82 (fun H locs hP hS => ?_)
    refine lv_iconst (v := (2 : Int32)) hx hb dX9_count_85 (by decide) ?_
    refine lv_idiv hx hb dX9_count_86 (by decide) ?_
    obtain ⟨e1, e2⟩ := Prod.mk.inj (hret _ h)
    exact hR _ _ _ _ _ (congrArg some e1) rfl (by rw [e2]; exact hP) hS dX9_count_87
  replace h := (if_neg c10).symm.trans h
  by_cases c14 : p1 = (4 : Int32)
  · replace h := (if_pos c14).symm.trans h
    refine lv_tableIn (off := 87) (tgt := 88) hx hb dX9_count_1 (by rw [c14]; decide) (by rw [c14]; decide) (by rw [c14]; rfl) (by decide) ?_
    refine lv_aload_n hx hb dX9_count_88 rfl (lv_at hl 0 rfl) ?_
    refine bq_get (q0 := 0) S hK hP fl_X9_10_X9_0 rfl rfl rfl dX9_count_89 ?_
    refine lv_aload_n hx hb dX9_count_92 rfl (lv_at hl 0 rfl) ?_
    refine bq_get (q0 := 0) S hK hP fl_X9_10_X9_0 rfl rfl rfl dX9_count_93 ?_
    refine bq_get (q0 := 1) S hK hP fl_X9_172_X4_8 rfl rfl rfl dX9_count_96 ?_
    obtain ⟨o11, ho11, h⟩ := Option.bind_eq_some_iff.mp h
    obtain ⟨v13, x12⟩ := o11
    replace h := un2_e h
    refine bq_callVi (q0 := 1) (As := [.ref (a 7)]) S hK hD hA hP hS (cX4_bitsOf_k_1_7 ho11) hd_yX4_bitsOf ml_X9_165 in_yX4_bitsOf (hts _ sl_X4_X4_yX4_bitsOf) ⟨rfl, rfl⟩ ⟨by decide, by decide⟩ rfl rfl rfl hl.1 rfl (Nat.le_of_ble_eq_true rfl) ⟨Nat.zero_le _, Nat.zero_le _⟩ dX9_count_99 (fun H locs hP hS => ?_)
    refine lv_iconst (v := (2 : Int32)) hx hb dX9_count_102 (by decide) ?_
    refine lv_idiv hx hb dX9_count_103 (by decide) ?_
    obtain ⟨e1, e2⟩ := Prod.mk.inj (hret _ h)
    exact hR _ _ _ _ _ (congrArg some e1) rfl (by rw [e2]; exact hP) hS dX9_count_104
  replace h := (if_neg c14).symm.trans h
  by_cases c21 : p1 = (5 : Int32)
  · replace h := (if_pos c21).symm.trans h
    refine lv_tableIn (off := 104) (tgt := 105) hx hb dX9_count_1 (by rw [c21]; decide) (by rw [c21]; decide) (by rw [c21]; rfl) (by decide) ?_
    refine lv_aload_n hx hb dX9_count_105 rfl (lv_at hl 0 rfl) ?_
    refine bq_get (q0 := 0) S hK hP fl_X9_10_X9_0 rfl rfl rfl dX9_count_106 ?_
    refine lv_aload_n hx hb dX9_count_109 rfl (lv_at hl 0 rfl) ?_
    refine bq_get (q0 := 0) S hK hP fl_X9_10_X9_0 rfl rfl rfl dX9_count_110 ?_
    obtain ⟨o15, ho15, h⟩ := Option.bind_eq_some_iff.mp h
    obtain ⟨v17, x16⟩ := o15
    replace h := un2_e h
    refine bq_callVi (q0 := 1) (As := []) S hK hD hA hP hS (cX4_hallSet_k_1 ho15) hd_yX4_hallSet ml_X9_175 in_yX4_hallSet (hts _ sl_X4_X4_yX4_hallSet) ⟨rfl, rfl⟩ ⟨by decide, by decide⟩ rfl rfl rfl hl.1 rfl (Nat.le_of_ble_eq_true rfl) ⟨Nat.zero_le _, Nat.zero_le _⟩ dX9_count_113 (fun H locs hP hS => ?_)
    obtain ⟨o18, ho18, h⟩ := Option.bind_eq_some_iff.mp h
    obtain ⟨v20, x19⟩ := o18
    replace h := un2_e h
    refine bq_callVi (q0 := 1) (As := [.int _]) S hK hD hA hP hS (cX4_thicknessOf_k_1 ho18) hd_yX4_thicknessOf ml_X9_179 in_yX4_thicknessOf (hts _ sl_X4_X4_yX4_thicknessOf) ⟨rfl, rfl⟩ ⟨by decide, by decide⟩ rfl rfl rfl hl.1 rfl (Nat.le_of_ble_eq_true rfl) ⟨Nat.zero_le _, Nat.zero_le _⟩ dX9_count_116 (fun H locs hP hS => ?_)
    obtain ⟨e1, e2⟩ := Prod.mk.inj (hret _ h)
    exact hR _ _ _ _ _ (congrArg some e1) rfl (by rw [e2]; exact hP) hS dX9_count_119
  replace h := (if_neg c21).symm.trans h
  refine lv_tableOut (tgt := 120) hx hb dX9_count_1 (by have n0 := lv_neT c1 (a := 0) rfl; have n1 := lv_neT c2 (a := 1) rfl; have n2 := lv_neT c6 (a := 2) rfl; have n3 := lv_neT c10 (a := 3) rfl; have n4 := lv_neT c14 (a := 4) rfl; have n5 := lv_neT c21 (a := 5) rfl; omega) (by decide) ?_
  refine lv_iconst (v := (-1 : Int32)) hx hb dX9_count_120 (by decide) ?_
  obtain ⟨e1, e2⟩ := Prod.mk.inj (hret _ h)
  exact hR _ _ _ _ _ (congrArg some e1) rfl (by rw [e2]; exact hP) hS dX9_count_121
def fX4_closes (q0 : Nat) (p1 : Int32) (x0 : bq_S) : Option (Int32 × bq_S) :=
  if (x0.1 (q0 + 4) (0 : Int32).toNatClampNeg) = (1 : Int32) then
  if p1 < (3 : Int32) then
  some ((0 : Int32), x0)
  else
  some ((1 : Int32), x0)
  else
  some ((0 : Int32), x0)
theorem dX4_closes_0 : decode cX4_closes 0 = .ok (.aload_n 0, 1) := by decide +kernel
theorem dX4_closes_1 : decode cX4_closes 1 = .ok (.getfield 31, 3) := by decide +kernel
theorem dX4_closes_4 : decode cX4_closes 4 = .ok (.iconst 0, 1) := by decide +kernel
theorem dX4_closes_5 : decode cX4_closes 5 = .ok (.iaload, 1) := by decide +kernel
theorem dX4_closes_6 : decode cX4_closes 6 = .ok (.iconst 1, 1) := by decide +kernel
theorem dX4_closes_7 : decode cX4_closes 7 = .ok (.if_icmp .ne 12, 3) := by decide +kernel
theorem dX4_closes_10 : decode cX4_closes 10 = .ok (.iload_n 1, 1) := by decide +kernel
theorem dX4_closes_11 : decode cX4_closes 11 = .ok (.iconst 3, 1) := by decide +kernel
theorem dX4_closes_12 : decode cX4_closes 12 = .ok (.if_icmp .lt 7, 3) := by decide +kernel
theorem dX4_closes_15 : decode cX4_closes 15 = .ok (.iconst 1, 1) := by decide +kernel
theorem dX4_closes_16 : decode cX4_closes 16 = .ok (.goto 4, 3) := by decide +kernel
theorem dX4_closes_19 : decode cX4_closes 19 = .ok (.iconst 0, 1) := by decide +kernel
theorem dX4_closes_20 : decode cX4_closes 20 = .ok (.ireturn, 1) := by decide +kernel
set_option maxHeartbeats 4000000 in
set_option maxRecDepth 100000 in
theorem cX4_closes_k_1 {l : Launch} {D : va_G} {a : Nat → Nat} {k : Nat → ClassId} {p1 : Int32} {x0 xz : bq_S} {rz : Int32} (h : fX4_closes  1 p1 x0 = some (rz, xz)) : bq_M l D bq_cl (bq_ty k) (bq_wC a k) yX4_closes cX4_closes 2 (some .boolean) { frames := 0, cells := 0, slots := 0, locals := 0 } [.ref (a 1), .int p1] x0 (some rz) xz := by
  refine bq_ofW RX4 [(0, .ref (a 1)), (1, .int p1)] (by decide +kernel) rfl (Nat.le_of_ble_eq_true rfl) rfl (bq_adC a k) ?_
  intro p e s m below meth c A Q ls S hK hD hA hR hS hP hl
  have hx := S.1; have hb := S.2.1; have hml := S.2.2.1; have hown := S.2.2.2.1; have hts := S.2.2.2.2
  have hret : ∀ z, some z = some (rz, xz) → (rz, xz) = z := fun z h => (Option.some.inj h).symm
  unfold fX4_closes at h
  refine lv_aload_n hx hb dX4_closes_0 rfl (lv_at hl 0 rfl) ?_
  refine bq_get (q0 := 1) S hK hP fl_X4_31_X4_6 rfl rfl rfl dX4_closes_1 ?_
  refine lv_iconst (v := (0 : Int32)) hx hb dX4_closes_4 (by decide) ?_
  refine va_iald (D := D) hx hb hK hP 5 0 rfl rfl (bq_inl rfl) dX4_closes_5 ?_
  refine lv_iconst (v := (1 : Int32)) hx hb dX4_closes_6 (by decide) ?_
  refine lv_icmp_ne (tgt := 19) hx hb dX4_closes_7 (by decide) (fun c1 => ?_) (fun c1 => ?_)
  · replace h := (if_neg c1).symm.trans h
    refine lv_iconst (v := (0 : Int32)) hx hb dX4_closes_19 (by decide) ?_
    obtain ⟨e1, e2⟩ := Prod.mk.inj (hret _ h)
    exact hR _ _ _ _ _ (congrArg some e1) rfl (by rw [e2]; exact hP) hS dX4_closes_20
  · replace h := (if_pos c1).symm.trans h
    refine lv_iload_n hx hb dX4_closes_10 rfl (lv_at hl 1 rfl) ?_
    refine lv_iconst (v := (3 : Int32)) hx hb dX4_closes_11 (by decide) ?_
    refine lv_icmp_lt (tgt := 19) hx hb dX4_closes_12 (by decide) (fun c2 => ?_) (fun c2 => ?_)
    · replace h := (if_pos c2).symm.trans h
      refine lv_iconst (v := (0 : Int32)) hx hb dX4_closes_19 (by decide) ?_
      obtain ⟨e1, e2⟩ := Prod.mk.inj (hret _ h)
      exact hR _ _ _ _ _ (congrArg some e1) rfl (by rw [e2]; exact hP) hS dX4_closes_20
    · replace h := (if_neg c2).symm.trans h
      refine lv_iconst (v := (1 : Int32)) hx hb dX4_closes_15 (by decide) ?_
      refine lv_goto (tgt := 20) hx hb dX4_closes_16 (by decide) ?_
      obtain ⟨e1, e2⟩ := Prod.mk.inj (hret _ h)
      exact hR _ _ _ _ _ (congrArg some e1) rfl (by rw [e2]; exact hP) hS dX4_closes_20
def fX4_firstApart_b2 (n : Nat) (r1 : Nat) (r2 : Nat) (lb3 : Nat) (v4 : Int32) (v : Int32 × bq_S) : Option ((Int32 × bq_S) ⊕ ((Int32 × bq_S) ⊕ (Int32 × bq_S))) :=
  un2 v (fun v5 x6 =>
  if v4 ≤ (v5 + (1 : Int32)) then
  some (.inr (.inl (v5, x6)))
  else
  if ok_i v5 lb3 then
  if ok_i (v5 + (1 : Int32)) lb3 then
  (fX4_touches r1 (x6.1 r2 v5.toNatClampNeg) (x6.1 r2 (v5 + (1 : Int32)).toNatClampNeg) x6).bind (fun o10 => un2 o10 (fun v12 x11 =>
  if v12 = 0 then
  some (.inr (.inr (v5, x11)))
  else
  bd (v5 + (1 : Int32)) (fun v14 =>
  some (.inl (v14, x11)))))
  else none
  else none)
def fX4_firstApart (n : Nat) (q0 : Nat) (q1 : Nat) (la1 : Nat) (p2 : Int32) (x0 : bq_S) : Option (Int32 × bq_S) :=
  (wh n (fX4_firstApart_b2 n q0 q1 la1 p2) ((0 : Int32), x0)).bind (fun e15 =>
  Sum.elim (fun z => un2 z (fun v16 x17 =>
  (fX4_closes q0 p2 x17).bind (fun o18 => un2 o18 (fun v20 x19 =>
  if v20 = 0 then
  some ((-4 : Int32), x19)
  else
  if ok_i (p2 - (1 : Int32)) la1 then
  if ok_i (0 : Int32) la1 then
  (fX4_touches q0 (x19.1 q1 (p2 - (1 : Int32)).toNatClampNeg) (x19.1 q1 (0 : Int32).toNatClampNeg) x19).bind (fun o24 => un2 o24 (fun v26 x25 =>
  if v26 = 0 then
  some ((p2 - (1 : Int32)), x25)
  else
  some ((-4 : Int32), x25)))
  else none
  else none)))) (fun z => some z) e15)
theorem dX4_firstApart_0 : decode cX4_firstApart 0 = .ok (.iconst 0, 1) := by decide +kernel
theorem dX4_firstApart_1 : decode cX4_firstApart 1 = .ok (.istore_n 3, 1) := by decide +kernel
theorem dX4_firstApart_2 : decode cX4_firstApart 2 = .ok (.iload_n 3, 1) := by decide +kernel
theorem dX4_firstApart_3 : decode cX4_firstApart 3 = .ok (.iconst 1, 1) := by decide +kernel
theorem dX4_firstApart_4 : decode cX4_firstApart 4 = .ok (.iadd, 1) := by decide +kernel
theorem dX4_firstApart_5 : decode cX4_firstApart 5 = .ok (.iload_n 2, 1) := by decide +kernel
theorem dX4_firstApart_6 : decode cX4_firstApart 6 = .ok (.if_icmp .ge 26, 3) := by decide +kernel
theorem dX4_firstApart_9 : decode cX4_firstApart 9 = .ok (.aload_n 0, 1) := by decide +kernel
theorem dX4_firstApart_10 : decode cX4_firstApart 10 = .ok (.aload_n 1, 1) := by decide +kernel
theorem dX4_firstApart_11 : decode cX4_firstApart 11 = .ok (.iload_n 3, 1) := by decide +kernel
theorem dX4_firstApart_12 : decode cX4_firstApart 12 = .ok (.iaload, 1) := by decide +kernel
theorem dX4_firstApart_13 : decode cX4_firstApart 13 = .ok (.aload_n 1, 1) := by decide +kernel
theorem dX4_firstApart_14 : decode cX4_firstApart 14 = .ok (.iload_n 3, 1) := by decide +kernel
theorem dX4_firstApart_15 : decode cX4_firstApart 15 = .ok (.iconst 1, 1) := by decide +kernel
theorem dX4_firstApart_16 : decode cX4_firstApart 16 = .ok (.iadd, 1) := by decide +kernel
theorem dX4_firstApart_17 : decode cX4_firstApart 17 = .ok (.iaload, 1) := by decide +kernel
theorem dX4_firstApart_18 : decode cX4_firstApart 18 = .ok (.invokevirtual 84, 3) := by decide +kernel
theorem dX4_firstApart_21 : decode cX4_firstApart 21 = .ok (.ifCond .ne 5, 3) := by decide +kernel
theorem dX4_firstApart_24 : decode cX4_firstApart 24 = .ok (.iload_n 3, 1) := by decide +kernel
theorem dX4_firstApart_25 : decode cX4_firstApart 25 = .ok (.ireturn, 1) := by decide +kernel
theorem dX4_firstApart_26 : decode cX4_firstApart 26 = .ok (.iinc 3 1, 3) := by decide +kernel
theorem dX4_firstApart_29 : decode cX4_firstApart 29 = .ok (.goto (-27), 3) := by decide +kernel
theorem dX4_firstApart_32 : decode cX4_firstApart 32 = .ok (.aload_n 0, 1) := by decide +kernel
theorem dX4_firstApart_33 : decode cX4_firstApart 33 = .ok (.iload_n 2, 1) := by decide +kernel
theorem dX4_firstApart_34 : decode cX4_firstApart 34 = .ok (.invokevirtual 87, 3) := by decide +kernel
theorem dX4_firstApart_37 : decode cX4_firstApart 37 = .ok (.ifCond .eq 22, 3) := by decide +kernel
theorem dX4_firstApart_40 : decode cX4_firstApart 40 = .ok (.aload_n 0, 1) := by decide +kernel
theorem dX4_firstApart_41 : decode cX4_firstApart 41 = .ok (.aload_n 1, 1) := by decide +kernel
theorem dX4_firstApart_42 : decode cX4_firstApart 42 = .ok (.iload_n 2, 1) := by decide +kernel
theorem dX4_firstApart_43 : decode cX4_firstApart 43 = .ok (.iconst 1, 1) := by decide +kernel
theorem dX4_firstApart_44 : decode cX4_firstApart 44 = .ok (.isub, 1) := by decide +kernel
theorem dX4_firstApart_45 : decode cX4_firstApart 45 = .ok (.iaload, 1) := by decide +kernel
theorem dX4_firstApart_46 : decode cX4_firstApart 46 = .ok (.aload_n 1, 1) := by decide +kernel
theorem dX4_firstApart_47 : decode cX4_firstApart 47 = .ok (.iconst 0, 1) := by decide +kernel
theorem dX4_firstApart_48 : decode cX4_firstApart 48 = .ok (.iaload, 1) := by decide +kernel
theorem dX4_firstApart_49 : decode cX4_firstApart 49 = .ok (.invokevirtual 84, 3) := by decide +kernel
theorem dX4_firstApart_52 : decode cX4_firstApart 52 = .ok (.ifCond .ne 7, 3) := by decide +kernel
theorem dX4_firstApart_55 : decode cX4_firstApart 55 = .ok (.iload_n 2, 1) := by decide +kernel
theorem dX4_firstApart_56 : decode cX4_firstApart 56 = .ok (.iconst 1, 1) := by decide +kernel
theorem dX4_firstApart_57 : decode cX4_firstApart 57 = .ok (.isub, 1) := by decide +kernel
theorem dX4_firstApart_58 : decode cX4_firstApart 58 = .ok (.ireturn, 1) := by decide +kernel
theorem dX4_firstApart_59 : decode cX4_firstApart 59 = .ok (.bipush (-4), 2) := by decide +kernel
theorem dX4_firstApart_61 : decode cX4_firstApart 61 = .ok (.ireturn, 1) := by decide +kernel
set_option maxHeartbeats 4000000 in
set_option maxRecDepth 100000 in
theorem cX4_firstApart_k_1_6 {l : Launch} {D : va_G} {a : Nat → Nat} {k : Nat → ClassId} {n : Nat} {p2 : Int32} {x0 xz : bq_S} {rz : Int32} (h : fX4_firstApart n 1 6 8 p2 x0 = some (rz, xz)) : bq_M l D bq_cl (bq_ty k) (bq_wC a k) yX4_firstApart cX4_firstApart 4 (some .int) { frames := 1, cells := 0, slots := 0, locals := 22 } [.ref (a 1), .ref (a 6), .int p2] x0 (some rz) xz := by
  refine bq_ofW RX4 [(0, .ref (a 1)), (1, .ref (a 6)), (2, .int p2)] (by decide +kernel) rfl (Nat.le_of_ble_eq_true rfl) rfl (bq_adC a k) ?_
  intro p e s m below meth c A Q ls S hK hD hA hR hS hP hl
  have hx := S.1; have hb := S.2.1; have hml := S.2.2.1; have hown := S.2.2.2.1; have hts := S.2.2.2.2
  have hret : ∀ z, some z = some (rz, xz) → (rz, xz) = z := fun z h => (Option.some.inj h).symm
  unfold fX4_firstApart at h
  refine lv_iconst (v := (0 : Int32)) hx hb dX4_firstApart_0 (by decide) ?_
  refine lv_istore_n (lv' := [(3, .int (0 : Int32)), (0, .ref (a 1)), (1, .ref (a 6)), (2, .int p2)]) hx hb dX4_firstApart_1 rfl hl (by decide) rfl (fun ls hl => ?_)
  have hl2 : ∀ (v4 : Int32) (kf : Nat) (v5 : Int32) (x6 : bq_S) (eo : (Int32 × bq_S) ⊕ (Int32 × bq_S)) (H : Heap) (locs : List Loc) (ls : Array Slot), wh kf (fX4_firstApart_b2 n 1 6 8 v4) (v5, x6) = some eo → va_P D bq_cl (bq_wC a k x6) H → va_S A s.heap H locs → lv_has ls 4 [(0, .ref (a 1)), (1, .ref (a 6)), (2, .int v4), (3, .int v5)] → (∀ (H : Heap) (locs : List Loc) (ls : Array Slot) (v16 : Int32) (x17 : bq_S), eo = .inl (v16, x17) → va_P D bq_cl (bq_wC a k x17) H → va_S A s.heap H locs → lv_has ls 4 [(0, .ref (a 1)), (1, .ref (a 6)), (2, .int v4)] → W p l e { frames := 1, cells := 0, slots := 0, locals := 22 } s m [.ref (a 1), .ref (a 6), .int p2].toArray below meth c H locs 0 0 Q (F0 m 32 ls [])) → (∀ z, eo = .inr z → (rz, xz) = z) → W p l e { frames := 1, cells := 0, slots := 0, locals := 22 } s m [.ref (a 1), .ref (a 6), .int p2].toArray below meth c H locs 0 0 Q (F0 m 2 ls []) := by
    intro v4 kf
    induction kf with
    | zero => intro v5 x6 eo H locs ls h; cases h
    | succ kf ih =>
      intro v5 x6 eo H locs ls h hP hS hl kx kr
      obtain ⟨out, h, hw⟩ := wh_s h
      have hret : ∀ z, (some (.inr (.inr z)) : Option ((Int32 × bq_S) ⊕ ((Int32 × bq_S) ⊕ (Int32 × bq_S)))) = some out → (rz, xz) = z := fun z h => kr z (by cases h; exact (Option.some.inj hw).symm)
      unfold fX4_firstApart_b2 at h
      replace h := un2_e h
      refine lv_iload_n hx hb dX4_firstApart_2 rfl (lv_at hl 3 rfl) ?_
      refine lv_iconst (v := (1 : Int32)) hx hb dX4_firstApart_3 (by decide) ?_
      refine lv_iadd hx hb dX4_firstApart_4 ?_
      refine lv_iload_n hx hb dX4_firstApart_5 rfl (lv_at hl 2 rfl) ?_
      refine lv_icmp_ge (tgt := 32) hx hb dX4_firstApart_6 (by decide) (fun c7 => ?_) (fun c7 => ?_)
      · replace h := (if_pos c7).symm.trans h
        cases h
        exact kx _ _ _ _ _ (Option.some.inj hw).symm hP hS (lv_sub hl [0, 1, 2] rfl)
      · replace h := (if_neg c7).symm.trans h
        refine lv_aload_n hx hb dX4_firstApart_9 rfl (lv_at hl 0 rfl) ?_
        refine lv_aload_n hx hb dX4_firstApart_10 rfl (lv_at hl 1 rfl) ?_
        refine lv_iload_n hx hb dX4_firstApart_11 rfl (lv_at hl 3 rfl) ?_
        obtain ⟨g8, h⟩ := bq_gd h
        refine va_iald (D := D) hx hb hK hP 6 0 rfl rfl g8 dX4_firstApart_12 ?_
        refine lv_aload_n hx hb dX4_firstApart_13 rfl (lv_at hl 1 rfl) ?_
        refine lv_iload_n hx hb dX4_firstApart_14 rfl (lv_at hl 3 rfl) ?_
        refine lv_iconst (v := (1 : Int32)) hx hb dX4_firstApart_15 (by decide) ?_
        refine lv_iadd hx hb dX4_firstApart_16 ?_
        obtain ⟨g9, h⟩ := bq_gd h
        refine va_iald (D := D) hx hb hK hP 6 0 rfl rfl g9 dX4_firstApart_17 ?_
        obtain ⟨o10, ho10, h⟩ := Option.bind_eq_some_iff.mp h
        obtain ⟨v12, x11⟩ := o10
        replace h := un2_e h
        refine bq_callVi (q0 := 1) (As := [.int _, .int _]) S hK hD hA hP hS (cX4_touches_k_1 ho10) hd_yX4_touches ml_X4_84 in_yX4_touches (hts _ sl_X4_X4_yX4_touches) ⟨rfl, rfl⟩ ⟨by decide, by decide⟩ rfl rfl rfl hl.1 rfl (Nat.le_of_ble_eq_true rfl) ⟨Nat.zero_le _, Nat.zero_le _⟩ dX4_firstApart_18 (fun H locs hP hS => ?_)
        refine lv_if_ne (tgt := 26) hx hb dX4_firstApart_21 (by decide) (fun c13 => ?_) (fun c13 => ?_)
        · replace h := (if_neg c13).symm.trans h
          obtain ⟨v14, hv14, h⟩ := bq_b h
          refine lv_iinc (v := v14) (lv' := [(3, .int v14), (0, .ref (a 1)), (1, .ref (a 6)), (2, .int v4)]) hx hb dX4_firstApart_26 hl (k := 3) rfl (by rw [hv14]; rfl) (by decide) rfl (fun ls hl => ?_)
          refine lv_goto (tgt := 2) hx hb dX4_firstApart_29 (by decide) ?_
          cases h
          exact ih _ _ _ _ _ _ hw hP hS (lv_sub hl [1, 2, 3, 0] rfl) kx kr
        · replace h := (if_pos c13).symm.trans h
          refine lv_iload_n hx hb dX4_firstApart_24 rfl (lv_at hl 3 rfl) ?_
          obtain ⟨e1, e2⟩ := Prod.mk.inj (hret _ h)
          exact hR _ _ _ _ _ (congrArg some e1) rfl (by rw [e2]; exact hP) hS dX4_firstApart_25
  obtain ⟨e15, he15, h⟩ := Option.bind_eq_some_iff.mp h
  refine hl2 _ n _ _ e15 _ _ _ he15 hP hS (lv_sub hl [1, 2, 3, 0] rfl) (fun H locs ls v16 x17 hz hP hS hl => ?_) (fun z hz => hret z (bq_ir h hz :))
  replace h := bq_il h hz
  replace h := un2_e h
  refine lv_aload_n hx hb dX4_firstApart_32 rfl (lv_at hl 0 rfl) ?_
  refine lv_iload_n hx hb dX4_firstApart_33 rfl (lv_at hl 2 rfl) ?_
  obtain ⟨o18, ho18, h⟩ := Option.bind_eq_some_iff.mp h
  obtain ⟨v20, x19⟩ := o18
  replace h := un2_e h
  refine bq_callVi (q0 := 1) (As := [.int _]) S hK hD hA hP hS (cX4_closes_k_1 ho18) hd_yX4_closes ml_X4_87 in_yX4_closes (hts _ sl_X4_X4_yX4_closes) ⟨rfl, rfl⟩ ⟨by decide, by decide⟩ rfl rfl rfl hl.1 rfl (Nat.le_of_ble_eq_true rfl) ⟨Nat.zero_le _, Nat.zero_le _⟩ dX4_firstApart_34 (fun H locs hP hS => ?_)
  refine lv_if_eq (tgt := 59) hx hb dX4_firstApart_37 (by decide) (fun c21 => ?_) (fun c21 => ?_)
  · replace h := (if_pos c21).symm.trans h
    refine lv_bipush (v := (-4 : Int32)) hx hb dX4_firstApart_59 (by decide) ?_
    obtain ⟨e1, e2⟩ := Prod.mk.inj (hret _ h)
    exact hR _ _ _ _ _ (congrArg some e1) rfl (by rw [e2]; exact hP) hS dX4_firstApart_61
  · replace h := (if_neg c21).symm.trans h
    refine lv_aload_n hx hb dX4_firstApart_40 rfl (lv_at hl 0 rfl) ?_
    refine lv_aload_n hx hb dX4_firstApart_41 rfl (lv_at hl 1 rfl) ?_
    refine lv_iload_n hx hb dX4_firstApart_42 rfl (lv_at hl 2 rfl) ?_
    refine lv_iconst (v := (1 : Int32)) hx hb dX4_firstApart_43 (by decide) ?_
    refine lv_isub hx hb dX4_firstApart_44 ?_
    obtain ⟨g22, h⟩ := bq_gd h
    refine va_iald (D := D) hx hb hK hP 6 0 rfl rfl g22 dX4_firstApart_45 ?_
    refine lv_aload_n hx hb dX4_firstApart_46 rfl (lv_at hl 1 rfl) ?_
    refine lv_iconst (v := (0 : Int32)) hx hb dX4_firstApart_47 (by decide) ?_
    obtain ⟨g23, h⟩ := bq_gd h
    refine va_iald (D := D) hx hb hK hP 6 0 rfl rfl g23 dX4_firstApart_48 ?_
    obtain ⟨o24, ho24, h⟩ := Option.bind_eq_some_iff.mp h
    obtain ⟨v26, x25⟩ := o24
    replace h := un2_e h
    refine bq_callVi (q0 := 1) (As := [.int _, .int _]) S hK hD hA hP hS (cX4_touches_k_1 ho24) hd_yX4_touches ml_X4_84 in_yX4_touches (hts _ sl_X4_X4_yX4_touches) ⟨rfl, rfl⟩ ⟨by decide, by decide⟩ rfl rfl rfl hl.1 rfl (Nat.le_of_ble_eq_true rfl) ⟨Nat.zero_le _, Nat.zero_le _⟩ dX4_firstApart_49 (fun H locs hP hS => ?_)
    refine lv_if_ne (tgt := 59) hx hb dX4_firstApart_52 (by decide) (fun c27 => ?_) (fun c27 => ?_)
    · replace h := (if_neg c27).symm.trans h
      refine lv_bipush (v := (-4 : Int32)) hx hb dX4_firstApart_59 (by decide) ?_
      obtain ⟨e1, e2⟩ := Prod.mk.inj (hret _ h)
      exact hR _ _ _ _ _ (congrArg some e1) rfl (by rw [e2]; exact hP) hS dX4_firstApart_61
    · replace h := (if_pos c27).symm.trans h
      refine lv_iload_n hx hb dX4_firstApart_55 rfl (lv_at hl 2 rfl) ?_
      refine lv_iconst (v := (1 : Int32)) hx hb dX4_firstApart_56 (by decide) ?_
      refine lv_isub hx hb dX4_firstApart_57 ?_
      obtain ⟨e1, e2⟩ := Prod.mk.inj (hret _ h)
      exact hR _ _ _ _ _ (congrArg some e1) rfl (by rw [e2]; exact hP) hS dX4_firstApart_58
def fX9_judged (n : Nat) (x0 : bq_S) : Option (Int32 × bq_S) :=
  (fX4_firstApart n 1 6 8 (x0.1 1 2) x0).bind (fun o1 => un2 o1 (fun v3 x2 =>
  some (v3, x2)))
theorem dX9_judged_0 : decode cX9_judged 0 = .ok (.aload_n 0, 1) := by decide +kernel
theorem dX9_judged_1 : decode cX9_judged 1 = .ok (.getfield 10, 3) := by decide +kernel
theorem dX9_judged_4 : decode cX9_judged 4 = .ok (.aload_n 0, 1) := by decide +kernel
theorem dX9_judged_5 : decode cX9_judged 5 = .ok (.getfield 10, 3) := by decide +kernel
theorem dX9_judged_8 : decode cX9_judged 8 = .ok (.getfield 156, 3) := by decide +kernel
theorem dX9_judged_11 : decode cX9_judged 11 = .ok (.aload_n 0, 1) := by decide +kernel
theorem dX9_judged_12 : decode cX9_judged 12 = .ok (.getfield 10, 3) := by decide +kernel
theorem dX9_judged_15 : decode cX9_judged 15 = .ok (.getfield 159, 3) := by decide +kernel
theorem dX9_judged_18 : decode cX9_judged 18 = .ok (.invokevirtual 182, 3) := by decide +kernel
theorem dX9_judged_21 : decode cX9_judged 21 = .ok (.ireturn, 1) := by decide +kernel
set_option maxHeartbeats 4000000 in
set_option maxRecDepth 100000 in
theorem cX9_judged_k_0 {l : Launch} {D : va_G} {a : Nat → Nat} {k : Nat → ClassId} {n : Nat} {x0 xz : bq_S} {rz : Int32} (h : fX9_judged n  x0 = some (rz, xz)) : bq_M l D bq_cl (bq_ty k) (bq_wC a k) yX9_judged cX9_judged 1 (some .int) { frames := 2, cells := 0, slots := 0, locals := 45 } [.ref (a 0)] x0 (some rz) xz := by
  refine bq_ofW RX9 [(0, .ref (a 0))] (by decide +kernel) rfl (Nat.le_of_ble_eq_true rfl) rfl (bq_adC a k) ?_
  intro p e s m below meth c A Q ls S hK hD hA hR hS hP hl
  have hx := S.1; have hb := S.2.1; have hml := S.2.2.1; have hown := S.2.2.2.1; have hts := S.2.2.2.2
  have hret : ∀ z, some z = some (rz, xz) → (rz, xz) = z := fun z h => (Option.some.inj h).symm
  unfold fX9_judged at h
  refine lv_aload_n hx hb dX9_judged_0 rfl (lv_at hl 0 rfl) ?_
  refine bq_get (q0 := 0) S hK hP fl_X9_10_X9_0 rfl rfl rfl dX9_judged_1 ?_
  refine lv_aload_n hx hb dX9_judged_4 rfl (lv_at hl 0 rfl) ?_
  refine bq_get (q0 := 0) S hK hP fl_X9_10_X9_0 rfl rfl rfl dX9_judged_5 ?_
  refine bq_get (q0 := 1) S hK hP fl_X9_156_X4_7 rfl rfl rfl dX9_judged_8 ?_
  refine lv_aload_n hx hb dX9_judged_11 rfl (lv_at hl 0 rfl) ?_
  refine bq_get (q0 := 0) S hK hP fl_X9_10_X9_0 rfl rfl rfl dX9_judged_12 ?_
  refine bq_get (q0 := 1) S hK hP fl_X9_159_X4_2 rfl rfl rfl dX9_judged_15 ?_
  obtain ⟨o1, ho1, h⟩ := Option.bind_eq_some_iff.mp h
  obtain ⟨v3, x2⟩ := o1
  replace h := un2_e h
  refine bq_callVi (q0 := 1) (As := [.ref (a 6), .int _]) S hK hD hA hP hS (cX4_firstApart_k_1_6 ho1) hd_yX4_firstApart ml_X9_182 in_yX4_firstApart (hts _ sl_X4_X4_yX4_firstApart) ⟨rfl, rfl⟩ ⟨by decide, by decide⟩ rfl rfl rfl hl.1 rfl (Nat.le_of_ble_eq_true rfl) ⟨Nat.zero_le _, Nat.zero_le _⟩ dX9_judged_18 (fun H locs hP hS => ?_)
  obtain ⟨e1, e2⟩ := Prod.mk.inj (hret _ h)
  exact hR _ _ _ _ _ (congrArg some e1) rfl (by rw [e2]; exact hP) hS dX9_judged_21
def fX4_isSet (q0 : Nat) (p1 : Int32) (x0 : bq_S) : Option (Int32 × bq_S) :=
  (fX9_bit (x0.1 q0 0) x0).bind (fun o1 => un2 o1 (fun v3 x2 =>
  if (p1 &&& (-v3)) = 0 then
  some ((1 : Int32), x2)
  else
  some ((0 : Int32), x2)))
theorem dX4_isSet_0 : decode cX4_isSet 0 = .ok (.iload_n 1, 1) := by decide +kernel
theorem dX4_isSet_1 : decode cX4_isSet 1 = .ok (.aload_n 0, 1) := by decide +kernel
theorem dX4_isSet_2 : decode cX4_isSet 2 = .ok (.getfield 9, 3) := by decide +kernel
theorem dX4_isSet_5 : decode cX4_isSet 5 = .ok (.invokestatic 70, 3) := by decide +kernel
theorem dX4_isSet_8 : decode cX4_isSet 8 = .ok (.ineg, 1) := by decide +kernel
theorem dX4_isSet_9 : decode cX4_isSet 9 = .ok (.iand, 1) := by decide +kernel
theorem dX4_isSet_10 : decode cX4_isSet 10 = .ok (.ifCond .ne 7, 3) := by decide +kernel
theorem dX4_isSet_13 : decode cX4_isSet 13 = .ok (.iconst 1, 1) := by decide +kernel
theorem dX4_isSet_14 : decode cX4_isSet 14 = .ok (.goto 4, 3) := by decide +kernel
theorem dX4_isSet_17 : decode cX4_isSet 17 = .ok (.iconst 0, 1) := by decide +kernel
theorem dX4_isSet_18 : decode cX4_isSet 18 = .ok (.ireturn, 1) := by decide +kernel
set_option maxHeartbeats 4000000 in
set_option maxRecDepth 100000 in
theorem cX4_isSet_k_1 {l : Launch} {D : va_G} {a : Nat → Nat} {k : Nat → ClassId} {p1 : Int32} {x0 xz : bq_S} {rz : Int32} (h : fX4_isSet  1 p1 x0 = some (rz, xz)) : bq_M l D bq_cl (bq_ty k) (bq_wC a k) yX4_isSet cX4_isSet 2 (some .boolean) { frames := 1, cells := 0, slots := 0, locals := 20 } [.ref (a 1), .int p1] x0 (some rz) xz := by
  refine bq_ofW RX4 [(0, .ref (a 1)), (1, .int p1)] (by decide +kernel) rfl (Nat.le_of_ble_eq_true rfl) rfl (bq_adC a k) ?_
  intro p e s m below meth c A Q ls S hK hD hA hR hS hP hl
  have hx := S.1; have hb := S.2.1; have hml := S.2.2.1; have hown := S.2.2.2.1; have hts := S.2.2.2.2
  have hret : ∀ z, some z = some (rz, xz) → (rz, xz) = z := fun z h => (Option.some.inj h).symm
  unfold fX4_isSet at h
  refine lv_iload_n hx hb dX4_isSet_0 rfl (lv_at hl 1 rfl) ?_
  refine lv_aload_n hx hb dX4_isSet_1 rfl (lv_at hl 0 rfl) ?_
  refine bq_get (q0 := 1) S hK hP fl_X4_9_X4_0 rfl rfl rfl dX4_isSet_2 ?_
  obtain ⟨o1, ho1, h⟩ := Option.bind_eq_some_iff.mp h
  obtain ⟨v3, x2⟩ := o1
  replace h := un2_e h
  refine bq_callSNi (As := [.int _]) S hK hD hA hP hS (cX9_bit_k ho1) hd_yX9_bit mn_X4_70 st_yX9_bit ⟨rfl, rfl⟩ ⟨by decide, by decide⟩ rfl hl.1 rfl (Nat.le_of_ble_eq_true rfl) ⟨Nat.zero_le _, Nat.zero_le _⟩ dX4_isSet_5 (fun H locs hP hS => ?_)
  refine lv_ineg hx hb dX4_isSet_8 ?_
  refine lv_iand hx hb dX4_isSet_9 ?_
  refine lv_if_ne (tgt := 17) hx hb dX4_isSet_10 (by decide) (fun c4 => ?_) (fun c4 => ?_)
  · replace h := (if_neg c4).symm.trans h
    refine lv_iconst (v := (0 : Int32)) hx hb dX4_isSet_17 (by decide) ?_
    obtain ⟨e1, e2⟩ := Prod.mk.inj (hret _ h)
    exact hR _ _ _ _ _ (congrArg some e1) rfl (by rw [e2]; exact hP) hS dX4_isSet_18
  · replace h := (if_pos c4).symm.trans h
    refine lv_iconst (v := (1 : Int32)) hx hb dX4_isSet_13 (by decide) ?_
    refine lv_goto (tgt := 18) hx hb dX4_isSet_14 (by decide) ?_
    obtain ⟨e1, e2⟩ := Prod.mk.inj (hret _ h)
    exact hR _ _ _ _ _ (congrArg some e1) rfl (by rw [e2]; exact hP) hS dX4_isSet_18
def fX8X0_ask (p1 : Int32) (p2 : Int32) (p3 : Int32) (x0 : bq_S) : Option (bq_S) :=
  bd (bq_sI x0 26 2 p1) (fun x1 =>
  bd (bq_sI x1 26 3 p2) (fun x2 =>
  if p3 = 0 ∨ p3 = 1 then
  bd (bq_sI x2 26 5 p3) (fun x3 =>
  some x3)
  else none))
theorem dX8_ask_0 : decode cX8_ask 0 = .ok (.aload_n 0, 1) := by decide +kernel
theorem dX8_ask_1 : decode cX8_ask 1 = .ok (.iload_n 1, 1) := by decide +kernel
theorem dX8_ask_2 : decode cX8_ask 2 = .ok (.putfield 19, 3) := by decide +kernel
theorem dX8_ask_5 : decode cX8_ask 5 = .ok (.aload_n 0, 1) := by decide +kernel
theorem dX8_ask_6 : decode cX8_ask 6 = .ok (.iload_n 2, 1) := by decide +kernel
theorem dX8_ask_7 : decode cX8_ask 7 = .ok (.putfield 23, 3) := by decide +kernel
theorem dX8_ask_10 : decode cX8_ask 10 = .ok (.aload_n 0, 1) := by decide +kernel
theorem dX8_ask_11 : decode cX8_ask 11 = .ok (.iload_n 3, 1) := by decide +kernel
theorem dX8_ask_12 : decode cX8_ask 12 = .ok (.putfield 29, 3) := by decide +kernel
theorem dX8_ask_15 : decode cX8_ask 15 = .ok (.return_, 1) := by decide +kernel
set_option maxHeartbeats 4000000 in
set_option maxRecDepth 100000 in
theorem cX8X0_ask_k_26 {l : Launch} {D : va_G} {a : Nat → Nat} {k : Nat → ClassId} {p1 : Int32} {p2 : Int32} {p3 : Int32} {x0 xz : bq_S} (h : fX8X0_ask  p1 p2 p3 x0 = some xz) : bq_M l D bq_cl (bq_ty k) (bq_wC a k) yX8_ask cX8_ask 4 none { frames := 0, cells := 0, slots := 0, locals := 0 } [.ref (a 26), .int p1, .int p2, .int p3] x0 none xz := by
  refine bq_ofWv RX8 [(0, .ref (a 26)), (1, .int p1), (2, .int p2), (3, .int p3)] (by decide +kernel) rfl (Nat.le_of_ble_eq_true rfl) rfl (bq_adC a k) ?_
  intro p e s m below meth c A Q ls S hK hD hA hR hS hP hl
  have hx := S.1; have hb := S.2.1; have hml := S.2.2.1; have hown := S.2.2.2.1; have hts := S.2.2.2.2
  have hret : ∀ z, some z = some xz → xz = z := fun z h => (Option.some.inj h).symm
  unfold fX8X0_ask at h
  refine lv_aload_n hx hb dX8_ask_0 rfl (lv_at hl 0 rfl) ?_
  refine lv_iload_n hx hb dX8_ask_1 rfl (lv_at hl 1 rfl) ?_
  obtain ⟨x1, hx1, h⟩ := bq_b h
  refine bq_put (x1 := x1) (q0 := 26) (ty := .int) S hK hD hP hS fl_X8_19_X0_2 bt_X0 rfl (by decide +kernel) rfl rfl (Nat.le_of_ble_eq_true rfl) rfl rfl (by rw [hx1]; rfl) dX8_ask_2 (fun H locs hP hS => ?_)
  refine lv_aload_n hx hb dX8_ask_5 rfl (lv_at hl 0 rfl) ?_
  refine lv_iload_n hx hb dX8_ask_6 rfl (lv_at hl 2 rfl) ?_
  obtain ⟨x2, hx2, h⟩ := bq_b h
  refine bq_put (x1 := x2) (q0 := 26) (ty := .int) S hK hD hP hS fl_X8_23_X0_3 bt_X0 rfl (by decide +kernel) rfl rfl (Nat.le_of_ble_eq_true rfl) rfl rfl (by rw [hx2]; rfl) dX8_ask_7 (fun H locs hP hS => ?_)
  refine lv_aload_n hx hb dX8_ask_10 rfl (lv_at hl 0 rfl) ?_
  refine lv_iload_n hx hb dX8_ask_11 rfl (lv_at hl 3 rfl) ?_
  obtain ⟨g4, h⟩ := bq_gp h
  obtain ⟨x3, hx3, h⟩ := bq_b h
  refine bq_put (x1 := x3) (q0 := 26) (ty := .boolean) S hK hD hP hS fl_X8_29_X0_5 bt_X0 rfl (by decide +kernel) rfl rfl (Nat.le_of_ble_eq_true rfl) (bq_z g4) (bq_zf g4) (by rw [hx3]; rfl) dX8_ask_12 (fun H locs hP hS => ?_)
  have e2 := hret _ h
  exact hR _ _ _ _ rfl (by rw [e2]; exact hP) hS dX8_ask_15
def fX0_askRowsOf (p1 : Int32) (x0 : bq_S) : Option (bq_S) :=
  (fJ6_bitCount p1 x0).bind (fun o1 => un2 o1 (fun v3 x2 =>
  (fX4_closes 1 v3 x2).bind (fun o4 => un2 o4 (fun v6 x5 =>
  (fX8X0_ask p1 v3 v6 x5).bind (fun x8 =>
  bd (bq_sI x8 26 6 (255 : Int32)) (fun x9 =>
  bd (bq_sI x9 26 7 (255 : Int32)) (fun x10 =>
  bd (bq_sI x10 26 8 (-1 : Int32)) (fun x11 =>
  some x11))))))))
theorem dX0_askRowsOf_0 : decode cX0_askRowsOf 0 = .ok (.iload_n 1, 1) := by decide +kernel
theorem dX0_askRowsOf_1 : decode cX0_askRowsOf 1 = .ok (.invokestatic 21, 3) := by decide +kernel
theorem dX0_askRowsOf_4 : decode cX0_askRowsOf 4 = .ok (.istore_n 2, 1) := by decide +kernel
theorem dX0_askRowsOf_5 : decode cX0_askRowsOf 5 = .ok (.aload_n 0, 1) := by decide +kernel
theorem dX0_askRowsOf_6 : decode cX0_askRowsOf 6 = .ok (.iload_n 1, 1) := by decide +kernel
theorem dX0_askRowsOf_7 : decode cX0_askRowsOf 7 = .ok (.iload_n 2, 1) := by decide +kernel
theorem dX0_askRowsOf_8 : decode cX0_askRowsOf 8 = .ok (.aload_n 0, 1) := by decide +kernel
theorem dX0_askRowsOf_9 : decode cX0_askRowsOf 9 = .ok (.getfield 27, 3) := by decide +kernel
theorem dX0_askRowsOf_12 : decode cX0_askRowsOf 12 = .ok (.iload_n 2, 1) := by decide +kernel
theorem dX0_askRowsOf_13 : decode cX0_askRowsOf 13 = .ok (.invokevirtual 31, 3) := by decide +kernel
theorem dX0_askRowsOf_16 : decode cX0_askRowsOf 16 = .ok (.invokevirtual 37, 3) := by decide +kernel
theorem dX0_askRowsOf_19 : decode cX0_askRowsOf 19 = .ok (.aload_n 0, 1) := by decide +kernel
theorem dX0_askRowsOf_20 : decode cX0_askRowsOf 20 = .ok (.sipush 255, 3) := by decide +kernel
theorem dX0_askRowsOf_23 : decode cX0_askRowsOf 23 = .ok (.putfield 9, 3) := by decide +kernel
theorem dX0_askRowsOf_26 : decode cX0_askRowsOf 26 = .ok (.aload_n 0, 1) := by decide +kernel
theorem dX0_askRowsOf_27 : decode cX0_askRowsOf 27 = .ok (.sipush 255, 3) := by decide +kernel
theorem dX0_askRowsOf_30 : decode cX0_askRowsOf 30 = .ok (.putfield 15, 3) := by decide +kernel
theorem dX0_askRowsOf_33 : decode cX0_askRowsOf 33 = .ok (.aload_n 0, 1) := by decide +kernel
theorem dX0_askRowsOf_34 : decode cX0_askRowsOf 34 = .ok (.iconst (-1), 1) := by decide +kernel
theorem dX0_askRowsOf_35 : decode cX0_askRowsOf 35 = .ok (.putfield 18, 3) := by decide +kernel
theorem dX0_askRowsOf_38 : decode cX0_askRowsOf 38 = .ok (.return_, 1) := by decide +kernel
set_option maxHeartbeats 4000000 in
set_option maxRecDepth 100000 in
theorem cX0_askRowsOf_k_26 {l : Launch} {D : va_G} {a : Nat → Nat} {k : Nat → ClassId} {p1 : Int32} {x0 xz : bq_S} (h : fX0_askRowsOf  p1 x0 = some xz) : bq_M l D bq_cl (bq_ty k) (bq_wC a k) yX0_askRowsOf cX0_askRowsOf 3 none { frames := 1, cells := 0, slots := 0, locals := 23 } [.ref (a 26), .int p1] x0 none xz := by
  refine bq_ofWv RX0 [(0, .ref (a 26)), (1, .int p1)] (by decide +kernel) rfl (Nat.le_of_ble_eq_true rfl) rfl (bq_adC a k) ?_
  intro p e s m below meth c A Q ls S hK hD hA hR hS hP hl
  have hx := S.1; have hb := S.2.1; have hml := S.2.2.1; have hown := S.2.2.2.1; have hts := S.2.2.2.2
  have hret : ∀ z, some z = some xz → xz = z := fun z h => (Option.some.inj h).symm
  unfold fX0_askRowsOf at h
  refine lv_iload_n hx hb dX0_askRowsOf_0 rfl (lv_at hl 1 rfl) ?_
  obtain ⟨o1, ho1, h⟩ := Option.bind_eq_some_iff.mp h
  obtain ⟨v3, x2⟩ := o1
  replace h := un2_e h
  refine bq_callSi (As := [.int _]) S hK hD hA hP hS (cJ6_bitCount_k ho1) hd_yJ6_bitCount_0f7a4 ml_X0_21 st_yJ6_bitCount_0f7a4 ⟨rfl, rfl⟩ ⟨by decide, by decide⟩ rfl hl.1 rfl (Nat.le_of_ble_eq_true rfl) ⟨Nat.zero_le _, Nat.zero_le _⟩ dX0_askRowsOf_1 (fun H locs hP hS => ?_)
  refine lv_istore_n (lv' := [(2, .int v3), (0, .ref (a 26)), (1, .int p1)]) hx hb dX0_askRowsOf_4 rfl hl (by decide) rfl (fun ls hl => ?_)
  refine lv_aload_n hx hb dX0_askRowsOf_5 rfl (lv_at hl 1 rfl) ?_
  refine lv_iload_n hx hb dX0_askRowsOf_6 rfl (lv_at hl 2 rfl) ?_
  refine lv_iload_n hx hb dX0_askRowsOf_7 rfl (lv_at hl 0 rfl) ?_
  refine lv_aload_n hx hb dX0_askRowsOf_8 rfl (lv_at hl 1 rfl) ?_
  refine bq_get (q0 := 26) S hK hP fl_X0_27_X0_0 rfl rfl rfl dX0_askRowsOf_9 ?_
  refine lv_iload_n hx hb dX0_askRowsOf_12 rfl (lv_at hl 0 rfl) ?_
  obtain ⟨o4, ho4, h⟩ := Option.bind_eq_some_iff.mp h
  obtain ⟨v6, x5⟩ := o4
  replace h := un2_e h
  refine bq_callVi (q0 := 1) (As := [.int _]) S hK hD hA hP hS (cX4_closes_k_1 ho4) hd_yX4_closes ml_X0_31 in_yX4_closes (hts _ sl_X4_X4_yX4_closes) ⟨rfl, rfl⟩ ⟨by decide, by decide⟩ rfl rfl rfl hl.1 rfl (Nat.le_of_ble_eq_true rfl) ⟨Nat.zero_le _, Nat.zero_le _⟩ dX0_askRowsOf_13 (fun H locs hP hS => ?_)
  obtain ⟨x8, ho7, h⟩ := Option.bind_eq_some_iff.mp h
  refine bq_callUv (q0 := 26) (owner := "BesideQuotes$Ways") (As := [.int _, .int _, .int _]) S hK hD hA hP hS (cX8X0_ask_k_26 ho7) hd_yX8_ask ml_X0_37 in_yX8_ask (hts _ sl_X0_X0_yX8_ask) sm_X0_ask dc_X8_ask (by decide +kernel) ⟨rfl, rfl⟩ ⟨by decide, by decide⟩ rfl rfl rfl hl.1 rfl (Nat.le_of_ble_eq_true rfl) ⟨Nat.zero_le _, Nat.zero_le _⟩ dX0_askRowsOf_16 (fun H locs hP hS => ?_)
  refine lv_aload_n hx hb dX0_askRowsOf_19 rfl (lv_at hl 1 rfl) ?_
  refine lv_sipush (v := (255 : Int32)) hx hb dX0_askRowsOf_20 (by decide) ?_
  obtain ⟨x9, hx9, h⟩ := bq_b h
  refine bq_put (x1 := x9) (q0 := 26) (ty := .int) S hK hD hP hS fl_X0_9_X0_6 bt_X0 rfl (by decide +kernel) rfl rfl (Nat.le_of_ble_eq_true rfl) rfl rfl (by rw [hx9]; rfl) dX0_askRowsOf_23 (fun H locs hP hS => ?_)
  refine lv_aload_n hx hb dX0_askRowsOf_26 rfl (lv_at hl 1 rfl) ?_
  refine lv_sipush (v := (255 : Int32)) hx hb dX0_askRowsOf_27 (by decide) ?_
  obtain ⟨x10, hx10, h⟩ := bq_b h
  refine bq_put (x1 := x10) (q0 := 26) (ty := .int) S hK hD hP hS fl_X0_15_X0_7 bt_X0 rfl (by decide +kernel) rfl rfl (Nat.le_of_ble_eq_true rfl) rfl rfl (by rw [hx10]; rfl) dX0_askRowsOf_30 (fun H locs hP hS => ?_)
  refine lv_aload_n hx hb dX0_askRowsOf_33 rfl (lv_at hl 1 rfl) ?_
  refine lv_iconst (v := (-1 : Int32)) hx hb dX0_askRowsOf_34 (by decide) ?_
  obtain ⟨x11, hx11, h⟩ := bq_b h
  refine bq_put (x1 := x11) (q0 := 26) (ty := .int) S hK hD hP hS fl_X0_18_X0_8 bt_X0 rfl (by decide +kernel) rfl rfl (Nat.le_of_ble_eq_true rfl) rfl rfl (by rw [hx11]; rfl) dX0_askRowsOf_35 (fun H locs hP hS => ?_)
  have e2 := hret _ h
  exact hR _ _ _ _ rfl (by rw [e2]; exact hP) hS dX0_askRowsOf_38
def fX8_index (p0 : Int32) (p1 : Int32) (x0 : bq_S) : Option (Int32 × bq_S) :=
  some (((p0 * (8 : Int32)) + p1), x0)
theorem dX8_index_0 : decode cX8_index 0 = .ok (.iload_n 0, 1) := by decide +kernel
theorem dX8_index_1 : decode cX8_index 1 = .ok (.bipush 8, 2) := by decide +kernel
theorem dX8_index_3 : decode cX8_index 3 = .ok (.imul, 1) := by decide +kernel
theorem dX8_index_4 : decode cX8_index 4 = .ok (.iload_n 1, 1) := by decide +kernel
theorem dX8_index_5 : decode cX8_index 5 = .ok (.iadd, 1) := by decide +kernel
theorem dX8_index_6 : decode cX8_index 6 = .ok (.ireturn, 1) := by decide +kernel
set_option maxHeartbeats 4000000 in
set_option maxRecDepth 100000 in
theorem cX8_index_k {l : Launch} {D : va_G} {a : Nat → Nat} {k : Nat → ClassId} {p0 : Int32} {p1 : Int32} {x0 xz : bq_S} {rz : Int32} (h : fX8_index  p0 p1 x0 = some (rz, xz)) : bq_M l D bq_cl (bq_ty k) (bq_wC a k) yX8_index cX8_index 2 (some .int) { frames := 0, cells := 0, slots := 0, locals := 0 } [.int p0, .int p1] x0 (some rz) xz := by
  refine bq_ofW RX8 [(0, .int p0), (1, .int p1)] (by decide +kernel) rfl (Nat.le_of_ble_eq_true rfl) rfl (bq_adC a k) ?_
  intro p e s m below meth c A Q ls S hK hD hA hR hS hP hl
  have hx := S.1; have hb := S.2.1; have hml := S.2.2.1; have hown := S.2.2.2.1; have hts := S.2.2.2.2
  have hret : ∀ z, some z = some (rz, xz) → (rz, xz) = z := fun z h => (Option.some.inj h).symm
  unfold fX8_index at h
  refine lv_iload_n hx hb dX8_index_0 rfl (lv_at hl 0 rfl) ?_
  refine lv_bipush (v := (8 : Int32)) hx hb dX8_index_1 (by decide) ?_
  refine lv_imul hx hb dX8_index_3 ?_
  refine lv_iload_n hx hb dX8_index_4 rfl (lv_at hl 1 rfl) ?_
  refine lv_iadd hx hb dX8_index_5 ?_
  obtain ⟨e1, e2⟩ := Prod.mk.inj (hret _ h)
  exact hR _ _ _ _ _ (congrArg some e1) rfl (by rw [e2]; exact hP) hS dX8_index_6
def fX0_ofNone (x0 : bq_S) : Option (Int32 × bq_S) :=
  some ((0 : Int32), x0)
theorem dX0_ofNone_0 : decode cX0_ofNone 0 = .ok (.iconst 0, 1) := by decide +kernel
theorem dX0_ofNone_1 : decode cX0_ofNone 1 = .ok (.ireturn, 1) := by decide +kernel
set_option maxHeartbeats 4000000 in
set_option maxRecDepth 100000 in
theorem cX0_ofNone_k_26 {l : Launch} {D : va_G} {a : Nat → Nat} {k : Nat → ClassId} {x0 xz : bq_S} {rz : Int32} (h : fX0_ofNone   x0 = some (rz, xz)) : bq_M l D bq_cl (bq_ty k) (bq_wC a k) yX0_ofNone cX0_ofNone 1 (some .int) { frames := 0, cells := 0, slots := 0, locals := 0 } [.ref (a 26)] x0 (some rz) xz := by
  refine bq_ofW RX0 [(0, .ref (a 26))] (by decide +kernel) rfl (Nat.le_of_ble_eq_true rfl) rfl (bq_adC a k) ?_
  intro p e s m below meth c A Q ls S hK hD hA hR hS hP hl
  have hx := S.1; have hb := S.2.1; have hml := S.2.2.1; have hown := S.2.2.2.1; have hts := S.2.2.2.2
  have hret : ∀ z, some z = some (rz, xz) → (rz, xz) = z := fun z h => (Option.some.inj h).symm
  unfold fX0_ofNone at h
  refine lv_iconst (v := (0 : Int32)) hx hb dX0_ofNone_0 (by decide) ?_
  obtain ⟨e1, e2⟩ := Prod.mk.inj (hret _ h)
  exact hR _ _ _ _ _ (congrArg some e1) rfl (by rw [e2]; exact hP) hS dX0_ofNone_1
def fX0_ofStep (p1 : Int32) (p2 : Int32) (p3 : Int32) (p4 : Int32) (x0 : bq_S) : Option (Int32 × bq_S) :=
  (fX4_touches 1 p2 p3 x0).bind (fun o1 => un2 o1 (fun v3 x2 =>
  if v3 = 0 then
  some ((0 : Int32), x2)
  else
  some (p4, x2)))
theorem dX0_ofStep_0 : decode cX0_ofStep 0 = .ok (.aload_n 0, 1) := by decide +kernel
theorem dX0_ofStep_1 : decode cX0_ofStep 1 = .ok (.getfield 27, 3) := by decide +kernel
theorem dX0_ofStep_4 : decode cX0_ofStep 4 = .ok (.iload_n 2, 1) := by decide +kernel
theorem dX0_ofStep_5 : decode cX0_ofStep 5 = .ok (.iload_n 3, 1) := by decide +kernel
theorem dX0_ofStep_6 : decode cX0_ofStep 6 = .ok (.invokevirtual 94, 3) := by decide +kernel
theorem dX0_ofStep_9 : decode cX0_ofStep 9 = .ok (.ifCond .eq 8, 3) := by decide +kernel
theorem dX0_ofStep_12 : decode cX0_ofStep 12 = .ok (.iload 4, 2) := by decide +kernel
theorem dX0_ofStep_14 : decode cX0_ofStep 14 = .ok (.goto 4, 3) := by decide +kernel
theorem dX0_ofStep_17 : decode cX0_ofStep 17 = .ok (.iconst 0, 1) := by decide +kernel
theorem dX0_ofStep_18 : decode cX0_ofStep 18 = .ok (.ireturn, 1) := by decide +kernel
set_option maxHeartbeats 4000000 in
set_option maxRecDepth 100000 in
theorem cX0_ofStep_k_26 {l : Launch} {D : va_G} {a : Nat → Nat} {k : Nat → ClassId} {p1 : Int32} {p2 : Int32} {p3 : Int32} {p4 : Int32} {x0 xz : bq_S} {rz : Int32} (h : fX0_ofStep  p1 p2 p3 p4 x0 = some (rz, xz)) : bq_M l D bq_cl (bq_ty k) (bq_wC a k) yX0_ofStep cX0_ofStep 5 (some .int) { frames := 1, cells := 0, slots := 0, locals := 22 } [.ref (a 26), .int p1, .int p2, .int p3, .int p4] x0 (some rz) xz := by
  refine bq_ofW RX0 [(0, .ref (a 26)), (1, .int p1), (2, .int p2), (3, .int p3), (4, .int p4)] (by decide +kernel) rfl (Nat.le_of_ble_eq_true rfl) rfl (bq_adC a k) ?_
  intro p e s m below meth c A Q ls S hK hD hA hR hS hP hl
  have hx := S.1; have hb := S.2.1; have hml := S.2.2.1; have hown := S.2.2.2.1; have hts := S.2.2.2.2
  have hret : ∀ z, some z = some (rz, xz) → (rz, xz) = z := fun z h => (Option.some.inj h).symm
  unfold fX0_ofStep at h
  refine lv_aload_n hx hb dX0_ofStep_0 rfl (lv_at hl 0 rfl) ?_
  refine bq_get (q0 := 26) S hK hP fl_X0_27_X0_0 rfl rfl rfl dX0_ofStep_1 ?_
  refine lv_iload_n hx hb dX0_ofStep_4 rfl (lv_at hl 2 rfl) ?_
  refine lv_iload_n hx hb dX0_ofStep_5 rfl (lv_at hl 3 rfl) ?_
  obtain ⟨o1, ho1, h⟩ := Option.bind_eq_some_iff.mp h
  obtain ⟨v3, x2⟩ := o1
  replace h := un2_e h
  refine bq_callVi (q0 := 1) (As := [.int _, .int _]) S hK hD hA hP hS (cX4_touches_k_1 ho1) hd_yX4_touches ml_X0_94 in_yX4_touches (hts _ sl_X4_X4_yX4_touches) ⟨rfl, rfl⟩ ⟨by decide, by decide⟩ rfl rfl rfl hl.1 rfl (Nat.le_of_ble_eq_true rfl) ⟨Nat.zero_le _, Nat.zero_le _⟩ dX0_ofStep_6 (fun H locs hP hS => ?_)
  refine lv_if_eq (tgt := 17) hx hb dX0_ofStep_9 (by decide) (fun c4 => ?_) (fun c4 => ?_)
  · replace h := (if_pos c4).symm.trans h
    refine lv_iconst (v := (0 : Int32)) hx hb dX0_ofStep_17 (by decide) ?_
    obtain ⟨e1, e2⟩ := Prod.mk.inj (hret _ h)
    exact hR _ _ _ _ _ (congrArg some e1) rfl (by rw [e2]; exact hP) hS dX0_ofStep_18
  · replace h := (if_neg c4).symm.trans h
    refine lv_iload hx hb dX0_ofStep_12 (lv_at hl 4 rfl) ?_
    refine lv_goto (tgt := 18) hx hb dX0_ofStep_14 (by decide) ?_
    obtain ⟨e1, e2⟩ := Prod.mk.inj (hret _ h)
    exact hR _ _ _ _ _ (congrArg some e1) rfl (by rw [e2]; exact hP) hS dX0_ofStep_18
def fX0_ofBoth (p1 : Int32) (p2 : Int32) (x0 : bq_S) : Option (Int32 × bq_S) :=
  some ((p1 + p2), x0)
theorem dX0_ofBoth_0 : decode cX0_ofBoth 0 = .ok (.iload_n 1, 1) := by decide +kernel
theorem dX0_ofBoth_1 : decode cX0_ofBoth 1 = .ok (.iload_n 2, 1) := by decide +kernel
theorem dX0_ofBoth_2 : decode cX0_ofBoth 2 = .ok (.iadd, 1) := by decide +kernel
theorem dX0_ofBoth_3 : decode cX0_ofBoth 3 = .ok (.ireturn, 1) := by decide +kernel
set_option maxHeartbeats 4000000 in
set_option maxRecDepth 100000 in
theorem cX0_ofBoth_k_26 {l : Launch} {D : va_G} {a : Nat → Nat} {k : Nat → ClassId} {p1 : Int32} {p2 : Int32} {x0 xz : bq_S} {rz : Int32} (h : fX0_ofBoth  p1 p2 x0 = some (rz, xz)) : bq_M l D bq_cl (bq_ty k) (bq_wC a k) yX0_ofBoth cX0_ofBoth 3 (some .int) { frames := 0, cells := 0, slots := 0, locals := 0 } [.ref (a 26), .int p1, .int p2] x0 (some rz) xz := by
  refine bq_ofW RX0 [(0, .ref (a 26)), (1, .int p1), (2, .int p2)] (by decide +kernel) rfl (Nat.le_of_ble_eq_true rfl) rfl (bq_adC a k) ?_
  intro p e s m below meth c A Q ls S hK hD hA hR hS hP hl
  have hx := S.1; have hb := S.2.1; have hml := S.2.2.1; have hown := S.2.2.2.1; have hts := S.2.2.2.2
  have hret : ∀ z, some z = some (rz, xz) → (rz, xz) = z := fun z h => (Option.some.inj h).symm
  unfold fX0_ofBoth at h
  refine lv_iload_n hx hb dX0_ofBoth_0 rfl (lv_at hl 1 rfl) ?_
  refine lv_iload_n hx hb dX0_ofBoth_1 rfl (lv_at hl 2 rfl) ?_
  refine lv_iadd hx hb dX0_ofBoth_2 ?_
  obtain ⟨e1, e2⟩ := Prod.mk.inj (hret _ h)
  exact hR _ _ _ _ _ (congrArg some e1) rfl (by rw [e2]; exact hP) hS dX0_ofBoth_3
def fX8X0_ofLonger_b8 (n : Nat) (v4 : Int32) (v5 : Int32) (v : Int32 × Int32 × bq_S) : Option ((Int32 × Int32 × bq_S) ⊕ (Int32 × Int32 × bq_S)) :=
  un3 v (fun v6 v7 x8 =>
  if (8 : Int32) ≤ v7 then
  some (.inr (v6, v7, x8))
  else
  (fX9_has ((x8.1 26 2) &&& (v4 ^^^ (-1 : Int32))) v7 x8).bind (fun o10 => un2 o10 (fun v12 x11 =>
  if v12 = 0 then
  bd (v7 + (1 : Int32)) (fun v14 =>
  some (.inl (v6, v14, x11)))
  else
  (fX9_bit v7 x11).bind (fun o15 => un2 o15 (fun v17 x16 =>
  (fX8_index (v4 ||| v17) v7 x16).bind (fun o18 => un2 o18 (fun v20 x19 =>
  if ok_i v20 2048 then
  (fX0_ofStep v4 v5 v7 (x19.1 25 v20.toNatClampNeg) x19).bind (fun o22 => un2 o22 (fun v24 x23 =>
  (fX0_ofBoth v6 v24 x23).bind (fun o25 => un2 o25 (fun v27 x26 =>
  bd (v7 + (1 : Int32)) (fun v28 =>
  some (.inl (v27, v28, x26)))))))
  else none)))))))
def fX8X0_ofLonger (n : Nat) (p1 : Int32) (p2 : Int32) (x0 : bq_S) : Option (Int32 × bq_S) :=
  (fX0_ofNone  x0).bind (fun o1 => un2 o1 (fun v3 x2 =>
  (wh n (fX8X0_ofLonger_b8 n p1 p2) (v3, (0 : Int32), x2)).bind (fun e29 => un3 e29 (fun v30 v31 x32 =>
  some (v30, x32)))))
theorem dX8_ofLonger_0 : decode cX8_ofLonger 0 = .ok (.aload_n 0, 1) := by decide +kernel
theorem dX8_ofLonger_1 : decode cX8_ofLonger 1 = .ok (.invokevirtual 56, 3) := by decide +kernel
theorem dX8_ofLonger_4 : decode cX8_ofLonger 4 = .ok (.istore_n 3, 1) := by decide +kernel
theorem dX8_ofLonger_5 : decode cX8_ofLonger 5 = .ok (.iconst 0, 1) := by decide +kernel
theorem dX8_ofLonger_6 : decode cX8_ofLonger 6 = .ok (.istore 4, 2) := by decide +kernel
theorem dX8_ofLonger_8 : decode cX8_ofLonger 8 = .ok (.iload 4, 2) := by decide +kernel
theorem dX8_ofLonger_10 : decode cX8_ofLonger 10 = .ok (.bipush 8, 2) := by decide +kernel
theorem dX8_ofLonger_12 : decode cX8_ofLonger 12 = .ok (.if_icmp .ge 56, 3) := by decide +kernel
theorem dX8_ofLonger_15 : decode cX8_ofLonger 15 = .ok (.aload_n 0, 1) := by decide +kernel
theorem dX8_ofLonger_16 : decode cX8_ofLonger 16 = .ok (.getfield 19, 3) := by decide +kernel
theorem dX8_ofLonger_19 : decode cX8_ofLonger 19 = .ok (.iload_n 1, 1) := by decide +kernel
theorem dX8_ofLonger_20 : decode cX8_ofLonger 20 = .ok (.iconst (-1), 1) := by decide +kernel
theorem dX8_ofLonger_21 : decode cX8_ofLonger 21 = .ok (.ixor, 1) := by decide +kernel
theorem dX8_ofLonger_22 : decode cX8_ofLonger 22 = .ok (.iand, 1) := by decide +kernel
theorem dX8_ofLonger_23 : decode cX8_ofLonger 23 = .ok (.iload 4, 2) := by decide +kernel
theorem dX8_ofLonger_25 : decode cX8_ofLonger 25 = .ok (.invokestatic 39, 3) := by decide +kernel
theorem dX8_ofLonger_28 : decode cX8_ofLonger 28 = .ok (.ifCond .eq 34, 3) := by decide +kernel
theorem dX8_ofLonger_31 : decode cX8_ofLonger 31 = .ok (.aload_n 0, 1) := by decide +kernel
theorem dX8_ofLonger_32 : decode cX8_ofLonger 32 = .ok (.iload_n 3, 1) := by decide +kernel
theorem dX8_ofLonger_33 : decode cX8_ofLonger 33 = .ok (.aload_n 0, 1) := by decide +kernel
theorem dX8_ofLonger_34 : decode cX8_ofLonger 34 = .ok (.iload_n 1, 1) := by decide +kernel
theorem dX8_ofLonger_35 : decode cX8_ofLonger 35 = .ok (.iload_n 2, 1) := by decide +kernel
theorem dX8_ofLonger_36 : decode cX8_ofLonger 36 = .ok (.iload 4, 2) := by decide +kernel
theorem dX8_ofLonger_38 : decode cX8_ofLonger 38 = .ok (.aload_n 0, 1) := by decide +kernel
theorem dX8_ofLonger_39 : decode cX8_ofLonger 39 = .ok (.getfield 15, 3) := by decide +kernel
theorem dX8_ofLonger_42 : decode cX8_ofLonger 42 = .ok (.iload_n 1, 1) := by decide +kernel
theorem dX8_ofLonger_43 : decode cX8_ofLonger 43 = .ok (.iload 4, 2) := by decide +kernel
theorem dX8_ofLonger_45 : decode cX8_ofLonger 45 = .ok (.invokestatic 53, 3) := by decide +kernel
theorem dX8_ofLonger_48 : decode cX8_ofLonger 48 = .ok (.ior, 1) := by decide +kernel
theorem dX8_ofLonger_49 : decode cX8_ofLonger 49 = .ok (.iload 4, 2) := by decide +kernel
theorem dX8_ofLonger_51 : decode cX8_ofLonger 51 = .ok (.invokestatic 43, 3) := by decide +kernel
theorem dX8_ofLonger_54 : decode cX8_ofLonger 54 = .ok (.iaload, 1) := by decide +kernel
theorem dX8_ofLonger_55 : decode cX8_ofLonger 55 = .ok (.invokevirtual 60, 3) := by decide +kernel
theorem dX8_ofLonger_58 : decode cX8_ofLonger 58 = .ok (.invokevirtual 64, 3) := by decide +kernel
theorem dX8_ofLonger_61 : decode cX8_ofLonger 61 = .ok (.istore_n 3, 1) := by decide +kernel
theorem dX8_ofLonger_62 : decode cX8_ofLonger 62 = .ok (.iinc 4 1, 3) := by decide +kernel
theorem dX8_ofLonger_65 : decode cX8_ofLonger 65 = .ok (.goto (-57), 3) := by decide +kernel
theorem dX8_ofLonger_68 : decode cX8_ofLonger 68 = .ok (.iload_n 3, 1) := by decide +kernel
theorem dX8_ofLonger_69 : decode cX8_ofLonger 69 = .ok (.ireturn, 1) := by decide +kernel
set_option maxHeartbeats 4000000 in
set_option maxRecDepth 100000 in
theorem cX8X0_ofLonger_k_26 {l : Launch} {D : va_G} {a : Nat → Nat} {k : Nat → ClassId} {n : Nat} {p1 : Int32} {p2 : Int32} {x0 xz : bq_S} {rz : Int32} (h : fX8X0_ofLonger n p1 p2 x0 = some (rz, xz)) : bq_M l D bq_cl (bq_ty k) (bq_wC a k) yX8_ofLonger cX8_ofLonger 5 (some .int) { frames := 2, cells := 0, slots := 0, locals := 46 } [.ref (a 26), .int p1, .int p2] x0 (some rz) xz := by
  refine bq_ofW RX8 [(0, .ref (a 26)), (1, .int p1), (2, .int p2)] (by decide +kernel) rfl (Nat.le_of_ble_eq_true rfl) rfl (bq_adC a k) ?_
  intro p e s m below meth c A Q ls S hK hD hA hR hS hP hl
  have hx := S.1; have hb := S.2.1; have hml := S.2.2.1; have hown := S.2.2.2.1; have hts := S.2.2.2.2
  have hret : ∀ z, some z = some (rz, xz) → (rz, xz) = z := fun z h => (Option.some.inj h).symm
  unfold fX8X0_ofLonger at h
  refine lv_aload_n hx hb dX8_ofLonger_0 rfl (lv_at hl 0 rfl) ?_
  obtain ⟨o1, ho1, h⟩ := Option.bind_eq_some_iff.mp h
  obtain ⟨v3, x2⟩ := o1
  replace h := un2_e h
  refine bq_callUi (q0 := 26) (owner := "BesideQuotes$Ways") (As := []) S hK hD hA hP hS (cX0_ofNone_k_26 ho1) hd_yX0_ofNone ml_X8_56 in_yX0_ofNone (hts _ sl_X0_X8_yX0_ofNone) sm_X8_ofNone dc_X8_ofNone (by decide +kernel) ⟨rfl, rfl⟩ ⟨by decide, by decide⟩ rfl rfl rfl hl.1 rfl (Nat.le_of_ble_eq_true rfl) ⟨Nat.zero_le _, Nat.zero_le _⟩ dX8_ofLonger_1 (fun H locs hP hS => ?_)
  refine lv_istore_n (lv' := [(3, .int v3), (0, .ref (a 26)), (1, .int p1), (2, .int p2)]) hx hb dX8_ofLonger_4 rfl hl (by decide) rfl (fun ls hl => ?_)
  refine lv_iconst (v := (0 : Int32)) hx hb dX8_ofLonger_5 (by decide) ?_
  refine lv_istore (lv' := [(4, .int (0 : Int32)), (3, .int v3), (0, .ref (a 26)), (1, .int p1), (2, .int p2)]) hx hb dX8_ofLonger_6 hl (by decide) rfl (fun ls hl => ?_)
  have hl8 : ∀ (v4 : Int32) (v5 : Int32) (kf : Nat) (v6 : Int32) (v7 : Int32) (x8 : bq_S) (eo : Int32 × Int32 × bq_S) (H : Heap) (locs : List Loc) (ls : Array Slot), wh kf (fX8X0_ofLonger_b8 n v4 v5) (v6, v7, x8) = some eo → va_P D bq_cl (bq_wC a k x8) H → va_S A s.heap H locs → lv_has ls 5 [(0, .ref (a 26)), (1, .int v4), (2, .int v5), (3, .int v6), (4, .int v7)] → (∀ (H : Heap) (locs : List Loc) (ls : Array Slot) (v30 : Int32) (v31 : Int32) (x32 : bq_S), eo = (v30, v31, x32) → va_P D bq_cl (bq_wC a k x32) H → va_S A s.heap H locs → lv_has ls 5 [(3, .int v30)] → W p l e { frames := 2, cells := 0, slots := 0, locals := 46 } s m [.ref (a 26), .int p1, .int p2].toArray below meth c H locs 0 0 Q (F0 m 68 ls [])) → W p l e { frames := 2, cells := 0, slots := 0, locals := 46 } s m [.ref (a 26), .int p1, .int p2].toArray below meth c H locs 0 0 Q (F0 m 8 ls []) := by
    intro v4 v5 kf
    induction kf with
    | zero => intro v6 v7 x8 eo H locs ls h; cases h
    | succ kf ih =>
      intro v6 v7 x8 eo H locs ls h hP hS hl kx
      obtain ⟨out, h, hw⟩ := wh_s h
      unfold fX8X0_ofLonger_b8 at h
      replace h := un3_e h
      refine lv_iload hx hb dX8_ofLonger_8 (lv_at hl 4 rfl) ?_
      refine lv_bipush (v := (8 : Int32)) hx hb dX8_ofLonger_10 (by decide) ?_
      refine lv_icmp_ge (tgt := 68) hx hb dX8_ofLonger_12 (by decide) (fun c9 => ?_) (fun c9 => ?_)
      · replace h := (if_pos c9).symm.trans h
        cases h
        exact kx _ _ _ _ _ _ (Option.some.inj hw).symm hP hS (lv_sub hl [3] rfl)
      · replace h := (if_neg c9).symm.trans h
        refine lv_aload_n hx hb dX8_ofLonger_15 rfl (lv_at hl 0 rfl) ?_
        refine bq_get (q0 := 26) S hK hP fl_X8_19_X0_2 rfl rfl rfl dX8_ofLonger_16 ?_
        refine lv_iload_n hx hb dX8_ofLonger_19 rfl (lv_at hl 1 rfl) ?_
        refine lv_iconst (v := (-1 : Int32)) hx hb dX8_ofLonger_20 (by decide) ?_
        refine lv_ixor hx hb dX8_ofLonger_21 ?_
        refine lv_iand hx hb dX8_ofLonger_22 ?_
        refine lv_iload hx hb dX8_ofLonger_23 (lv_at hl 4 rfl) ?_
        obtain ⟨o10, ho10, h⟩ := Option.bind_eq_some_iff.mp h
        obtain ⟨v12, x11⟩ := o10
        replace h := un2_e h
        refine bq_callSNi (As := [.int _, .int _]) S hK hD hA hP hS (cX9_has_k ho10) hd_yX9_has mn_X8_39 st_yX9_has ⟨rfl, rfl⟩ ⟨by decide, by decide⟩ rfl hl.1 rfl (Nat.le_of_ble_eq_true rfl) ⟨Nat.zero_le _, Nat.zero_le _⟩ dX8_ofLonger_25 (fun H locs hP hS => ?_)
        refine lv_if_eq (tgt := 62) hx hb dX8_ofLonger_28 (by decide) (fun c13 => ?_) (fun c13 => ?_)
        · replace h := (if_pos c13).symm.trans h
          obtain ⟨v14, hv14, h⟩ := bq_b h
          refine lv_iinc (v := v14) (lv' := [(4, .int v14), (0, .ref (a 26)), (1, .int v4), (2, .int v5), (3, .int v6)]) hx hb dX8_ofLonger_62 hl (k := 4) rfl (by rw [hv14]; rfl) (by decide) rfl (fun ls hl => ?_)
          refine lv_goto (tgt := 8) hx hb dX8_ofLonger_65 (by decide) ?_
          cases h
          exact ih _ _ _ _ _ _ _ hw hP hS (lv_sub hl [1, 2, 3, 4, 0] rfl) kx
        · replace h := (if_neg c13).symm.trans h
          refine lv_aload_n hx hb dX8_ofLonger_31 rfl (lv_at hl 0 rfl) ?_
          refine lv_iload_n hx hb dX8_ofLonger_32 rfl (lv_at hl 3 rfl) ?_
          refine lv_aload_n hx hb dX8_ofLonger_33 rfl (lv_at hl 0 rfl) ?_
          refine lv_iload_n hx hb dX8_ofLonger_34 rfl (lv_at hl 1 rfl) ?_
          refine lv_iload_n hx hb dX8_ofLonger_35 rfl (lv_at hl 2 rfl) ?_
          refine lv_iload hx hb dX8_ofLonger_36 (lv_at hl 4 rfl) ?_
          refine lv_aload_n hx hb dX8_ofLonger_38 rfl (lv_at hl 0 rfl) ?_
          refine bq_get (q0 := 26) S hK hP fl_X8_15_X0_1 rfl rfl rfl dX8_ofLonger_39 ?_
          refine lv_iload_n hx hb dX8_ofLonger_42 rfl (lv_at hl 1 rfl) ?_
          refine lv_iload hx hb dX8_ofLonger_43 (lv_at hl 4 rfl) ?_
          obtain ⟨o15, ho15, h⟩ := Option.bind_eq_some_iff.mp h
          obtain ⟨v17, x16⟩ := o15
          replace h := un2_e h
          refine bq_callSNi (As := [.int _]) S hK hD hA hP hS (cX9_bit_k ho15) hd_yX9_bit mn_X8_53 st_yX9_bit ⟨rfl, rfl⟩ ⟨by decide, by decide⟩ rfl hl.1 rfl (Nat.le_of_ble_eq_true rfl) ⟨Nat.zero_le _, Nat.zero_le _⟩ dX8_ofLonger_45 (fun H locs hP hS => ?_)
          refine lv_ior hx hb dX8_ofLonger_48 ?_
          refine lv_iload hx hb dX8_ofLonger_49 (lv_at hl 4 rfl) ?_
          obtain ⟨o18, ho18, h⟩ := Option.bind_eq_some_iff.mp h
          obtain ⟨v20, x19⟩ := o18
          replace h := un2_e h
          refine bq_callSi (As := [.int _, .int _]) S hK hD hA hP hS (cX8_index_k ho18) hd_yX8_index ml_X8_43 st_yX8_index ⟨rfl, rfl⟩ ⟨by decide, by decide⟩ rfl hl.1 rfl (Nat.le_of_ble_eq_true rfl) ⟨Nat.zero_le _, Nat.zero_le _⟩ dX8_ofLonger_51 (fun H locs hP hS => ?_)
          obtain ⟨g21, h⟩ := bq_gd h
          refine va_iald (D := D) hx hb hK hP 25 0 rfl rfl g21 dX8_ofLonger_54 ?_
          obtain ⟨o22, ho22, h⟩ := Option.bind_eq_some_iff.mp h
          obtain ⟨v24, x23⟩ := o22
          replace h := un2_e h
          refine bq_callUi (q0 := 26) (owner := "BesideQuotes$Ways") (As := [.int _, .int _, .int _, .int _]) S hK hD hA hP hS (cX0_ofStep_k_26 ho22) hd_yX0_ofStep ml_X8_60 in_yX0_ofStep (hts _ sl_X0_X8_yX0_ofStep) sm_X8_ofStep dc_X8_ofStep (by decide +kernel) ⟨rfl, rfl⟩ ⟨by decide, by decide⟩ rfl rfl rfl hl.1 rfl (Nat.le_of_ble_eq_true rfl) ⟨Nat.zero_le _, Nat.zero_le _⟩ dX8_ofLonger_55 (fun H locs hP hS => ?_)
          obtain ⟨o25, ho25, h⟩ := Option.bind_eq_some_iff.mp h
          obtain ⟨v27, x26⟩ := o25
          replace h := un2_e h
          refine bq_callUi (q0 := 26) (owner := "BesideQuotes$Ways") (As := [.int _, .int _]) S hK hD hA hP hS (cX0_ofBoth_k_26 ho25) hd_yX0_ofBoth ml_X8_64 in_yX0_ofBoth (hts _ sl_X0_X8_yX0_ofBoth) sm_X8_ofBoth dc_X8_ofBoth (by decide +kernel) ⟨rfl, rfl⟩ ⟨by decide, by decide⟩ rfl rfl rfl hl.1 rfl (Nat.le_of_ble_eq_true rfl) ⟨Nat.zero_le _, Nat.zero_le _⟩ dX8_ofLonger_58 (fun H locs hP hS => ?_)
          refine lv_istore_n (lv' := [(3, .int v27), (0, .ref (a 26)), (1, .int v4), (2, .int v5), (4, .int v7)]) hx hb dX8_ofLonger_61 rfl hl (by decide) rfl (fun ls hl => ?_)
          obtain ⟨v28, hv28, h⟩ := bq_b h
          refine lv_iinc (v := v28) (lv' := [(4, .int v28), (3, .int v27), (0, .ref (a 26)), (1, .int v4), (2, .int v5)]) hx hb dX8_ofLonger_62 hl (k := 4) rfl (by rw [hv28]; rfl) (by decide) rfl (fun ls hl => ?_)
          refine lv_goto (tgt := 8) hx hb dX8_ofLonger_65 (by decide) ?_
          cases h
          exact ih _ _ _ _ _ _ _ hw hP hS (lv_sub hl [2, 3, 4, 1, 0] rfl) kx
  obtain ⟨e29, he29, h⟩ := Option.bind_eq_some_iff.mp h
  refine hl8 _ _ n _ _ _ e29 _ _ _ he29 hP hS (lv_sub hl [2, 3, 4, 1, 0] rfl) (fun H locs ls v30 v31 x32 hz hP hS hl => ?_)
  subst hz
  replace h := un3_e h
  refine lv_iload_n hx hb dX8_ofLonger_68 rfl (lv_at hl 0 rfl) ?_
  obtain ⟨e1, e2⟩ := Prod.mk.inj (hret _ h)
  exact hR _ _ _ _ _ (congrArg some e1) rfl (by rw [e2]; exact hP) hS dX8_ofLonger_69
