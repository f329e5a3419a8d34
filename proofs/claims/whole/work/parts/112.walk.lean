def fX10_clause_j134 (n : Nat) (v20 : Int32) (x33 : bq_S) : Option ((Int32 × bq_S) ⊕ (Int32 × bq_S)) :=
  if (x33.1 0 11) = 0 then
  (fX10_here n  x33).bind (fun o35 => un2 o35 (fun v37 x36 =>
  (fX10_in v37.toInt64 (48 : Int64) (57 : Int64) x36).bind (fun o38 => un2 o38 (fun v40 x39 =>
  if v40 = 0 then
  some (.inl ((0 : Int32), x39))
  else
  some (.inl ((1 : Int32), x39))))))
  else
  some (.inl ((0 : Int32), x33))
def fX10_clause_b53 (n : Nat) (v20 : Int32) (v : Int32 × bq_S) : Option ((Int32 × bq_S) ⊕ (Int32 × bq_S)) :=
  un2 v (fun v21 x22 =>
  if v21 = 0 then
  some (.inr (v21, x22))
  else
  (fX10_here n  x22).bind (fun o24 => un2 o24 (fun v26 x25 =>
  bd (x25.1 0 10) (fun v27 =>
  if ok_i v20 8 then
  (fX10_digit n (0 : Int32) (7 : Int32) ((x25.1 8 v20.toNatClampNeg) ||| ((1 : Int32) <<< (v20 &&& 31))) x25).bind (fun o29 => un2 o29 (fun v31 x30 =>
  if (x30.1 0 11) = 0 then
  if ok_i v20 8 then
  if ok_i v20 8 then
  bd (bq_sI x30 8 v20.toNatClampNeg ((x30.1 8 v20.toNatClampNeg) ||| ((1 : Int32) <<< (v31 &&& 31)))) (fun x43 =>
  if ok_i v31 8 then
  if 0 ≤ (x43.1 9 v31.toNatClampNeg) then
  if ok_i v31 8 then
  if ok_i v31 8 then
  bd (bq_sI x43 9 v31.toNatClampNeg (x43.1 9 v31.toNatClampNeg)) (fun x48 =>
  fX10_clause_j134 n v20 x48)
  else none
  else none
  else
  if ok_i v31 8 then
  bd (bq_sI x43 9 v31.toNatClampNeg v27) (fun x50 =>
  fX10_clause_j134 n v20 x50)
  else none
  else none)
  else none
  else none
  else
  fX10_clause_j134 n v20 x30))
  else none))))
def fX10_clause_j35 (n : Nat) (v10 : Int32) (v11 : Int32) (v12 : Int32) (x13 : bq_S) : Option (bq_S) :=
  bd (bq_sI x13 0 14 (v11 ||| v12)) (fun x14 =>
  if ok_i v10 8 then
  bd (bq_sI x14 8 v10.toNatClampNeg (0 : Int32)) (fun x15 =>
  (fX10_has n (58 : Int32) x15).bind (fun o17 => un2 o17 (fun v19 x18 =>
  (wh n (fX10_clause_b53 n v10) (v19, x18)).bind (fun e52 => un2 e52 (fun v53 x54 =>
  some x54)))))
  else none)
def fX10_clause (n : Nat) (p1 : Int32) (x0 : bq_S) : Option (bq_S) :=
  (fX10_digit n (1 : Int32) (9 : Int32) (0 : Int32) x0).bind (fun o1 => un2 o1 (fun v3 x2 =>
  if ok_i p1 8 then
  bd (bq_sI x2 7 p1.toNatClampNeg v3) (fun x4 =>
  (fX10_has n (112 : Int32) x4).bind (fun o6 => un2 o6 (fun v8 x7 =>
  if v8 = 0 then
  fX10_clause_j35 n p1 (x4.1 0 14) (0 : Int32) x7
  else
  fX10_clause_j35 n p1 (x4.1 0 14) ((1 : Int32) <<< (p1 &&& 31)) x7)))
  else none))
theorem dX10_clause_0 : decode cX10_clause 0 = .ok (.aload_n 0, 1) := by decide +kernel
theorem dX10_clause_1 : decode cX10_clause 1 = .ok (.getfield 28, 3) := by decide +kernel
theorem dX10_clause_4 : decode cX10_clause 4 = .ok (.iload_n 1, 1) := by decide +kernel
theorem dX10_clause_5 : decode cX10_clause 5 = .ok (.aload_n 0, 1) := by decide +kernel
theorem dX10_clause_6 : decode cX10_clause 6 = .ok (.iconst 1, 1) := by decide +kernel
theorem dX10_clause_7 : decode cX10_clause 7 = .ok (.bipush 9, 2) := by decide +kernel
theorem dX10_clause_9 : decode cX10_clause 9 = .ok (.iconst 0, 1) := by decide +kernel
theorem dX10_clause_10 : decode cX10_clause 10 = .ok (.invokevirtual 112, 3) := by decide +kernel
theorem dX10_clause_13 : decode cX10_clause 13 = .ok (.iastore, 1) := by decide +kernel
theorem dX10_clause_14 : decode cX10_clause 14 = .ok (.aload_n 0, 1) := by decide +kernel
theorem dX10_clause_15 : decode cX10_clause 15 = .ok (.dup, 1) := by decide +kernel
theorem dX10_clause_16 : decode cX10_clause 16 = .ok (.getfield 116, 3) := by decide +kernel
theorem dX10_clause_19 : decode cX10_clause 19 = .ok (.aload_n 0, 1) := by decide +kernel
theorem dX10_clause_20 : decode cX10_clause 20 = .ok (.bipush 112, 2) := by decide +kernel
theorem dX10_clause_22 : decode cX10_clause 22 = .ok (.invokevirtual 119, 3) := by decide +kernel
theorem dX10_clause_25 : decode cX10_clause 25 = .ok (.ifCond .eq 9, 3) := by decide +kernel
theorem dX10_clause_28 : decode cX10_clause 28 = .ok (.iconst 1, 1) := by decide +kernel
theorem dX10_clause_29 : decode cX10_clause 29 = .ok (.iload_n 1, 1) := by decide +kernel
theorem dX10_clause_30 : decode cX10_clause 30 = .ok (.ishl, 1) := by decide +kernel
theorem dX10_clause_31 : decode cX10_clause 31 = .ok (.goto 4, 3) := by decide +kernel
theorem dX10_clause_34 : decode cX10_clause 34 = .ok (.iconst 0, 1) := by decide +kernel
theorem dX10_clause_35 : decode cX10_clause 35 = .ok (.ior, 1) := by decide +kernel
theorem dX10_clause_36 : decode cX10_clause 36 = .ok (.putfield 116, 3) := by decide +kernel
theorem dX10_clause_39 : decode cX10_clause 39 = .ok (.aload_n 0, 1) := by decide +kernel
theorem dX10_clause_40 : decode cX10_clause 40 = .ok (.getfield 31, 3) := by decide +kernel
theorem dX10_clause_43 : decode cX10_clause 43 = .ok (.iload_n 1, 1) := by decide +kernel
theorem dX10_clause_44 : decode cX10_clause 44 = .ok (.iconst 0, 1) := by decide +kernel
theorem dX10_clause_45 : decode cX10_clause 45 = .ok (.iastore, 1) := by decide +kernel
theorem dX10_clause_46 : decode cX10_clause 46 = .ok (.aload_n 0, 1) := by decide +kernel
theorem dX10_clause_47 : decode cX10_clause 47 = .ok (.bipush 58, 2) := by decide +kernel
theorem dX10_clause_49 : decode cX10_clause 49 = .ok (.invokevirtual 119, 3) := by decide +kernel
theorem dX10_clause_52 : decode cX10_clause 52 = .ok (.istore_n 2, 1) := by decide +kernel
theorem dX10_clause_53 : decode cX10_clause 53 = .ok (.iload_n 2, 1) := by decide +kernel
theorem dX10_clause_54 : decode cX10_clause 54 = .ok (.ifCond .eq 113, 3) := by decide +kernel
theorem dX10_clause_57 : decode cX10_clause 57 = .ok (.aload_n 0, 1) := by decide +kernel
theorem dX10_clause_58 : decode cX10_clause 58 = .ok (.invokevirtual 104, 3) := by decide +kernel
theorem dX10_clause_61 : decode cX10_clause 61 = .ok (.pop, 1) := by decide +kernel
theorem dX10_clause_62 : decode cX10_clause 62 = .ok (.aload_n 0, 1) := by decide +kernel
theorem dX10_clause_63 : decode cX10_clause 63 = .ok (.getfield 97, 3) := by decide +kernel
theorem dX10_clause_66 : decode cX10_clause 66 = .ok (.istore_n 3, 1) := by decide +kernel
theorem dX10_clause_67 : decode cX10_clause 67 = .ok (.aload_n 0, 1) := by decide +kernel
theorem dX10_clause_68 : decode cX10_clause 68 = .ok (.iconst 0, 1) := by decide +kernel
theorem dX10_clause_69 : decode cX10_clause 69 = .ok (.bipush 7, 2) := by decide +kernel
theorem dX10_clause_71 : decode cX10_clause 71 = .ok (.aload_n 0, 1) := by decide +kernel
theorem dX10_clause_72 : decode cX10_clause 72 = .ok (.getfield 31, 3) := by decide +kernel
theorem dX10_clause_75 : decode cX10_clause 75 = .ok (.iload_n 1, 1) := by decide +kernel
theorem dX10_clause_76 : decode cX10_clause 76 = .ok (.iaload, 1) := by decide +kernel
theorem dX10_clause_77 : decode cX10_clause 77 = .ok (.iconst 1, 1) := by decide +kernel
theorem dX10_clause_78 : decode cX10_clause 78 = .ok (.iload_n 1, 1) := by decide +kernel
theorem dX10_clause_79 : decode cX10_clause 79 = .ok (.ishl, 1) := by decide +kernel
theorem dX10_clause_80 : decode cX10_clause 80 = .ok (.ior, 1) := by decide +kernel
theorem dX10_clause_81 : decode cX10_clause 81 = .ok (.invokevirtual 112, 3) := by decide +kernel
theorem dX10_clause_84 : decode cX10_clause 84 = .ok (.istore 4, 2) := by decide +kernel
theorem dX10_clause_86 : decode cX10_clause 86 = .ok (.aload_n 0, 1) := by decide +kernel
theorem dX10_clause_87 : decode cX10_clause 87 = .ok (.getfield 100, 3) := by decide +kernel
theorem dX10_clause_90 : decode cX10_clause 90 = .ok (.ifCond .ne 44, 3) := by decide +kernel
theorem dX10_clause_93 : decode cX10_clause 93 = .ok (.aload_n 0, 1) := by decide +kernel
theorem dX10_clause_94 : decode cX10_clause 94 = .ok (.getfield 31, 3) := by decide +kernel
theorem dX10_clause_97 : decode cX10_clause 97 = .ok (.iload_n 1, 1) := by decide +kernel
theorem dX10_clause_98 : decode cX10_clause 98 = .ok (.dup2, 1) := by decide +kernel
theorem dX10_clause_99 : decode cX10_clause 99 = .ok (.iaload, 1) := by decide +kernel
theorem dX10_clause_100 : decode cX10_clause 100 = .ok (.iconst 1, 1) := by decide +kernel
theorem dX10_clause_101 : decode cX10_clause 101 = .ok (.iload 4, 2) := by decide +kernel
theorem dX10_clause_103 : decode cX10_clause 103 = .ok (.ishl, 1) := by decide +kernel
theorem dX10_clause_104 : decode cX10_clause 104 = .ok (.ior, 1) := by decide +kernel
theorem dX10_clause_105 : decode cX10_clause 105 = .ok (.iastore, 1) := by decide +kernel
theorem dX10_clause_106 : decode cX10_clause 106 = .ok (.aload_n 0, 1) := by decide +kernel
theorem dX10_clause_107 : decode cX10_clause 107 = .ok (.getfield 34, 3) := by decide +kernel
theorem dX10_clause_110 : decode cX10_clause 110 = .ok (.iload 4, 2) := by decide +kernel
theorem dX10_clause_112 : decode cX10_clause 112 = .ok (.aload_n 0, 1) := by decide +kernel
theorem dX10_clause_113 : decode cX10_clause 113 = .ok (.getfield 34, 3) := by decide +kernel
theorem dX10_clause_116 : decode cX10_clause 116 = .ok (.iload 4, 2) := by decide +kernel
theorem dX10_clause_118 : decode cX10_clause 118 = .ok (.iaload, 1) := by decide +kernel
theorem dX10_clause_119 : decode cX10_clause 119 = .ok (.ifCond .ge 7, 3) := by decide +kernel
theorem dX10_clause_122 : decode cX10_clause 122 = .ok (.iload_n 3, 1) := by decide +kernel
theorem dX10_clause_123 : decode cX10_clause 123 = .ok (.goto 10, 3) := by decide +kernel
theorem dX10_clause_126 : decode cX10_clause 126 = .ok (.aload_n 0, 1) := by decide +kernel
theorem dX10_clause_127 : decode cX10_clause 127 = .ok (.getfield 34, 3) := by decide +kernel
theorem dX10_clause_130 : decode cX10_clause 130 = .ok (.iload 4, 2) := by decide +kernel
theorem dX10_clause_132 : decode cX10_clause 132 = .ok (.iaload, 1) := by decide +kernel
theorem dX10_clause_133 : decode cX10_clause 133 = .ok (.iastore, 1) := by decide +kernel
theorem dX10_clause_134 : decode cX10_clause 134 = .ok (.aload_n 0, 1) := by decide +kernel
theorem dX10_clause_135 : decode cX10_clause 135 = .ok (.getfield 100, 3) := by decide +kernel
theorem dX10_clause_138 : decode cX10_clause 138 = .ok (.ifCond .ne 24, 3) := by decide +kernel
theorem dX10_clause_141 : decode cX10_clause 141 = .ok (.aload_n 0, 1) := by decide +kernel
theorem dX10_clause_142 : decode cX10_clause 142 = .ok (.invokevirtual 104, 3) := by decide +kernel
theorem dX10_clause_145 : decode cX10_clause 145 = .ok (.i2l, 1) := by decide +kernel
theorem dX10_clause_146 : decode cX10_clause 146 = .ok (.ldc2_w 108, 3) := by decide +kernel
theorem dX10_clause_149 : decode cX10_clause 149 = .ok (.ldc2_w 110, 3) := by decide +kernel
theorem dX10_clause_152 : decode cX10_clause 152 = .ok (.invokestatic 66, 3) := by decide +kernel
theorem dX10_clause_155 : decode cX10_clause 155 = .ok (.ifCond .eq 7, 3) := by decide +kernel
theorem dX10_clause_158 : decode cX10_clause 158 = .ok (.iconst 1, 1) := by decide +kernel
theorem dX10_clause_159 : decode cX10_clause 159 = .ok (.goto 4, 3) := by decide +kernel
theorem dX10_clause_162 : decode cX10_clause 162 = .ok (.iconst 0, 1) := by decide +kernel
theorem dX10_clause_163 : decode cX10_clause 163 = .ok (.istore_n 2, 1) := by decide +kernel
theorem dX10_clause_164 : decode cX10_clause 164 = .ok (.goto (-111), 3) := by decide +kernel
theorem dX10_clause_167 : decode cX10_clause 167 = .ok (.return_, 1) := by decide +kernel
set_option maxHeartbeats 4000000 in
set_option maxRecDepth 100000 in
theorem cX10_clause_k_0 {l : Launch} {D : va_G} {a : Nat → Nat} {k : Nat → ClassId} {n : Nat} {p1 : Int32} {x0 xz : bq_S} (h : fX10_clause n p1 x0 = some xz) : bq_M l D bq_cl (bq_ty k) (bq_wM a k) yX10_clause cX10_clause 5 none { frames := 2, cells := 0, slots := 0, locals := 50 } [.ref (a 0), .int p1] x0 none xz := by
  refine bq_ofWv RX10 [(0, .ref (a 0)), (1, .int p1)] (by decide +kernel) rfl (Nat.le_of_ble_eq_true rfl) rfl (bq_adM a k) ?_
  intro p e s m below meth c A Q ls S hK hD hA hR hS hP hl
  have hx := S.1; have hb := S.2.1; have hml := S.2.2.1; have hown := S.2.2.2.1; have hts := S.2.2.2.2
  have hret : ∀ z, some z = some xz → xz = z := fun z h => (Option.some.inj h).symm
  unfold fX10_clause at h
  have hj35 : ∀ (v10 : Int32) (v11 : Int32) (v12 : Int32) (x13 : bq_S) (H : Heap) (locs : List Loc) (ls : Array Slot), fX10_clause_j35 n v10 v11 v12 x13 = some xz → va_P D bq_cl (bq_wM a k x13) H → va_S A s.heap H locs → lv_has ls 5 [(0, .ref (a 0)), (1, .int v10)] → W p l e { frames := 2, cells := 0, slots := 0, locals := 50 } s m [.ref (a 0), .int p1].toArray below meth c H locs 0 0 Q (F0 m 35 ls [.int v12, .int v11, .ref (a 0)]) := by
    intro v10 v11 v12 x13 H locs ls h hP hS hl
    unfold fX10_clause_j35 at h
    refine lv_ior hx hb dX10_clause_35 ?_
    obtain ⟨x14, hx14, h⟩ := bq_b h
    refine bq_put (x1 := x14) (q0 := 0) (ty := .int) S hK hD hP hS fl_X10_116_X10_14 bt_X10 rfl (by decide +kernel) rfl rfl (Nat.le_of_ble_eq_true rfl) rfl rfl (by rw [hx14]; rfl) dX10_clause_36 (fun H locs hP hS => ?_)
    refine lv_aload_n hx hb dX10_clause_39 rfl (lv_at hl 0 rfl) ?_
    refine bq_get (q0 := 0) S hK hP fl_X10_31_X10_13 rfl rfl rfl dX10_clause_40 ?_
    refine lv_iload_n hx hb dX10_clause_43 rfl (lv_at hl 1 rfl) ?_
    refine lv_iconst (v := (0 : Int32)) hx hb dX10_clause_44 (by decide) ?_
    obtain ⟨g16, h⟩ := bq_gd h
    obtain ⟨x15, hx15, h⟩ := bq_b h
    refine bq_iast (x1 := x15) (q0 := 8) (t0 := 0) S hK hD hP hS rfl rfl g16 (by rw [hx15]; rfl) dX10_clause_45 (fun H locs hP hS => ?_)
    refine lv_aload_n hx hb dX10_clause_46 rfl (lv_at hl 0 rfl) ?_
    refine lv_bipush (v := (58 : Int32)) hx hb dX10_clause_47 (by decide) ?_
    obtain ⟨o17, ho17, h⟩ := Option.bind_eq_some_iff.mp h
    obtain ⟨v19, x18⟩ := o17
    replace h := un2_e h
    refine bq_callVi (q0 := 0) (As := [.int _]) S hK hD hA hP hS (cX10_has_k_0 ho17) hd_yX10_has ml_X10_119 in_yX10_has (hts _ sl_X10_X10_yX10_has) ⟨rfl, rfl⟩ ⟨by decide, by decide⟩ rfl rfl rfl hl.1 rfl (Nat.le_of_ble_eq_true rfl) ⟨Nat.zero_le _, Nat.zero_le _⟩ dX10_clause_49 (fun H locs hP hS => ?_)
    refine lv_istore_n (lv' := [(2, .int v19), (0, .ref (a 0)), (1, .int v10)]) hx hb dX10_clause_52 rfl hl (by decide) rfl (fun ls hl => ?_)
    have hl53 : ∀ (v20 : Int32) (kf : Nat) (v21 : Int32) (x22 : bq_S) (eo : Int32 × bq_S) (H : Heap) (locs : List Loc) (ls : Array Slot), wh kf (fX10_clause_b53 n v20) (v21, x22) = some eo → va_P D bq_cl (bq_wM a k x22) H → va_S A s.heap H locs → lv_has ls 5 [(0, .ref (a 0)), (1, .int v20), (2, .int v21)] → (∀ (H : Heap) (locs : List Loc) (ls : Array Slot) (v53 : Int32) (x54 : bq_S), eo = (v53, x54) → va_P D bq_cl (bq_wM a k x54) H → va_S A s.heap H locs → lv_has ls 5 [] → W p l e { frames := 2, cells := 0, slots := 0, locals := 50 } s m [.ref (a 0), .int p1].toArray below meth c H locs 0 0 Q (F0 m 167 ls [])) → W p l e { frames := 2, cells := 0, slots := 0, locals := 50 } s m [.ref (a 0), .int p1].toArray below meth c H locs 0 0 Q (F0 m 53 ls []) := by
      intro v20 kf
      induction kf with
      | zero => intro v21 x22 eo H locs ls h; cases h
      | succ kf ih =>
        intro v21 x22 eo H locs ls h hP hS hl kx
        obtain ⟨out, h, hw⟩ := wh_s h
        unfold fX10_clause_b53 at h
        replace h := un2_e h
        have hj134 : ∀ (x33 : bq_S) (H : Heap) (locs : List Loc) (ls : Array Slot), fX10_clause_j134 n v20 x33 = some out → va_P D bq_cl (bq_wM a k x33) H → va_S A s.heap H locs → lv_has ls 5 [(0, .ref (a 0)), (1, .int v20)] → W p l e { frames := 2, cells := 0, slots := 0, locals := 50 } s m [.ref (a 0), .int p1].toArray below meth c H locs 0 0 Q (F0 m 134 ls []) := by
          intro  x33 H locs ls h hP hS hl
          unfold fX10_clause_j134 at h
          refine lv_aload_n hx hb dX10_clause_134 rfl (lv_at hl 0 rfl) ?_
          refine bq_get (q0 := 0) S hK hP fl_X10_100_X10_11 rfl rfl rfl dX10_clause_135 ?_
          refine lv_if_ne (tgt := 162) hx hb dX10_clause_138 (by decide) (fun c34 => ?_) (fun c34 => ?_)
          · replace h := (if_neg c34).symm.trans h
            refine lv_iconst (v := (0 : Int32)) hx hb dX10_clause_162 (by decide) ?_
            refine lv_istore_n (lv' := [(2, .int (0 : Int32)), (0, .ref (a 0)), (1, .int v20)]) hx hb dX10_clause_163 rfl hl (by decide) rfl (fun ls hl => ?_)
            refine lv_goto (tgt := 53) hx hb dX10_clause_164 (by decide) ?_
            cases h
            exact ih _ _ _ _ _ _ hw hP hS (lv_sub hl [1, 2, 0] rfl) kx
          · replace h := (if_pos c34).symm.trans h
            refine lv_aload_n hx hb dX10_clause_141 rfl (lv_at hl 0 rfl) ?_
            obtain ⟨o35, ho35, h⟩ := Option.bind_eq_some_iff.mp h
            obtain ⟨v37, x36⟩ := o35
            replace h := un2_e h
            refine bq_callVi (q0 := 0) (As := []) S hK hD hA hP hS (cX10_here_k_0 ho35) hd_yX10_here ml_X10_104 in_yX10_here (hts _ sl_X10_X10_yX10_here) ⟨rfl, rfl⟩ ⟨by decide, by decide⟩ rfl rfl rfl hl.1 rfl (Nat.le_of_ble_eq_true rfl) ⟨Nat.zero_le _, Nat.zero_le _⟩ dX10_clause_142 (fun H locs hP hS => ?_)
            refine lv_i2l hx hb dX10_clause_145 rfl ?_
            refine lv_ldc2 hx hb hown (hts _ kl_X10_108) dX10_clause_146 ?_
            refine lv_ldc2 hx hb hown (hts _ kl_X10_110) dX10_clause_149 ?_
            obtain ⟨o38, ho38, h⟩ := Option.bind_eq_some_iff.mp h
            obtain ⟨v40, x39⟩ := o38
            replace h := un2_e h
            refine bq_callSi (As := [.long _, .long _, .long _]) S hK hD hA hP hS (cX10_in_k ho38) hd_yX10_in ml_X10_66 st_yX10_in ⟨rfl, rfl⟩ ⟨by decide, by decide⟩ rfl hl.1 rfl (Nat.le_of_ble_eq_true rfl) ⟨Nat.zero_le _, Nat.zero_le _⟩ dX10_clause_152 (fun H locs hP hS => ?_)
            refine lv_if_eq (tgt := 162) hx hb dX10_clause_155 (by decide) (fun c41 => ?_) (fun c41 => ?_)
            · replace h := (if_pos c41).symm.trans h
              refine lv_iconst (v := (0 : Int32)) hx hb dX10_clause_162 (by decide) ?_
              refine lv_istore_n (lv' := [(2, .int (0 : Int32)), (0, .ref (a 0)), (1, .int v20)]) hx hb dX10_clause_163 rfl hl (by decide) rfl (fun ls hl => ?_)
              refine lv_goto (tgt := 53) hx hb dX10_clause_164 (by decide) ?_
              cases h
              exact ih _ _ _ _ _ _ hw hP hS (lv_sub hl [1, 2, 0] rfl) kx
            · replace h := (if_neg c41).symm.trans h
              refine lv_iconst (v := (1 : Int32)) hx hb dX10_clause_158 (by decide) ?_
              refine lv_goto (tgt := 163) hx hb dX10_clause_159 (by decide) ?_
              refine lv_istore_n (lv' := [(2, .int (1 : Int32)), (0, .ref (a 0)), (1, .int v20)]) hx hb dX10_clause_163 rfl hl (by decide) rfl (fun ls hl => ?_)
              refine lv_goto (tgt := 53) hx hb dX10_clause_164 (by decide) ?_
              cases h
              exact ih _ _ _ _ _ _ hw hP hS (lv_sub hl [1, 2, 0] rfl) kx
        refine lv_iload_n hx hb dX10_clause_53 rfl (lv_at hl 2 rfl) ?_
        refine lv_if_eq (tgt := 167) hx hb dX10_clause_54 (by decide) (fun c23 => ?_) (fun c23 => ?_)
        · replace h := (if_pos c23).symm.trans h
          cases h
          exact kx _ _ _ _ _ (Option.some.inj hw).symm hP hS (lv_sub hl [] rfl)
        · replace h := (if_neg c23).symm.trans h
          refine lv_aload_n hx hb dX10_clause_57 rfl (lv_at hl 0 rfl) ?_
          obtain ⟨o24, ho24, h⟩ := Option.bind_eq_some_iff.mp h
          obtain ⟨v26, x25⟩ := o24
          replace h := un2_e h
          refine bq_callVi (q0 := 0) (As := []) S hK hD hA hP hS (cX10_here_k_0 ho24) hd_yX10_here ml_X10_104 in_yX10_here (hts _ sl_X10_X10_yX10_here) ⟨rfl, rfl⟩ ⟨by decide, by decide⟩ rfl rfl rfl hl.1 rfl (Nat.le_of_ble_eq_true rfl) ⟨Nat.zero_le _, Nat.zero_le _⟩ dX10_clause_58 (fun H locs hP hS => ?_)
          refine lv_pop hx hb dX10_clause_61 rfl ?_
          refine lv_aload_n hx hb dX10_clause_62 rfl (lv_at hl 0 rfl) ?_
          refine bq_get (q0 := 0) S hK hP fl_X10_97_X10_10 rfl rfl rfl dX10_clause_63 ?_
          refine lv_topi (fun v27 hv27 => ?_)
          replace h := bq_bv h hv27
          refine lv_istore_n (lv' := [(3, .int v27), (0, .ref (a 0)), (1, .int v20), (2, .int v21)]) hx hb dX10_clause_66 rfl hl (by decide) rfl (fun ls hl => ?_)
          refine lv_aload_n hx hb dX10_clause_67 rfl (lv_at hl 1 rfl) ?_
          refine lv_iconst (v := (0 : Int32)) hx hb dX10_clause_68 (by decide) ?_
          refine lv_bipush (v := (7 : Int32)) hx hb dX10_clause_69 (by decide) ?_
          refine lv_aload_n hx hb dX10_clause_71 rfl (lv_at hl 1 rfl) ?_
          refine bq_get (q0 := 0) S hK hP fl_X10_31_X10_13 rfl rfl rfl dX10_clause_72 ?_
          refine lv_iload_n hx hb dX10_clause_75 rfl (lv_at hl 2 rfl) ?_
          obtain ⟨g28, h⟩ := bq_gd h
          refine va_iald (D := D) hx hb hK hP 8 0 rfl rfl g28 dX10_clause_76 ?_
          refine lv_iconst (v := (1 : Int32)) hx hb dX10_clause_77 (by decide) ?_
          refine lv_iload_n hx hb dX10_clause_78 rfl (lv_at hl 2 rfl) ?_
          refine lv_ishl hx hb dX10_clause_79 ?_
          refine lv_ior hx hb dX10_clause_80 ?_
          obtain ⟨o29, ho29, h⟩ := Option.bind_eq_some_iff.mp h
          obtain ⟨v31, x30⟩ := o29
          replace h := un2_e h
          refine bq_callVi (q0 := 0) (As := [.int _, .int _, .int _]) S hK hD hA hP hS (cX10_digit_k_0 ho29) hd_yX10_digit ml_X10_112 in_yX10_digit (hts _ sl_X10_X10_yX10_digit) ⟨rfl, rfl⟩ ⟨by decide, by decide⟩ rfl rfl rfl hl.1 rfl (Nat.le_of_ble_eq_true rfl) ⟨Nat.zero_le _, Nat.zero_le _⟩ dX10_clause_81 (fun H locs hP hS => ?_)
          refine lv_istore (lv' := [(4, .int v31), (3, .int v27), (0, .ref (a 0)), (1, .int v20), (2, .int v21)]) hx hb dX10_clause_84 hl (by decide) rfl (fun ls hl => ?_)
          refine lv_aload_n hx hb dX10_clause_86 rfl (lv_at hl 2 rfl) ?_
          refine bq_get (q0 := 0) S hK hP fl_X10_100_X10_11 rfl rfl rfl dX10_clause_87 ?_
          refine lv_if_ne (tgt := 134) hx hb dX10_clause_90 (by decide) (fun c32 => ?_) (fun c32 => ?_)
          · replace h := (if_neg c32).symm.trans h
            exact hj134  _ _ _ _ h hP hS (lv_sub hl [2, 3] rfl)
          · replace h := (if_pos c32).symm.trans h
            refine lv_aload_n hx hb dX10_clause_93 rfl (lv_at hl 2 rfl) ?_
            refine bq_get (q0 := 0) S hK hP fl_X10_31_X10_13 rfl rfl rfl dX10_clause_94 ?_
            refine lv_iload_n hx hb dX10_clause_97 rfl (lv_at hl 3 rfl) ?_
            refine lv_dup2_11 hx hb dX10_clause_98 rfl rfl ?_
            obtain ⟨g42, h⟩ := bq_gd h
            refine va_iald (D := D) hx hb hK hP 8 0 rfl rfl g42 dX10_clause_99 ?_
            refine lv_iconst (v := (1 : Int32)) hx hb dX10_clause_100 (by decide) ?_
            refine lv_iload hx hb dX10_clause_101 (lv_at hl 0 rfl) ?_
            refine lv_ishl hx hb dX10_clause_103 ?_
            refine lv_ior hx hb dX10_clause_104 ?_
            obtain ⟨g44, h⟩ := bq_gd h
            obtain ⟨x43, hx43, h⟩ := bq_b h
            refine bq_iast (x1 := x43) (q0 := 8) (t0 := 0) S hK hD hP hS rfl rfl g44 (by rw [hx43]; rfl) dX10_clause_105 (fun H locs hP hS => ?_)
            refine lv_aload_n hx hb dX10_clause_106 rfl (lv_at hl 2 rfl) ?_
            refine bq_get (q0 := 0) S hK hP fl_X10_34_X10_15 rfl rfl rfl dX10_clause_107 ?_
            refine lv_iload hx hb dX10_clause_110 (lv_at hl 0 rfl) ?_
            refine lv_aload_n hx hb dX10_clause_112 rfl (lv_at hl 2 rfl) ?_
            refine bq_get (q0 := 0) S hK hP fl_X10_34_X10_15 rfl rfl rfl dX10_clause_113 ?_
            refine lv_iload hx hb dX10_clause_116 (lv_at hl 0 rfl) ?_
            obtain ⟨g45, h⟩ := bq_gd h
            refine va_iald (D := D) hx hb hK hP 9 0 rfl rfl g45 dX10_clause_118 ?_
            refine lv_if_ge (tgt := 126) hx hb dX10_clause_119 (by decide) (fun c46 => ?_) (fun c46 => ?_)
            · replace h := (if_pos c46).symm.trans h
              refine lv_aload_n hx hb dX10_clause_126 rfl (lv_at hl 2 rfl) ?_
              refine bq_get (q0 := 0) S hK hP fl_X10_34_X10_15 rfl rfl rfl dX10_clause_127 ?_
              refine lv_iload hx hb dX10_clause_130 (lv_at hl 0 rfl) ?_
              obtain ⟨g47, h⟩ := bq_gd h
              refine va_iald (D := D) hx hb hK hP 9 0 rfl rfl g47 dX10_clause_132 ?_
              obtain ⟨g49, h⟩ := bq_gd h
              obtain ⟨x48, hx48, h⟩ := bq_b h
              refine bq_iast (x1 := x48) (q0 := 9) (t0 := 0) S hK hD hP hS rfl rfl g49 (by rw [hx48]; rfl) dX10_clause_133 (fun H locs hP hS => ?_)
              exact hj134  _ _ _ _ h hP hS (lv_sub hl [2, 3] rfl)
            · replace h := (if_neg c46).symm.trans h
              refine lv_iload_n hx hb dX10_clause_122 rfl (lv_at hl 1 rfl) ?_
              refine lv_goto (tgt := 133) hx hb dX10_clause_123 (by decide) ?_
              obtain ⟨g51, h⟩ := bq_gd h
              obtain ⟨x50, hx50, h⟩ := bq_b h
              refine bq_iast (x1 := x50) (q0 := 9) (t0 := 0) S hK hD hP hS rfl rfl g51 (by rw [hx50]; rfl) dX10_clause_133 (fun H locs hP hS => ?_)
              exact hj134  _ _ _ _ h hP hS (lv_sub hl [2, 3] rfl)
    obtain ⟨e52, he52, h⟩ := Option.bind_eq_some_iff.mp h
    refine hl53 _ n _ _ e52 _ _ _ he52 hP hS (lv_sub hl [1, 2, 0] rfl) (fun H locs ls v53 x54 hz hP hS hl => ?_)
    subst hz
    replace h := un2_e h
    have e2 := hret _ h
    exact hR _ _ _ _ rfl (by rw [e2]; exact hP) hS dX10_clause_167
  refine lv_aload_n hx hb dX10_clause_0 rfl (lv_at hl 0 rfl) ?_
  refine bq_get (q0 := 0) S hK hP fl_X10_28_X10_12 rfl rfl rfl dX10_clause_1 ?_
  refine lv_iload_n hx hb dX10_clause_4 rfl (lv_at hl 1 rfl) ?_
  refine lv_aload_n hx hb dX10_clause_5 rfl (lv_at hl 0 rfl) ?_
  refine lv_iconst (v := (1 : Int32)) hx hb dX10_clause_6 (by decide) ?_
  refine lv_bipush (v := (9 : Int32)) hx hb dX10_clause_7 (by decide) ?_
  refine lv_iconst (v := (0 : Int32)) hx hb dX10_clause_9 (by decide) ?_
  obtain ⟨o1, ho1, h⟩ := Option.bind_eq_some_iff.mp h
  obtain ⟨v3, x2⟩ := o1
  replace h := un2_e h
  refine bq_callVi (q0 := 0) (As := [.int _, .int _, .int _]) S hK hD hA hP hS (cX10_digit_k_0 ho1) hd_yX10_digit ml_X10_112 in_yX10_digit (hts _ sl_X10_X10_yX10_digit) ⟨rfl, rfl⟩ ⟨by decide, by decide⟩ rfl rfl rfl hl.1 rfl (Nat.le_of_ble_eq_true rfl) ⟨Nat.zero_le _, Nat.zero_le _⟩ dX10_clause_10 (fun H locs hP hS => ?_)
  obtain ⟨g5, h⟩ := bq_gd h
  obtain ⟨x4, hx4, h⟩ := bq_b h
  refine bq_iast (x1 := x4) (q0 := 7) (t0 := 0) S hK hD hP hS rfl rfl g5 (by rw [hx4]; rfl) dX10_clause_13 (fun H locs hP hS => ?_)
  refine lv_aload_n hx hb dX10_clause_14 rfl (lv_at hl 0 rfl) ?_
  refine lv_dup hx hb dX10_clause_15 rfl ?_
  refine bq_get (q0 := 0) S hK hP fl_X10_116_X10_14 rfl rfl rfl dX10_clause_16 ?_
  refine lv_aload_n hx hb dX10_clause_19 rfl (lv_at hl 0 rfl) ?_
  refine lv_bipush (v := (112 : Int32)) hx hb dX10_clause_20 (by decide) ?_
  obtain ⟨o6, ho6, h⟩ := Option.bind_eq_some_iff.mp h
  obtain ⟨v8, x7⟩ := o6
  replace h := un2_e h
  refine bq_callVi (q0 := 0) (As := [.int _]) S hK hD hA hP hS (cX10_has_k_0 ho6) hd_yX10_has ml_X10_119 in_yX10_has (hts _ sl_X10_X10_yX10_has) ⟨rfl, rfl⟩ ⟨by decide, by decide⟩ rfl rfl rfl hl.1 rfl (Nat.le_of_ble_eq_true rfl) ⟨Nat.zero_le _, Nat.zero_le _⟩ dX10_clause_22 (fun H locs hP hS => ?_)
  refine lv_if_eq (tgt := 34) hx hb dX10_clause_25 (by decide) (fun c9 => ?_) (fun c9 => ?_)
  · replace h := (if_pos c9).symm.trans h
    refine lv_iconst (v := (0 : Int32)) hx hb dX10_clause_34 (by decide) ?_
    exact hj35 _ _ _ _ _ _ _ h hP hS (lv_sub hl [0, 1] rfl)
  · replace h := (if_neg c9).symm.trans h
    refine lv_iconst (v := (1 : Int32)) hx hb dX10_clause_28 (by decide) ?_
    refine lv_iload_n hx hb dX10_clause_29 rfl (lv_at hl 1 rfl) ?_
    refine lv_ishl hx hb dX10_clause_30 ?_
    refine lv_goto (tgt := 35) hx hb dX10_clause_31 (by decide) ?_
    exact hj35 _ _ _ _ _ _ _ h hP hS (lv_sub hl [0, 1] rfl)
def fX10_books_b17 (n : Nat) (v : Int32 × bq_S) : Option ((Int32 × bq_S) ⊕ (Int32 × bq_S)) :=
  un2 v (fun v4 x5 =>
  if (8 : Int32) ≤ v4 then
  some (.inr (v4, x5))
  else
  if ok_i v4 8 then
  bd (bq_sI x5 9 v4.toNatClampNeg (-1 : Int32)) (fun x7 =>
  bd (v4 + (1 : Int32)) (fun v9 =>
  some (.inl (v9, x7))))
  else none)
def fX10_books_b40 (n : Nat) (v : Int32 × Int32 × bq_S) : Option ((Int32 × Int32 × bq_S) ⊕ (Int32 × Int32 × bq_S)) :=
  un3 v (fun v13 v14 x15 =>
  if v14 = 0 then
  some (.inr (v13, v14, x15))
  else
  (fX10_clause n v13 x15).bind (fun x18 =>
  bd (v13 + (1 : Int32)) (fun v19 =>
  if (8 : Int32) ≤ v19 then
  some (.inl (v19, (0 : Int32), x18))
  else
  (fX10_has n (59 : Int32) x18).bind (fun o21 => un2 o21 (fun v23 x22 =>
  if v23 = 0 then
  some (.inl (v19, (0 : Int32), x22))
  else
  some (.inl (v19, (1 : Int32), x22)))))))
def fX10_books_j157 (n : Nat) (v37 : Int32) (v46 : Int32) (x47 : bq_S) : Option ((Int32 × Int32 × bq_S) ⊕ (Int32 × Int32 × bq_S)) :=
  if ok_i v46 8 then
  bd (x47.1 9 v46.toNatClampNeg) (fun v49 =>
  bd (v46 + (1 : Int32)) (fun v50 =>
  some (.inl (v49, v50, x47))))
  else none
def fX10_books_b125 (n : Nat) (v37 : Int32) (v : Int32 × Int32 × bq_S) : Option ((Int32 × Int32 × bq_S) ⊕ (Int32 × Int32 × bq_S)) :=
  un3 v (fun v38 v39 x40 =>
  if (8 : Int32) ≤ v39 then
  some (.inr (v38, v39, x40))
  else
  if ok_i v39 8 then
  if (x40.1 9 v39.toNatClampNeg) < 0 then
  bd (v39 + (1 : Int32)) (fun v44 =>
  some (.inl (v38, v44, x40)))
  else
  if v38 < 0 then
  fX10_books_j157 n v37 v39 x40
  else
  if ok_i v39 8 then
  if v38 ≤ (x40.1 9 v39.toNatClampNeg) then
  bd (v39 + (1 : Int32)) (fun v53 =>
  some (.inl (v38, v53, x40)))
  else
  fX10_books_j157 n v37 v39 x40
  else none
  else none)
def fX10_books_b205 (n : Nat) (v62 : Int32) (v : Int32 × bq_S) : Option ((Int32 × bq_S) ⊕ (Int32 × bq_S)) :=
  un2 v (fun v63 x64 =>
  if v62 ≤ v63 then
  some (.inr (v63, x64))
  else
  if ok_i v63 8 then
  if ok_i v63 8 then
  bd (bq_sI x64 1 v63.toNatClampNeg (x64.1 7 v63.toNatClampNeg)) (fun x67 =>
  if ok_i v63 8 then
  if ok_i v63 8 then
  bd (bq_sI x67 2 v63.toNatClampNeg (x67.1 8 v63.toNatClampNeg)) (fun x70 =>
  if ok_i v63 8 then
  bd (bq_sI x70 3 v63.toNatClampNeg (0 : Int32)) (fun x72 =>
  bd (v63 + (1 : Int32)) (fun v74 =>
  some (.inl (v74, x72))))
  else none)
  else none
  else none)
  else none
  else none)
def fX10_books_j96 (n : Nat) (v30 : Int32) (v31 : Int32) (x32 : bq_S) : Option (Int32 × bq_S) :=
  if v31 = 0 ∨ v31 = 1 then
  bd (bq_sI x32 0 11 v31) (fun x33 =>
  bd (bq_sI x33 0 9 (0 : Int32)) (fun x35 =>
  if (x35.1 0 11) = 0 then
  (wh n (fX10_books_b125 n v30) ((-4 : Int32), v30, x35)).bind (fun e54 => un3 e54 (fun v55 v56 x57 =>
  if v55 < 0 then
  bd (bq_sI x57 0 0 v30) (fun x59 =>
  bd (bq_sI x59 0 4 (x59.1 0 14)) (fun x60 =>
  bd (bq_sI x60 0 6 (0 : Int32)) (fun x61 =>
  (wh n (fX10_books_b205 n v30) ((0 : Int32), x61)).bind (fun e75 => un2 e75 (fun v76 x77 =>
  some (v30, x77))))))
  else
  some (((-20 : Int32) - v55), x57)))
  else
  some (((-20 : Int32) - (x35.1 0 10)), x35)))
  else none
def fX10_books (n : Nat) (x0 : bq_S) : Option (Int32 × bq_S) :=
  bd (bq_sI x0 0 10 (0 : Int32)) (fun x1 =>
  bd (bq_sI x1 0 11 (0 : Int32)) (fun x2 =>
  bd (bq_sI x2 0 14 (0 : Int32)) (fun x3 =>
  (wh n (fX10_books_b17 n) ((0 : Int32), x3)).bind (fun e10 => un2 e10 (fun v11 x12 =>
  (wh n (fX10_books_b40 n) ((0 : Int32), (1 : Int32), x12)).bind (fun e25 => un3 e25 (fun v26 v27 x28 =>
  if (x28.1 0 11) = 0 then
  (fX10_here n  x28).bind (fun o78 => un2 o78 (fun v80 x79 =>
  if v80 = 0 then
  fX10_books_j96 n v26 (0 : Int32) x79
  else
  fX10_books_j96 n v26 (1 : Int32) x79))
  else
  fX10_books_j96 n v26 (1 : Int32) x28)))))))
theorem dX10_books_0 : decode cX10_books 0 = .ok (.aload_n 0, 1) := by decide +kernel
theorem dX10_books_1 : decode cX10_books 1 = .ok (.iconst 0, 1) := by decide +kernel
theorem dX10_books_2 : decode cX10_books 2 = .ok (.putfield 97, 3) := by decide +kernel
theorem dX10_books_5 : decode cX10_books 5 = .ok (.aload_n 0, 1) := by decide +kernel
theorem dX10_books_6 : decode cX10_books 6 = .ok (.iconst 0, 1) := by decide +kernel
theorem dX10_books_7 : decode cX10_books 7 = .ok (.putfield 100, 3) := by decide +kernel
theorem dX10_books_10 : decode cX10_books 10 = .ok (.aload_n 0, 1) := by decide +kernel
theorem dX10_books_11 : decode cX10_books 11 = .ok (.iconst 0, 1) := by decide +kernel
theorem dX10_books_12 : decode cX10_books 12 = .ok (.putfield 116, 3) := by decide +kernel
theorem dX10_books_15 : decode cX10_books 15 = .ok (.iconst 0, 1) := by decide +kernel
theorem dX10_books_16 : decode cX10_books 16 = .ok (.istore_n 1, 1) := by decide +kernel
theorem dX10_books_17 : decode cX10_books 17 = .ok (.iload_n 1, 1) := by decide +kernel
theorem dX10_books_18 : decode cX10_books 18 = .ok (.bipush 8, 2) := by decide +kernel
theorem dX10_books_20 : decode cX10_books 20 = .ok (.if_icmp .ge 16, 3) := by decide +kernel
theorem dX10_books_23 : decode cX10_books 23 = .ok (.aload_n 0, 1) := by decide +kernel
theorem dX10_books_24 : decode cX10_books 24 = .ok (.getfield 34, 3) := by decide +kernel
theorem dX10_books_27 : decode cX10_books 27 = .ok (.iload_n 1, 1) := by decide +kernel
theorem dX10_books_28 : decode cX10_books 28 = .ok (.iconst (-1), 1) := by decide +kernel
theorem dX10_books_29 : decode cX10_books 29 = .ok (.iastore, 1) := by decide +kernel
theorem dX10_books_30 : decode cX10_books 30 = .ok (.iinc 1 1, 3) := by decide +kernel
theorem dX10_books_33 : decode cX10_books 33 = .ok (.goto (-16), 3) := by decide +kernel
theorem dX10_books_36 : decode cX10_books 36 = .ok (.iconst 0, 1) := by decide +kernel
theorem dX10_books_37 : decode cX10_books 37 = .ok (.istore_n 1, 1) := by decide +kernel
theorem dX10_books_38 : decode cX10_books 38 = .ok (.iconst 1, 1) := by decide +kernel
theorem dX10_books_39 : decode cX10_books 39 = .ok (.istore_n 2, 1) := by decide +kernel
theorem dX10_books_40 : decode cX10_books 40 = .ok (.iload_n 2, 1) := by decide +kernel
theorem dX10_books_41 : decode cX10_books 41 = .ok (.ifCond .eq 35, 3) := by decide +kernel
theorem dX10_books_44 : decode cX10_books 44 = .ok (.aload_n 0, 1) := by decide +kernel
theorem dX10_books_45 : decode cX10_books 45 = .ok (.iload_n 1, 1) := by decide +kernel
theorem dX10_books_46 : decode cX10_books 46 = .ok (.invokevirtual 122, 3) := by decide +kernel
theorem dX10_books_49 : decode cX10_books 49 = .ok (.iinc 1 1, 3) := by decide +kernel
theorem dX10_books_52 : decode cX10_books 52 = .ok (.iload_n 1, 1) := by decide +kernel
theorem dX10_books_53 : decode cX10_books 53 = .ok (.bipush 8, 2) := by decide +kernel
theorem dX10_books_55 : decode cX10_books 55 = .ok (.if_icmp .ge 16, 3) := by decide +kernel
theorem dX10_books_58 : decode cX10_books 58 = .ok (.aload_n 0, 1) := by decide +kernel
theorem dX10_books_59 : decode cX10_books 59 = .ok (.bipush 59, 2) := by decide +kernel
theorem dX10_books_61 : decode cX10_books 61 = .ok (.invokevirtual 119, 3) := by decide +kernel
theorem dX10_books_64 : decode cX10_books 64 = .ok (.ifCond .eq 7, 3) := by decide +kernel
theorem dX10_books_67 : decode cX10_books 67 = .ok (.iconst 1, 1) := by decide +kernel
theorem dX10_books_68 : decode cX10_books 68 = .ok (.goto 4, 3) := by decide +kernel
theorem dX10_books_71 : decode cX10_books 71 = .ok (.iconst 0, 1) := by decide +kernel
theorem dX10_books_72 : decode cX10_books 72 = .ok (.istore_n 2, 1) := by decide +kernel
theorem dX10_books_73 : decode cX10_books 73 = .ok (.goto (-33), 3) := by decide +kernel
theorem dX10_books_76 : decode cX10_books 76 = .ok (.aload_n 0, 1) := by decide +kernel
theorem dX10_books_77 : decode cX10_books 77 = .ok (.aload_n 0, 1) := by decide +kernel
theorem dX10_books_78 : decode cX10_books 78 = .ok (.getfield 100, 3) := by decide +kernel
theorem dX10_books_81 : decode cX10_books 81 = .ok (.ifCond .ne 10, 3) := by decide +kernel
theorem dX10_books_84 : decode cX10_books 84 = .ok (.aload_n 0, 1) := by decide +kernel
theorem dX10_books_85 : decode cX10_books 85 = .ok (.invokevirtual 104, 3) := by decide +kernel
theorem dX10_books_88 : decode cX10_books 88 = .ok (.ifCond .eq 7, 3) := by decide +kernel
theorem dX10_books_91 : decode cX10_books 91 = .ok (.iconst 1, 1) := by decide +kernel
theorem dX10_books_92 : decode cX10_books 92 = .ok (.goto 4, 3) := by decide +kernel
theorem dX10_books_95 : decode cX10_books 95 = .ok (.iconst 0, 1) := by decide +kernel
theorem dX10_books_96 : decode cX10_books 96 = .ok (.putfield 100, 3) := by decide +kernel
theorem dX10_books_99 : decode cX10_books 99 = .ok (.aload_n 0, 1) := by decide +kernel
theorem dX10_books_100 : decode cX10_books 100 = .ok (.iconst 0, 1) := by decide +kernel
theorem dX10_books_101 : decode cX10_books 101 = .ok (.putfield 94, 3) := by decide +kernel
theorem dX10_books_104 : decode cX10_books 104 = .ok (.aload_n 0, 1) := by decide +kernel
theorem dX10_books_105 : decode cX10_books 105 = .ok (.getfield 100, 3) := by decide +kernel
theorem dX10_books_108 : decode cX10_books 108 = .ok (.ifCond .eq 11, 3) := by decide +kernel
theorem dX10_books_111 : decode cX10_books 111 = .ok (.bipush (-20), 2) := by decide +kernel
theorem dX10_books_113 : decode cX10_books 113 = .ok (.aload_n 0, 1) := by decide +kernel
theorem dX10_books_114 : decode cX10_books 114 = .ok (.getfield 97, 3) := by decide +kernel
theorem dX10_books_117 : decode cX10_books 117 = .ok (.isub, 1) := by decide +kernel
theorem dX10_books_118 : decode cX10_books 118 = .ok (.ireturn, 1) := by decide +kernel
theorem dX10_books_119 : decode cX10_books 119 = .ok (.bipush (-4), 2) := by decide +kernel
theorem dX10_books_121 : decode cX10_books 121 = .ok (.istore_n 3, 1) := by decide +kernel
theorem dX10_books_122 : decode cX10_books 122 = .ok (.iload_n 1, 1) := by decide +kernel
theorem dX10_books_123 : decode cX10_books 123 = .ok (.istore 4, 2) := by decide +kernel
theorem dX10_books_125 : decode cX10_books 125 = .ok (.iload 4, 2) := by decide +kernel
theorem dX10_books_127 : decode cX10_books 127 = .ok (.bipush 8, 2) := by decide +kernel
theorem dX10_books_129 : decode cX10_books 129 = .ok (.if_icmp .ge 46, 3) := by decide +kernel
theorem dX10_books_132 : decode cX10_books 132 = .ok (.aload_n 0, 1) := by decide +kernel
theorem dX10_books_133 : decode cX10_books 133 = .ok (.getfield 34, 3) := by decide +kernel
theorem dX10_books_136 : decode cX10_books 136 = .ok (.iload 4, 2) := by decide +kernel
theorem dX10_books_138 : decode cX10_books 138 = .ok (.iaload, 1) := by decide +kernel
theorem dX10_books_139 : decode cX10_books 139 = .ok (.ifCond .lt 28, 3) := by decide +kernel
theorem dX10_books_142 : decode cX10_books 142 = .ok (.iload_n 3, 1) := by decide +kernel
theorem dX10_books_143 : decode cX10_books 143 = .ok (.ifCond .lt 14, 3) := by decide +kernel
theorem dX10_books_146 : decode cX10_books 146 = .ok (.aload_n 0, 1) := by decide +kernel
theorem dX10_books_147 : decode cX10_books 147 = .ok (.getfield 34, 3) := by decide +kernel
theorem dX10_books_150 : decode cX10_books 150 = .ok (.iload 4, 2) := by decide +kernel
theorem dX10_books_152 : decode cX10_books 152 = .ok (.iaload, 1) := by decide +kernel
theorem dX10_books_153 : decode cX10_books 153 = .ok (.iload_n 3, 1) := by decide +kernel
theorem dX10_books_154 : decode cX10_books 154 = .ok (.if_icmp .ge 13, 3) := by decide +kernel
theorem dX10_books_157 : decode cX10_books 157 = .ok (.aload_n 0, 1) := by decide +kernel
theorem dX10_books_158 : decode cX10_books 158 = .ok (.getfield 34, 3) := by decide +kernel
theorem dX10_books_161 : decode cX10_books 161 = .ok (.iload 4, 2) := by decide +kernel
theorem dX10_books_163 : decode cX10_books 163 = .ok (.iaload, 1) := by decide +kernel
theorem dX10_books_164 : decode cX10_books 164 = .ok (.goto 4, 3) := by decide +kernel
theorem dX10_books_167 : decode cX10_books 167 = .ok (.iload_n 3, 1) := by decide +kernel
theorem dX10_books_168 : decode cX10_books 168 = .ok (.istore_n 3, 1) := by decide +kernel
theorem dX10_books_169 : decode cX10_books 169 = .ok (.iinc 4 1, 3) := by decide +kernel
theorem dX10_books_172 : decode cX10_books 172 = .ok (.goto (-47), 3) := by decide +kernel
theorem dX10_books_175 : decode cX10_books 175 = .ok (.iload_n 3, 1) := by decide +kernel
theorem dX10_books_176 : decode cX10_books 176 = .ok (.ifCond .lt 8, 3) := by decide +kernel
theorem dX10_books_179 : decode cX10_books 179 = .ok (.bipush (-20), 2) := by decide +kernel
theorem dX10_books_181 : decode cX10_books 181 = .ok (.iload_n 3, 1) := by decide +kernel
theorem dX10_books_182 : decode cX10_books 182 = .ok (.isub, 1) := by decide +kernel
theorem dX10_books_183 : decode cX10_books 183 = .ok (.ireturn, 1) := by decide +kernel
theorem dX10_books_184 : decode cX10_books 184 = .ok (.aload_n 0, 1) := by decide +kernel
theorem dX10_books_185 : decode cX10_books 185 = .ok (.iload_n 1, 1) := by decide +kernel
theorem dX10_books_186 : decode cX10_books 186 = .ok (.putfield 62, 3) := by decide +kernel
theorem dX10_books_189 : decode cX10_books 189 = .ok (.aload_n 0, 1) := by decide +kernel
theorem dX10_books_190 : decode cX10_books 190 = .ok (.aload_n 0, 1) := by decide +kernel
theorem dX10_books_191 : decode cX10_books 191 = .ok (.getfield 116, 3) := by decide +kernel
theorem dX10_books_194 : decode cX10_books 194 = .ok (.putfield 76, 3) := by decide +kernel
theorem dX10_books_197 : decode cX10_books 197 = .ok (.aload_n 0, 1) := by decide +kernel
theorem dX10_books_198 : decode cX10_books 198 = .ok (.iconst 0, 1) := by decide +kernel
theorem dX10_books_199 : decode cX10_books 199 = .ok (.putfield 126, 3) := by decide +kernel
theorem dX10_books_202 : decode cX10_books 202 = .ok (.iconst 0, 1) := by decide +kernel
theorem dX10_books_203 : decode cX10_books 203 = .ok (.istore 4, 2) := by decide +kernel
theorem dX10_books_205 : decode cX10_books 205 = .ok (.iload 4, 2) := by decide +kernel
theorem dX10_books_207 : decode cX10_books 207 = .ok (.iload_n 1, 1) := by decide +kernel
theorem dX10_books_208 : decode cX10_books 208 = .ok (.if_icmp .ge 45, 3) := by decide +kernel
theorem dX10_books_211 : decode cX10_books 211 = .ok (.aload_n 0, 1) := by decide +kernel
theorem dX10_books_212 : decode cX10_books 212 = .ok (.getfield 7, 3) := by decide +kernel
theorem dX10_books_215 : decode cX10_books 215 = .ok (.iload 4, 2) := by decide +kernel
theorem dX10_books_217 : decode cX10_books 217 = .ok (.aload_n 0, 1) := by decide +kernel
theorem dX10_books_218 : decode cX10_books 218 = .ok (.getfield 28, 3) := by decide +kernel
theorem dX10_books_221 : decode cX10_books 221 = .ok (.iload 4, 2) := by decide +kernel
theorem dX10_books_223 : decode cX10_books 223 = .ok (.iaload, 1) := by decide +kernel
theorem dX10_books_224 : decode cX10_books 224 = .ok (.iastore, 1) := by decide +kernel
theorem dX10_books_225 : decode cX10_books 225 = .ok (.aload_n 0, 1) := by decide +kernel
theorem dX10_books_226 : decode cX10_books 226 = .ok (.getfield 13, 3) := by decide +kernel
theorem dX10_books_229 : decode cX10_books 229 = .ok (.iload 4, 2) := by decide +kernel
theorem dX10_books_231 : decode cX10_books 231 = .ok (.aload_n 0, 1) := by decide +kernel
theorem dX10_books_232 : decode cX10_books 232 = .ok (.getfield 31, 3) := by decide +kernel
theorem dX10_books_235 : decode cX10_books 235 = .ok (.iload 4, 2) := by decide +kernel
theorem dX10_books_237 : decode cX10_books 237 = .ok (.iaload, 1) := by decide +kernel
theorem dX10_books_238 : decode cX10_books 238 = .ok (.iastore, 1) := by decide +kernel
theorem dX10_books_239 : decode cX10_books 239 = .ok (.aload_n 0, 1) := by decide +kernel
theorem dX10_books_240 : decode cX10_books 240 = .ok (.getfield 16, 3) := by decide +kernel
theorem dX10_books_243 : decode cX10_books 243 = .ok (.iload 4, 2) := by decide +kernel
theorem dX10_books_245 : decode cX10_books 245 = .ok (.iconst 0, 1) := by decide +kernel
theorem dX10_books_246 : decode cX10_books 246 = .ok (.iastore, 1) := by decide +kernel
theorem dX10_books_247 : decode cX10_books 247 = .ok (.iinc 4 1, 3) := by decide +kernel
theorem dX10_books_250 : decode cX10_books 250 = .ok (.goto (-45), 3) := by decide +kernel
theorem dX10_books_253 : decode cX10_books 253 = .ok (.iload_n 1, 1) := by decide +kernel
theorem dX10_books_254 : decode cX10_books 254 = .ok (.ireturn, 1) := by decide +kernel
set_option maxHeartbeats 4000000 in
set_option maxRecDepth 100000 in
theorem cX10_books_k_0 {l : Launch} {D : va_G} {a : Nat → Nat} {k : Nat → ClassId} {n : Nat} {x0 xz : bq_S} {rz : Int32} (h : fX10_books n  x0 = some (rz, xz)) : bq_M l D bq_cl (bq_ty k) (bq_wM a k) yX10_books cX10_books 5 (some .int) { frames := 3, cells := 0, slots := 0, locals := 74 } [.ref (a 0)] x0 (some rz) xz := by
  refine bq_ofW RX10 [(0, .ref (a 0))] (by decide +kernel) rfl (Nat.le_of_ble_eq_true rfl) rfl (bq_adM a k) ?_
  intro p e s m below meth c A Q ls S hK hD hA hR hS hP hl
  have hx := S.1; have hb := S.2.1; have hml := S.2.2.1; have hown := S.2.2.2.1; have hts := S.2.2.2.2
  have hret : ∀ z, some z = some (rz, xz) → (rz, xz) = z := fun z h => (Option.some.inj h).symm
  unfold fX10_books at h
  have hj96 : ∀ (v30 : Int32) (v31 : Int32) (x32 : bq_S) (H : Heap) (locs : List Loc) (ls : Array Slot), fX10_books_j96 n v30 v31 x32 = some (rz, xz) → va_P D bq_cl (bq_wM a k x32) H → va_S A s.heap H locs → lv_has ls 5 [(0, .ref (a 0)), (1, .int v30)] → W p l e { frames := 3, cells := 0, slots := 0, locals := 74 } s m [.ref (a 0)].toArray below meth c H locs 0 0 Q (F0 m 96 ls [.int v31, .ref (a 0)]) := by
    intro v30 v31 x32 H locs ls h hP hS hl
    unfold fX10_books_j96 at h
    obtain ⟨g34, h⟩ := bq_gp h
    obtain ⟨x33, hx33, h⟩ := bq_b h
    refine bq_put (x1 := x33) (q0 := 0) (ty := .boolean) S hK hD hP hS fl_X10_100_X10_11 bt_X10 rfl (by decide +kernel) rfl rfl (Nat.le_of_ble_eq_true rfl) (bq_z g34) (bq_zf g34) (by rw [hx33]; rfl) dX10_books_96 (fun H locs hP hS => ?_)
    refine lv_aload_n hx hb dX10_books_99 rfl (lv_at hl 0 rfl) ?_
    refine lv_iconst (v := (0 : Int32)) hx hb dX10_books_100 (by decide) ?_
    obtain ⟨x35, hx35, h⟩ := bq_b h
    refine bq_put (x1 := x35) (q0 := 0) (ty := .int) S hK hD hP hS fl_X10_94_X10_9 bt_X10 rfl (by decide +kernel) rfl rfl (Nat.le_of_ble_eq_true rfl) rfl rfl (by rw [hx35]; rfl) dX10_books_101 (fun H locs hP hS => ?_)
    refine lv_aload_n hx hb dX10_books_104 rfl (lv_at hl 0 rfl) ?_
    refine bq_get (q0 := 0) S hK hP fl_X10_100_X10_11 rfl rfl rfl dX10_books_105 ?_
    refine lv_if_eq (tgt := 119) hx hb dX10_books_108 (by decide) (fun c36 => ?_) (fun c36 => ?_)
    · replace h := (if_pos c36).symm.trans h
      refine lv_bipush (v := (-4 : Int32)) hx hb dX10_books_119 (by decide) ?_
      refine lv_istore_n (lv' := [(3, .int (-4 : Int32)), (0, .ref (a 0)), (1, .int v30)]) hx hb dX10_books_121 rfl hl (by decide) rfl (fun ls hl => ?_)
      refine lv_iload_n hx hb dX10_books_122 rfl (lv_at hl 2 rfl) ?_
      refine lv_istore (lv' := [(4, .int v30), (3, .int (-4 : Int32)), (0, .ref (a 0)), (1, .int v30)]) hx hb dX10_books_123 hl (by decide) rfl (fun ls hl => ?_)
      have hl125 : ∀ (v37 : Int32) (kf : Nat) (v38 : Int32) (v39 : Int32) (x40 : bq_S) (eo : Int32 × Int32 × bq_S) (H : Heap) (locs : List Loc) (ls : Array Slot), wh kf (fX10_books_b125 n v37) (v38, v39, x40) = some eo → va_P D bq_cl (bq_wM a k x40) H → va_S A s.heap H locs → lv_has ls 5 [(0, .ref (a 0)), (1, .int v37), (3, .int v38), (4, .int v39)] → (∀ (H : Heap) (locs : List Loc) (ls : Array Slot) (v55 : Int32) (v56 : Int32) (x57 : bq_S), eo = (v55, v56, x57) → va_P D bq_cl (bq_wM a k x57) H → va_S A s.heap H locs → lv_has ls 5 [(0, .ref (a 0)), (1, .int v37), (3, .int v55)] → W p l e { frames := 3, cells := 0, slots := 0, locals := 74 } s m [.ref (a 0)].toArray below meth c H locs 0 0 Q (F0 m 175 ls [])) → W p l e { frames := 3, cells := 0, slots := 0, locals := 74 } s m [.ref (a 0)].toArray below meth c H locs 0 0 Q (F0 m 125 ls []) := by
        intro v37 kf
        induction kf with
        | zero => intro v38 v39 x40 eo H locs ls h; cases h
        | succ kf ih =>
          intro v38 v39 x40 eo H locs ls h hP hS hl kx
          obtain ⟨out, h, hw⟩ := wh_s h
          unfold fX10_books_b125 at h
          replace h := un3_e h
          have hj157 : ∀ (v46 : Int32) (x47 : bq_S) (H : Heap) (locs : List Loc) (ls : Array Slot), fX10_books_j157 n v37 v46 x47 = some out → va_P D bq_cl (bq_wM a k x47) H → va_S A s.heap H locs → lv_has ls 5 [(0, .ref (a 0)), (1, .int v37), (4, .int v46)] → W p l e { frames := 3, cells := 0, slots := 0, locals := 74 } s m [.ref (a 0)].toArray below meth c H locs 0 0 Q (F0 m 157 ls []) := by
            intro v46 x47 H locs ls h hP hS hl
            unfold fX10_books_j157 at h
            refine lv_aload_n hx hb dX10_books_157 rfl (lv_at hl 0 rfl) ?_
            refine bq_get (q0 := 0) S hK hP fl_X10_34_X10_15 rfl rfl rfl dX10_books_158 ?_
            refine lv_iload hx hb dX10_books_161 (lv_at hl 2 rfl) ?_
            obtain ⟨g48, h⟩ := bq_gd h
            refine va_iald (D := D) hx hb hK hP 9 0 rfl rfl g48 dX10_books_163 ?_
            refine lv_goto (tgt := 168) hx hb dX10_books_164 (by decide) ?_
            refine lv_topi (fun v49 hv49 => ?_)
            replace h := bq_bv h hv49
            refine lv_istore_n (lv' := [(3, .int v49), (0, .ref (a 0)), (1, .int v37), (4, .int v46)]) hx hb dX10_books_168 rfl hl (by decide) rfl (fun ls hl => ?_)
            obtain ⟨v50, hv50, h⟩ := bq_b h
            refine lv_iinc (v := v50) (lv' := [(4, .int v50), (3, .int v49), (0, .ref (a 0)), (1, .int v37)]) hx hb dX10_books_169 hl (k := 3) rfl (by rw [hv50]; rfl) (by decide) rfl (fun ls hl => ?_)
            refine lv_goto (tgt := 125) hx hb dX10_books_172 (by decide) ?_
            cases h
            exact ih _ _ _ _ _ _ _ hw hP hS (lv_sub hl [2, 3, 1, 0] rfl) kx
          refine lv_iload hx hb dX10_books_125 (lv_at hl 3 rfl) ?_
          refine lv_bipush (v := (8 : Int32)) hx hb dX10_books_127 (by decide) ?_
          refine lv_icmp_ge (tgt := 175) hx hb dX10_books_129 (by decide) (fun c41 => ?_) (fun c41 => ?_)
          · replace h := (if_pos c41).symm.trans h
            cases h
            exact kx _ _ _ _ _ _ (Option.some.inj hw).symm hP hS (lv_sub hl [0, 1, 2] rfl)
          · replace h := (if_neg c41).symm.trans h
            refine lv_aload_n hx hb dX10_books_132 rfl (lv_at hl 0 rfl) ?_
            refine bq_get (q0 := 0) S hK hP fl_X10_34_X10_15 rfl rfl rfl dX10_books_133 ?_
            refine lv_iload hx hb dX10_books_136 (lv_at hl 3 rfl) ?_
            obtain ⟨g42, h⟩ := bq_gd h
            refine va_iald (D := D) hx hb hK hP 9 0 rfl rfl g42 dX10_books_138 ?_
            refine lv_if_lt (tgt := 167) hx hb dX10_books_139 (by decide) (fun c43 => ?_) (fun c43 => ?_)
            · replace h := (if_pos c43).symm.trans h
              refine lv_iload_n hx hb dX10_books_167 rfl (lv_at hl 2 rfl) ?_
              refine lv_istore_n (lv' := [(3, .int v38), (0, .ref (a 0)), (1, .int v37), (4, .int v39)]) hx hb dX10_books_168 rfl hl (by decide) rfl (fun ls hl => ?_)
              obtain ⟨v44, hv44, h⟩ := bq_b h
              refine lv_iinc (v := v44) (lv' := [(4, .int v44), (3, .int v38), (0, .ref (a 0)), (1, .int v37)]) hx hb dX10_books_169 hl (k := 3) rfl (by rw [hv44]; rfl) (by decide) rfl (fun ls hl => ?_)
              refine lv_goto (tgt := 125) hx hb dX10_books_172 (by decide) ?_
              cases h
              exact ih _ _ _ _ _ _ _ hw hP hS (lv_sub hl [2, 3, 1, 0] rfl) kx
            · replace h := (if_neg c43).symm.trans h
              refine lv_iload_n hx hb dX10_books_142 rfl (lv_at hl 2 rfl) ?_
              refine lv_if_lt (tgt := 157) hx hb dX10_books_143 (by decide) (fun c45 => ?_) (fun c45 => ?_)
              · replace h := (if_pos c45).symm.trans h
                exact hj157 _ _ _ _ _ h hP hS (lv_sub hl [0, 1, 3] rfl)
              · replace h := (if_neg c45).symm.trans h
                refine lv_aload_n hx hb dX10_books_146 rfl (lv_at hl 0 rfl) ?_
                refine bq_get (q0 := 0) S hK hP fl_X10_34_X10_15 rfl rfl rfl dX10_books_147 ?_
                refine lv_iload hx hb dX10_books_150 (lv_at hl 3 rfl) ?_
                obtain ⟨g51, h⟩ := bq_gd h
                refine va_iald (D := D) hx hb hK hP 9 0 rfl rfl g51 dX10_books_152 ?_
                refine lv_iload_n hx hb dX10_books_153 rfl (lv_at hl 2 rfl) ?_
                refine lv_icmp_ge (tgt := 167) hx hb dX10_books_154 (by decide) (fun c52 => ?_) (fun c52 => ?_)
                · replace h := (if_pos c52).symm.trans h
                  refine lv_iload_n hx hb dX10_books_167 rfl (lv_at hl 2 rfl) ?_
                  refine lv_istore_n (lv' := [(3, .int v38), (0, .ref (a 0)), (1, .int v37), (4, .int v39)]) hx hb dX10_books_168 rfl hl (by decide) rfl (fun ls hl => ?_)
                  obtain ⟨v53, hv53, h⟩ := bq_b h
                  refine lv_iinc (v := v53) (lv' := [(4, .int v53), (3, .int v38), (0, .ref (a 0)), (1, .int v37)]) hx hb dX10_books_169 hl (k := 3) rfl (by rw [hv53]; rfl) (by decide) rfl (fun ls hl => ?_)
                  refine lv_goto (tgt := 125) hx hb dX10_books_172 (by decide) ?_
                  cases h
                  exact ih _ _ _ _ _ _ _ hw hP hS (lv_sub hl [2, 3, 1, 0] rfl) kx
                · replace h := (if_neg c52).symm.trans h
                  exact hj157 _ _ _ _ _ h hP hS (lv_sub hl [0, 1, 3] rfl)
      obtain ⟨e54, he54, h⟩ := Option.bind_eq_some_iff.mp h
      refine hl125 _ n _ _ _ e54 _ _ _ he54 hP hS (lv_sub hl [2, 3, 1, 0] rfl) (fun H locs ls v55 v56 x57 hz hP hS hl => ?_)
      subst hz
      replace h := un3_e h
      refine lv_iload_n hx hb dX10_books_175 rfl (lv_at hl 2 rfl) ?_
      refine lv_if_lt (tgt := 184) hx hb dX10_books_176 (by decide) (fun c58 => ?_) (fun c58 => ?_)
      · replace h := (if_pos c58).symm.trans h
        refine lv_aload_n hx hb dX10_books_184 rfl (lv_at hl 0 rfl) ?_
        refine lv_iload_n hx hb dX10_books_185 rfl (lv_at hl 1 rfl) ?_
        obtain ⟨x59, hx59, h⟩ := bq_b h
        refine bq_put (x1 := x59) (q0 := 0) (ty := .int) S hK hD hP hS fl_X10_62_X10_0 bt_X10 rfl (by decide +kernel) rfl rfl (Nat.le_of_ble_eq_true rfl) rfl rfl (by rw [hx59]; rfl) dX10_books_186 (fun H locs hP hS => ?_)
        refine lv_aload_n hx hb dX10_books_189 rfl (lv_at hl 0 rfl) ?_
        refine lv_aload_n hx hb dX10_books_190 rfl (lv_at hl 0 rfl) ?_
        refine bq_get (q0 := 0) S hK hP fl_X10_116_X10_14 rfl rfl rfl dX10_books_191 ?_
        obtain ⟨x60, hx60, h⟩ := bq_b h
        refine bq_put (x1 := x60) (q0 := 0) (ty := .int) S hK hD hP hS fl_X10_76_X10_4 bt_X10 rfl (by decide +kernel) rfl rfl (Nat.le_of_ble_eq_true rfl) rfl rfl (by rw [hx60]; rfl) dX10_books_194 (fun H locs hP hS => ?_)
        refine lv_aload_n hx hb dX10_books_197 rfl (lv_at hl 0 rfl) ?_
        refine lv_iconst (v := (0 : Int32)) hx hb dX10_books_198 (by decide) ?_
        obtain ⟨x61, hx61, h⟩ := bq_b h
        refine bq_put (x1 := x61) (q0 := 0) (ty := .int) S hK hD hP hS fl_X10_126_X10_6 bt_X10 rfl (by decide +kernel) rfl rfl (Nat.le_of_ble_eq_true rfl) rfl rfl (by rw [hx61]; rfl) dX10_books_199 (fun H locs hP hS => ?_)
        refine lv_iconst (v := (0 : Int32)) hx hb dX10_books_202 (by decide) ?_
        refine lv_istore (lv' := [(4, .int (0 : Int32)), (0, .ref (a 0)), (1, .int v30), (3, .int v55)]) hx hb dX10_books_203 hl (by decide) rfl (fun ls hl => ?_)
        have hl205 : ∀ (v62 : Int32) (kf : Nat) (v63 : Int32) (x64 : bq_S) (eo : Int32 × bq_S) (H : Heap) (locs : List Loc) (ls : Array Slot), wh kf (fX10_books_b205 n v62) (v63, x64) = some eo → va_P D bq_cl (bq_wM a k x64) H → va_S A s.heap H locs → lv_has ls 5 [(0, .ref (a 0)), (1, .int v62), (4, .int v63)] → (∀ (H : Heap) (locs : List Loc) (ls : Array Slot) (v76 : Int32) (x77 : bq_S), eo = (v76, x77) → va_P D bq_cl (bq_wM a k x77) H → va_S A s.heap H locs → lv_has ls 5 [(1, .int v62)] → W p l e { frames := 3, cells := 0, slots := 0, locals := 74 } s m [.ref (a 0)].toArray below meth c H locs 0 0 Q (F0 m 253 ls [])) → W p l e { frames := 3, cells := 0, slots := 0, locals := 74 } s m [.ref (a 0)].toArray below meth c H locs 0 0 Q (F0 m 205 ls []) := by
          intro v62 kf
          induction kf with
          | zero => intro v63 x64 eo H locs ls h; cases h
          | succ kf ih =>
            intro v63 x64 eo H locs ls h hP hS hl kx
            obtain ⟨out, h, hw⟩ := wh_s h
            unfold fX10_books_b205 at h
            replace h := un2_e h
            refine lv_iload hx hb dX10_books_205 (lv_at hl 2 rfl) ?_
            refine lv_iload_n hx hb dX10_books_207 rfl (lv_at hl 1 rfl) ?_
            refine lv_icmp_ge (tgt := 253) hx hb dX10_books_208 (by decide) (fun c65 => ?_) (fun c65 => ?_)
            · replace h := (if_pos c65).symm.trans h
              cases h
              exact kx _ _ _ _ _ (Option.some.inj hw).symm hP hS (lv_sub hl [1] rfl)
            · replace h := (if_neg c65).symm.trans h
              refine lv_aload_n hx hb dX10_books_211 rfl (lv_at hl 0 rfl) ?_
              refine bq_get (q0 := 0) S hK hP fl_X10_7_X10_1 rfl rfl rfl dX10_books_212 ?_
              refine lv_iload hx hb dX10_books_215 (lv_at hl 2 rfl) ?_
              refine lv_aload_n hx hb dX10_books_217 rfl (lv_at hl 0 rfl) ?_
              refine bq_get (q0 := 0) S hK hP fl_X10_28_X10_12 rfl rfl rfl dX10_books_218 ?_
              refine lv_iload hx hb dX10_books_221 (lv_at hl 2 rfl) ?_
              obtain ⟨g66, h⟩ := bq_gd h
              refine va_iald (D := D) hx hb hK hP 7 0 rfl rfl g66 dX10_books_223 ?_
              obtain ⟨g68, h⟩ := bq_gd h
              obtain ⟨x67, hx67, h⟩ := bq_b h
              refine bq_iast (x1 := x67) (q0 := 1) (t0 := 0) S hK hD hP hS rfl rfl g68 (by rw [hx67]; rfl) dX10_books_224 (fun H locs hP hS => ?_)
              refine lv_aload_n hx hb dX10_books_225 rfl (lv_at hl 0 rfl) ?_
              refine bq_get (q0 := 0) S hK hP fl_X10_13_X10_2 rfl rfl rfl dX10_books_226 ?_
              refine lv_iload hx hb dX10_books_229 (lv_at hl 2 rfl) ?_
              refine lv_aload_n hx hb dX10_books_231 rfl (lv_at hl 0 rfl) ?_
              refine bq_get (q0 := 0) S hK hP fl_X10_31_X10_13 rfl rfl rfl dX10_books_232 ?_
              refine lv_iload hx hb dX10_books_235 (lv_at hl 2 rfl) ?_
              obtain ⟨g69, h⟩ := bq_gd h
              refine va_iald (D := D) hx hb hK hP 8 0 rfl rfl g69 dX10_books_237 ?_
              obtain ⟨g71, h⟩ := bq_gd h
              obtain ⟨x70, hx70, h⟩ := bq_b h
              refine bq_iast (x1 := x70) (q0 := 2) (t0 := 0) S hK hD hP hS rfl rfl g71 (by rw [hx70]; rfl) dX10_books_238 (fun H locs hP hS => ?_)
              refine lv_aload_n hx hb dX10_books_239 rfl (lv_at hl 0 rfl) ?_
              refine bq_get (q0 := 0) S hK hP fl_X10_16_X10_3 rfl rfl rfl dX10_books_240 ?_
              refine lv_iload hx hb dX10_books_243 (lv_at hl 2 rfl) ?_
              refine lv_iconst (v := (0 : Int32)) hx hb dX10_books_245 (by decide) ?_
              obtain ⟨g73, h⟩ := bq_gd h
              obtain ⟨x72, hx72, h⟩ := bq_b h
              refine bq_iast (x1 := x72) (q0 := 3) (t0 := 0) S hK hD hP hS rfl rfl g73 (by rw [hx72]; rfl) dX10_books_246 (fun H locs hP hS => ?_)
              obtain ⟨v74, hv74, h⟩ := bq_b h
              refine lv_iinc (v := v74) (lv' := [(4, .int v74), (0, .ref (a 0)), (1, .int v62)]) hx hb dX10_books_247 hl (k := 2) rfl (by rw [hv74]; rfl) (by decide) rfl (fun ls hl => ?_)
              refine lv_goto (tgt := 205) hx hb dX10_books_250 (by decide) ?_
              cases h
              exact ih _ _ _ _ _ _ hw hP hS (lv_sub hl [1, 2, 0] rfl) kx
        obtain ⟨e75, he75, h⟩ := Option.bind_eq_some_iff.mp h
        refine hl205 _ n _ _ e75 _ _ _ he75 hP hS (lv_sub hl [1, 2, 0] rfl) (fun H locs ls v76 x77 hz hP hS hl => ?_)
        subst hz
        replace h := un2_e h
        refine lv_iload_n hx hb dX10_books_253 rfl (lv_at hl 0 rfl) ?_
        obtain ⟨e1, e2⟩ := Prod.mk.inj (hret _ h)
        exact hR _ _ _ _ _ (congrArg some e1) rfl (by rw [e2]; exact hP) hS dX10_books_254
      · replace h := (if_neg c58).symm.trans h
        refine lv_bipush (v := (-20 : Int32)) hx hb dX10_books_179 (by decide) ?_
        refine lv_iload_n hx hb dX10_books_181 rfl (lv_at hl 2 rfl) ?_
        refine lv_isub hx hb dX10_books_182 ?_
        obtain ⟨e1, e2⟩ := Prod.mk.inj (hret _ h)
        exact hR _ _ _ _ _ (congrArg some e1) rfl (by rw [e2]; exact hP) hS dX10_books_183
    · replace h := (if_neg c36).symm.trans h
      refine lv_bipush (v := (-20 : Int32)) hx hb dX10_books_111 (by decide) ?_
      refine lv_aload_n hx hb dX10_books_113 rfl (lv_at hl 0 rfl) ?_
      refine bq_get (q0 := 0) S hK hP fl_X10_97_X10_10 rfl rfl rfl dX10_books_114 ?_
      refine lv_isub hx hb dX10_books_117 ?_
      obtain ⟨e1, e2⟩ := Prod.mk.inj (hret _ h)
      exact hR _ _ _ _ _ (congrArg some e1) rfl (by rw [e2]; exact hP) hS dX10_books_118
  refine lv_aload_n hx hb dX10_books_0 rfl (lv_at hl 0 rfl) ?_
  refine lv_iconst (v := (0 : Int32)) hx hb dX10_books_1 (by decide) ?_
  obtain ⟨x1, hx1, h⟩ := bq_b h
  refine bq_put (x1 := x1) (q0 := 0) (ty := .int) S hK hD hP hS fl_X10_97_X10_10 bt_X10 rfl (by decide +kernel) rfl rfl (Nat.le_of_ble_eq_true rfl) rfl rfl (by rw [hx1]; rfl) dX10_books_2 (fun H locs hP hS => ?_)
  refine lv_aload_n hx hb dX10_books_5 rfl (lv_at hl 0 rfl) ?_
  refine lv_iconst (v := (0 : Int32)) hx hb dX10_books_6 (by decide) ?_
  obtain ⟨x2, hx2, h⟩ := bq_b h
  refine bq_put (x1 := x2) (q0 := 0) (ty := .boolean) S hK hD hP hS fl_X10_100_X10_11 bt_X10 rfl (by decide +kernel) rfl rfl (Nat.le_of_ble_eq_true rfl) rfl rfl (by rw [hx2]; rfl) dX10_books_7 (fun H locs hP hS => ?_)
  refine lv_aload_n hx hb dX10_books_10 rfl (lv_at hl 0 rfl) ?_
  refine lv_iconst (v := (0 : Int32)) hx hb dX10_books_11 (by decide) ?_
  obtain ⟨x3, hx3, h⟩ := bq_b h
  refine bq_put (x1 := x3) (q0 := 0) (ty := .int) S hK hD hP hS fl_X10_116_X10_14 bt_X10 rfl (by decide +kernel) rfl rfl (Nat.le_of_ble_eq_true rfl) rfl rfl (by rw [hx3]; rfl) dX10_books_12 (fun H locs hP hS => ?_)
  refine lv_iconst (v := (0 : Int32)) hx hb dX10_books_15 (by decide) ?_
  refine lv_istore_n (lv' := [(1, .int (0 : Int32)), (0, .ref (a 0))]) hx hb dX10_books_16 rfl hl (by decide) rfl (fun ls hl => ?_)
  have hl17 : ∀ (kf : Nat) (v4 : Int32) (x5 : bq_S) (eo : Int32 × bq_S) (H : Heap) (locs : List Loc) (ls : Array Slot), wh kf (fX10_books_b17 n ) (v4, x5) = some eo → va_P D bq_cl (bq_wM a k x5) H → va_S A s.heap H locs → lv_has ls 5 [(0, .ref (a 0)), (1, .int v4)] → (∀ (H : Heap) (locs : List Loc) (ls : Array Slot) (v11 : Int32) (x12 : bq_S), eo = (v11, x12) → va_P D bq_cl (bq_wM a k x12) H → va_S A s.heap H locs → lv_has ls 5 [(0, .ref (a 0))] → W p l e { frames := 3, cells := 0, slots := 0, locals := 74 } s m [.ref (a 0)].toArray below meth c H locs 0 0 Q (F0 m 36 ls [])) → W p l e { frames := 3, cells := 0, slots := 0, locals := 74 } s m [.ref (a 0)].toArray below meth c H locs 0 0 Q (F0 m 17 ls []) := by
    intro  kf
    induction kf with
    | zero => intro v4 x5 eo H locs ls h; cases h
    | succ kf ih =>
      intro v4 x5 eo H locs ls h hP hS hl kx
      obtain ⟨out, h, hw⟩ := wh_s h
      unfold fX10_books_b17 at h
      replace h := un2_e h
      refine lv_iload_n hx hb dX10_books_17 rfl (lv_at hl 1 rfl) ?_
      refine lv_bipush (v := (8 : Int32)) hx hb dX10_books_18 (by decide) ?_
      refine lv_icmp_ge (tgt := 36) hx hb dX10_books_20 (by decide) (fun c6 => ?_) (fun c6 => ?_)
      · replace h := (if_pos c6).symm.trans h
        cases h
        exact kx _ _ _ _ _ (Option.some.inj hw).symm hP hS (lv_sub hl [0] rfl)
      · replace h := (if_neg c6).symm.trans h
        refine lv_aload_n hx hb dX10_books_23 rfl (lv_at hl 0 rfl) ?_
        refine bq_get (q0 := 0) S hK hP fl_X10_34_X10_15 rfl rfl rfl dX10_books_24 ?_
        refine lv_iload_n hx hb dX10_books_27 rfl (lv_at hl 1 rfl) ?_
        refine lv_iconst (v := (-1 : Int32)) hx hb dX10_books_28 (by decide) ?_
        obtain ⟨g8, h⟩ := bq_gd h
        obtain ⟨x7, hx7, h⟩ := bq_b h
        refine bq_iast (x1 := x7) (q0 := 9) (t0 := 0) S hK hD hP hS rfl rfl g8 (by rw [hx7]; rfl) dX10_books_29 (fun H locs hP hS => ?_)
        obtain ⟨v9, hv9, h⟩ := bq_b h
        refine lv_iinc (v := v9) (lv' := [(1, .int v9), (0, .ref (a 0))]) hx hb dX10_books_30 hl (k := 1) rfl (by rw [hv9]; rfl) (by decide) rfl (fun ls hl => ?_)
        refine lv_goto (tgt := 17) hx hb dX10_books_33 (by decide) ?_
        cases h
        exact ih _ _ _ _ _ _ hw hP hS (lv_sub hl [1, 0] rfl) kx
  obtain ⟨e10, he10, h⟩ := Option.bind_eq_some_iff.mp h
  refine hl17 n _ _ e10 _ _ _ he10 hP hS (lv_sub hl [1, 0] rfl) (fun H locs ls v11 x12 hz hP hS hl => ?_)
  subst hz
  replace h := un2_e h
  refine lv_iconst (v := (0 : Int32)) hx hb dX10_books_36 (by decide) ?_
  refine lv_istore_n (lv' := [(1, .int (0 : Int32)), (0, .ref (a 0))]) hx hb dX10_books_37 rfl hl (by decide) rfl (fun ls hl => ?_)
  refine lv_iconst (v := (1 : Int32)) hx hb dX10_books_38 (by decide) ?_
  refine lv_istore_n (lv' := [(2, .int (1 : Int32)), (1, .int (0 : Int32)), (0, .ref (a 0))]) hx hb dX10_books_39 rfl hl (by decide) rfl (fun ls hl => ?_)
  have hl40 : ∀ (kf : Nat) (v13 : Int32) (v14 : Int32) (x15 : bq_S) (eo : Int32 × Int32 × bq_S) (H : Heap) (locs : List Loc) (ls : Array Slot), wh kf (fX10_books_b40 n ) (v13, v14, x15) = some eo → va_P D bq_cl (bq_wM a k x15) H → va_S A s.heap H locs → lv_has ls 5 [(0, .ref (a 0)), (1, .int v13), (2, .int v14)] → (∀ (H : Heap) (locs : List Loc) (ls : Array Slot) (v26 : Int32) (v27 : Int32) (x28 : bq_S), eo = (v26, v27, x28) → va_P D bq_cl (bq_wM a k x28) H → va_S A s.heap H locs → lv_has ls 5 [(0, .ref (a 0)), (1, .int v26)] → W p l e { frames := 3, cells := 0, slots := 0, locals := 74 } s m [.ref (a 0)].toArray below meth c H locs 0 0 Q (F0 m 76 ls [])) → W p l e { frames := 3, cells := 0, slots := 0, locals := 74 } s m [.ref (a 0)].toArray below meth c H locs 0 0 Q (F0 m 40 ls []) := by
    intro  kf
    induction kf with
    | zero => intro v13 v14 x15 eo H locs ls h; cases h
    | succ kf ih =>
      intro v13 v14 x15 eo H locs ls h hP hS hl kx
      obtain ⟨out, h, hw⟩ := wh_s h
      unfold fX10_books_b40 at h
      replace h := un3_e h
      refine lv_iload_n hx hb dX10_books_40 rfl (lv_at hl 2 rfl) ?_
      refine lv_if_eq (tgt := 76) hx hb dX10_books_41 (by decide) (fun c16 => ?_) (fun c16 => ?_)
      · replace h := (if_pos c16).symm.trans h
        cases h
        exact kx _ _ _ _ _ _ (Option.some.inj hw).symm hP hS (lv_sub hl [0, 1] rfl)
      · replace h := (if_neg c16).symm.trans h
        refine lv_aload_n hx hb dX10_books_44 rfl (lv_at hl 0 rfl) ?_
        refine lv_iload_n hx hb dX10_books_45 rfl (lv_at hl 1 rfl) ?_
        obtain ⟨x18, ho17, h⟩ := Option.bind_eq_some_iff.mp h
        refine bq_callVv (q0 := 0) (As := [.int _]) S hK hD hA hP hS (cX10_clause_k_0 ho17) hd_yX10_clause ml_X10_122 in_yX10_clause (hts _ sl_X10_X10_yX10_clause) ⟨rfl, rfl⟩ ⟨by decide, by decide⟩ rfl rfl rfl hl.1 rfl (Nat.le_of_ble_eq_true rfl) ⟨Nat.zero_le _, Nat.zero_le _⟩ dX10_books_46 (fun H locs hP hS => ?_)
        obtain ⟨v19, hv19, h⟩ := bq_b h
        refine lv_iinc (v := v19) (lv' := [(1, .int v19), (0, .ref (a 0)), (2, .int v14)]) hx hb dX10_books_49 hl (k := 1) rfl (by rw [hv19]; rfl) (by decide) rfl (fun ls hl => ?_)
        refine lv_iload_n hx hb dX10_books_52 rfl (lv_at hl 0 rfl) ?_
        refine lv_bipush (v := (8 : Int32)) hx hb dX10_books_53 (by decide) ?_
        refine lv_icmp_ge (tgt := 71) hx hb dX10_books_55 (by decide) (fun c20 => ?_) (fun c20 => ?_)
        · replace h := (if_pos c20).symm.trans h
          refine lv_iconst (v := (0 : Int32)) hx hb dX10_books_71 (by decide) ?_
          refine lv_istore_n (lv' := [(2, .int (0 : Int32)), (1, .int v19), (0, .ref (a 0))]) hx hb dX10_books_72 rfl hl (by decide) rfl (fun ls hl => ?_)
          refine lv_goto (tgt := 40) hx hb dX10_books_73 (by decide) ?_
          cases h
          exact ih _ _ _ _ _ _ _ hw hP hS (lv_sub hl [2, 1, 0] rfl) kx
        · replace h := (if_neg c20).symm.trans h
          refine lv_aload_n hx hb dX10_books_58 rfl (lv_at hl 1 rfl) ?_
          refine lv_bipush (v := (59 : Int32)) hx hb dX10_books_59 (by decide) ?_
          obtain ⟨o21, ho21, h⟩ := Option.bind_eq_some_iff.mp h
          obtain ⟨v23, x22⟩ := o21
          replace h := un2_e h
          refine bq_callVi (q0 := 0) (As := [.int _]) S hK hD hA hP hS (cX10_has_k_0 ho21) hd_yX10_has ml_X10_119 in_yX10_has (hts _ sl_X10_X10_yX10_has) ⟨rfl, rfl⟩ ⟨by decide, by decide⟩ rfl rfl rfl hl.1 rfl (Nat.le_of_ble_eq_true rfl) ⟨Nat.zero_le _, Nat.zero_le _⟩ dX10_books_61 (fun H locs hP hS => ?_)
          refine lv_if_eq (tgt := 71) hx hb dX10_books_64 (by decide) (fun c24 => ?_) (fun c24 => ?_)
          · replace h := (if_pos c24).symm.trans h
            refine lv_iconst (v := (0 : Int32)) hx hb dX10_books_71 (by decide) ?_
            refine lv_istore_n (lv' := [(2, .int (0 : Int32)), (1, .int v19), (0, .ref (a 0))]) hx hb dX10_books_72 rfl hl (by decide) rfl (fun ls hl => ?_)
            refine lv_goto (tgt := 40) hx hb dX10_books_73 (by decide) ?_
            cases h
            exact ih _ _ _ _ _ _ _ hw hP hS (lv_sub hl [2, 1, 0] rfl) kx
          · replace h := (if_neg c24).symm.trans h
            refine lv_iconst (v := (1 : Int32)) hx hb dX10_books_67 (by decide) ?_
            refine lv_goto (tgt := 72) hx hb dX10_books_68 (by decide) ?_
            refine lv_istore_n (lv' := [(2, .int (1 : Int32)), (1, .int v19), (0, .ref (a 0))]) hx hb dX10_books_72 rfl hl (by decide) rfl (fun ls hl => ?_)
            refine lv_goto (tgt := 40) hx hb dX10_books_73 (by decide) ?_
            cases h
            exact ih _ _ _ _ _ _ _ hw hP hS (lv_sub hl [2, 1, 0] rfl) kx
  obtain ⟨e25, he25, h⟩ := Option.bind_eq_some_iff.mp h
  refine hl40 n _ _ _ e25 _ _ _ he25 hP hS (lv_sub hl [2, 1, 0] rfl) (fun H locs ls v26 v27 x28 hz hP hS hl => ?_)
  subst hz
  replace h := un3_e h
  refine lv_aload_n hx hb dX10_books_76 rfl (lv_at hl 0 rfl) ?_
  refine lv_aload_n hx hb dX10_books_77 rfl (lv_at hl 0 rfl) ?_
  refine bq_get (q0 := 0) S hK hP fl_X10_100_X10_11 rfl rfl rfl dX10_books_78 ?_
  refine lv_if_ne (tgt := 91) hx hb dX10_books_81 (by decide) (fun c29 => ?_) (fun c29 => ?_)
  · replace h := (if_neg c29).symm.trans h
    refine lv_iconst (v := (1 : Int32)) hx hb dX10_books_91 (by decide) ?_
    refine lv_goto (tgt := 96) hx hb dX10_books_92 (by decide) ?_
    exact hj96 _ _ _ _ _ _ h hP hS (lv_sub hl [0, 1] rfl)
  · replace h := (if_pos c29).symm.trans h
    refine lv_aload_n hx hb dX10_books_84 rfl (lv_at hl 0 rfl) ?_
    obtain ⟨o78, ho78, h⟩ := Option.bind_eq_some_iff.mp h
    obtain ⟨v80, x79⟩ := o78
    replace h := un2_e h
    refine bq_callVi (q0 := 0) (As := []) S hK hD hA hP hS (cX10_here_k_0 ho78) hd_yX10_here ml_X10_104 in_yX10_here (hts _ sl_X10_X10_yX10_here) ⟨rfl, rfl⟩ ⟨by decide, by decide⟩ rfl rfl rfl hl.1 rfl (Nat.le_of_ble_eq_true rfl) ⟨Nat.zero_le _, Nat.zero_le _⟩ dX10_books_85 (fun H locs hP hS => ?_)
    refine lv_if_eq (tgt := 95) hx hb dX10_books_88 (by decide) (fun c81 => ?_) (fun c81 => ?_)
    · replace h := (if_pos c81).symm.trans h
      refine lv_iconst (v := (0 : Int32)) hx hb dX10_books_95 (by decide) ?_
      exact hj96 _ _ _ _ _ _ h hP hS (lv_sub hl [0, 1] rfl)
    · replace h := (if_neg c81).symm.trans h
      refine lv_iconst (v := (1 : Int32)) hx hb dX10_books_91 (by decide) ?_
      refine lv_goto (tgt := 96) hx hb dX10_books_92 (by decide) ?_
      exact hj96 _ _ _ _ _ _ h hP hS (lv_sub hl [0, 1] rfl)
def fX10_hall_j70 (n : Nat) (v20 : Int32) (v21 : Int32) (v22 : Int32) (v23 : Int32) (x24 : bq_S) : Option ((Int32 × Int32 × bq_S) ⊕ (Int32 × Int32 × bq_S)) :=
  if v23 = 0 ∨ v23 = 1 then
  bd (bq_sI x24 0 11 v23) (fun x25 =>
  if (x25.1 0 11) = 0 then
  if ok_i v20 8 then
  bd (bq_sI x25 7 v20.toNatClampNeg v22) (fun x28 =>
  bd (v21 ||| ((1 : Int32) <<< (v22 &&& 31))) (fun v30 =>
  bd (v20 + (1 : Int32)) (fun v31 =>
  some (.inl (v31, v30, x28)))))
  else none
  else
  some (.inl (v20, v21, x25)))
  else none
def fX10_hall_j50 (n : Nat) (v15 : Int32) (v16 : Int32) (v17 : Int32) (x18 : bq_S) : Option ((Int32 × Int32 × bq_S) ⊕ (Int32 × Int32 × bq_S)) :=
  if (x18.1 0 11) = 0 then
  if v15 = (8 : Int32) then
  fX10_hall_j70 n v15 v16 v17 (1 : Int32) x18
  else
  fX10_hall_j70 n v15 v16 v17 (0 : Int32) x18
  else
  fX10_hall_j70 n v15 v16 v17 (1 : Int32) x18
def fX10_hall_b14 (n : Nat) (v : Int32 × Int32 × bq_S) : Option ((Int32 × Int32 × bq_S) ⊕ (Int32 × Int32 × bq_S)) :=
  un3 v (fun v3 v4 x5 =>
  if (x5.1 0 11) = 0 then
  (fX10_here n  x5).bind (fun o7 => un2 o7 (fun v9 x8 =>
  if v9 = 0 then
  some (.inr (v3, v4, x8))
  else
  if v3 = (8 : Int32) then
  fX10_hall_j50 n v3 v4 (-1 : Int32) x8
  else
  (fX10_digit n (0 : Int32) ((x8.1 0 0) - (1 : Int32)) v4 x8).bind (fun o12 => un2 o12 (fun v14 x13 =>
  fX10_hall_j50 n v3 v4 v14 x13))))
  else
  some (.inr (v3, v4, x5)))
def fX10_hall_b126 (n : Nat) (v42 : Int32) (v : Int32 × bq_S) : Option ((Int32 × bq_S) ⊕ (Int32 × bq_S)) :=
  un2 v (fun v43 x44 =>
  if v42 ≤ v43 then
  some (.inr (v43, x44))
  else
  if ok_i v43 8 then
  if ok_i v43 8 then
  bd (bq_sI x44 5 v43.toNatClampNeg (x44.1 7 v43.toNatClampNeg)) (fun x47 =>
  bd (v43 + (1 : Int32)) (fun v49 =>
  some (.inl (v49, x47))))
  else none
  else none)
def fX10_hall_j99 (n : Nat) (v37 : Int32) (x38 : bq_S) : Option (Int32 × bq_S) :=
  bd (bq_sI x38 0 9 (0 : Int32)) (fun x39 =>
  if (x39.1 0 11) = 0 then
  bd (bq_sI x39 0 6 v37) (fun x41 =>
  (wh n (fX10_hall_b126 n v37) ((0 : Int32), x41)).bind (fun e50 => un2 e50 (fun v51 x52 =>
  some (v37, x52))))
  else
  some (((-20 : Int32) - (x39.1 0 10)), x39))
def fX10_hall (n : Nat) (x0 : bq_S) : Option (Int32 × bq_S) :=
  bd (bq_sI x0 0 10 (0 : Int32)) (fun x1 =>
  bd (bq_sI x1 0 11 (0 : Int32)) (fun x2 =>
  (wh n (fX10_hall_b14 n) ((0 : Int32), (0 : Int32), x2)).bind (fun e33 => un3 e33 (fun v34 v35 x36 =>
  fX10_hall_j99 n v34 x36))))
theorem dX10_hall_0 : decode cX10_hall 0 = .ok (.aload_n 0, 1) := by decide +kernel
theorem dX10_hall_1 : decode cX10_hall 1 = .ok (.iconst 0, 1) := by decide +kernel
theorem dX10_hall_2 : decode cX10_hall 2 = .ok (.putfield 97, 3) := by decide +kernel
theorem dX10_hall_5 : decode cX10_hall 5 = .ok (.aload_n 0, 1) := by decide +kernel
theorem dX10_hall_6 : decode cX10_hall 6 = .ok (.iconst 0, 1) := by decide +kernel
theorem dX10_hall_7 : decode cX10_hall 7 = .ok (.putfield 100, 3) := by decide +kernel
theorem dX10_hall_10 : decode cX10_hall 10 = .ok (.iconst 0, 1) := by decide +kernel
theorem dX10_hall_11 : decode cX10_hall 11 = .ok (.istore_n 1, 1) := by decide +kernel
theorem dX10_hall_12 : decode cX10_hall 12 = .ok (.iconst 0, 1) := by decide +kernel
theorem dX10_hall_13 : decode cX10_hall 13 = .ok (.istore_n 2, 1) := by decide +kernel
theorem dX10_hall_14 : decode cX10_hall 14 = .ok (.aload_n 0, 1) := by decide +kernel
theorem dX10_hall_15 : decode cX10_hall 15 = .ok (.getfield 100, 3) := by decide +kernel
theorem dX10_hall_18 : decode cX10_hall 18 = .ok (.ifCond .ne 81, 3) := by decide +kernel
theorem dX10_hall_21 : decode cX10_hall 21 = .ok (.aload_n 0, 1) := by decide +kernel
theorem dX10_hall_22 : decode cX10_hall 22 = .ok (.invokevirtual 104, 3) := by decide +kernel
theorem dX10_hall_25 : decode cX10_hall 25 = .ok (.ifCond .eq 74, 3) := by decide +kernel
theorem dX10_hall_28 : decode cX10_hall 28 = .ok (.iload_n 1, 1) := by decide +kernel
theorem dX10_hall_29 : decode cX10_hall 29 = .ok (.bipush 8, 2) := by decide +kernel
theorem dX10_hall_31 : decode cX10_hall 31 = .ok (.if_icmp .ne 7, 3) := by decide +kernel
theorem dX10_hall_34 : decode cX10_hall 34 = .ok (.iconst (-1), 1) := by decide +kernel
theorem dX10_hall_35 : decode cX10_hall 35 = .ok (.goto 15, 3) := by decide +kernel
theorem dX10_hall_38 : decode cX10_hall 38 = .ok (.aload_n 0, 1) := by decide +kernel
theorem dX10_hall_39 : decode cX10_hall 39 = .ok (.iconst 0, 1) := by decide +kernel
theorem dX10_hall_40 : decode cX10_hall 40 = .ok (.aload_n 0, 1) := by decide +kernel
theorem dX10_hall_41 : decode cX10_hall 41 = .ok (.getfield 62, 3) := by decide +kernel
theorem dX10_hall_44 : decode cX10_hall 44 = .ok (.iconst 1, 1) := by decide +kernel
theorem dX10_hall_45 : decode cX10_hall 45 = .ok (.isub, 1) := by decide +kernel
theorem dX10_hall_46 : decode cX10_hall 46 = .ok (.iload_n 2, 1) := by decide +kernel
theorem dX10_hall_47 : decode cX10_hall 47 = .ok (.invokevirtual 112, 3) := by decide +kernel
theorem dX10_hall_50 : decode cX10_hall 50 = .ok (.istore_n 3, 1) := by decide +kernel
theorem dX10_hall_51 : decode cX10_hall 51 = .ok (.aload_n 0, 1) := by decide +kernel
theorem dX10_hall_52 : decode cX10_hall 52 = .ok (.aload_n 0, 1) := by decide +kernel
theorem dX10_hall_53 : decode cX10_hall 53 = .ok (.getfield 100, 3) := by decide +kernel
theorem dX10_hall_56 : decode cX10_hall 56 = .ok (.ifCond .ne 9, 3) := by decide +kernel
theorem dX10_hall_59 : decode cX10_hall 59 = .ok (.iload_n 1, 1) := by decide +kernel
theorem dX10_hall_60 : decode cX10_hall 60 = .ok (.bipush 8, 2) := by decide +kernel
theorem dX10_hall_62 : decode cX10_hall 62 = .ok (.if_icmp .ne 7, 3) := by decide +kernel
theorem dX10_hall_65 : decode cX10_hall 65 = .ok (.iconst 1, 1) := by decide +kernel
theorem dX10_hall_66 : decode cX10_hall 66 = .ok (.goto 4, 3) := by decide +kernel
theorem dX10_hall_69 : decode cX10_hall 69 = .ok (.iconst 0, 1) := by decide +kernel
theorem dX10_hall_70 : decode cX10_hall 70 = .ok (.putfield 100, 3) := by decide +kernel
theorem dX10_hall_73 : decode cX10_hall 73 = .ok (.aload_n 0, 1) := by decide +kernel
theorem dX10_hall_74 : decode cX10_hall 74 = .ok (.getfield 100, 3) := by decide +kernel
theorem dX10_hall_77 : decode cX10_hall 77 = .ok (.ifCond .ne 19, 3) := by decide +kernel
theorem dX10_hall_80 : decode cX10_hall 80 = .ok (.aload_n 0, 1) := by decide +kernel
theorem dX10_hall_81 : decode cX10_hall 81 = .ok (.getfield 28, 3) := by decide +kernel
theorem dX10_hall_84 : decode cX10_hall 84 = .ok (.iload_n 1, 1) := by decide +kernel
theorem dX10_hall_85 : decode cX10_hall 85 = .ok (.iload_n 3, 1) := by decide +kernel
theorem dX10_hall_86 : decode cX10_hall 86 = .ok (.iastore, 1) := by decide +kernel
theorem dX10_hall_87 : decode cX10_hall 87 = .ok (.iload_n 2, 1) := by decide +kernel
theorem dX10_hall_88 : decode cX10_hall 88 = .ok (.iconst 1, 1) := by decide +kernel
theorem dX10_hall_89 : decode cX10_hall 89 = .ok (.iload_n 3, 1) := by decide +kernel
theorem dX10_hall_90 : decode cX10_hall 90 = .ok (.ishl, 1) := by decide +kernel
theorem dX10_hall_91 : decode cX10_hall 91 = .ok (.ior, 1) := by decide +kernel
theorem dX10_hall_92 : decode cX10_hall 92 = .ok (.istore_n 2, 1) := by decide +kernel
theorem dX10_hall_93 : decode cX10_hall 93 = .ok (.iinc 1 1, 3) := by decide +kernel
theorem dX10_hall_96 : decode cX10_hall 96 = .ok (.goto (-82), 3) := by decide +kernel
theorem dX10_hall_99 : decode cX10_hall 99 = .ok (.aload_n 0, 1) := by decide +kernel
theorem dX10_hall_100 : decode cX10_hall 100 = .ok (.iconst 0, 1) := by decide +kernel
theorem dX10_hall_101 : decode cX10_hall 101 = .ok (.putfield 94, 3) := by decide +kernel
theorem dX10_hall_104 : decode cX10_hall 104 = .ok (.aload_n 0, 1) := by decide +kernel
theorem dX10_hall_105 : decode cX10_hall 105 = .ok (.getfield 100, 3) := by decide +kernel
theorem dX10_hall_108 : decode cX10_hall 108 = .ok (.ifCond .eq 11, 3) := by decide +kernel
theorem dX10_hall_111 : decode cX10_hall 111 = .ok (.bipush (-20), 2) := by decide +kernel
theorem dX10_hall_113 : decode cX10_hall 113 = .ok (.aload_n 0, 1) := by decide +kernel
theorem dX10_hall_114 : decode cX10_hall 114 = .ok (.getfield 97, 3) := by decide +kernel
theorem dX10_hall_117 : decode cX10_hall 117 = .ok (.isub, 1) := by decide +kernel
theorem dX10_hall_118 : decode cX10_hall 118 = .ok (.ireturn, 1) := by decide +kernel
theorem dX10_hall_119 : decode cX10_hall 119 = .ok (.aload_n 0, 1) := by decide +kernel
theorem dX10_hall_120 : decode cX10_hall 120 = .ok (.iload_n 1, 1) := by decide +kernel
theorem dX10_hall_121 : decode cX10_hall 121 = .ok (.putfield 126, 3) := by decide +kernel
theorem dX10_hall_124 : decode cX10_hall 124 = .ok (.iconst 0, 1) := by decide +kernel
theorem dX10_hall_125 : decode cX10_hall 125 = .ok (.istore_n 3, 1) := by decide +kernel
theorem dX10_hall_126 : decode cX10_hall 126 = .ok (.iload_n 3, 1) := by decide +kernel
theorem dX10_hall_127 : decode cX10_hall 127 = .ok (.iload_n 1, 1) := by decide +kernel
theorem dX10_hall_128 : decode cX10_hall 128 = .ok (.if_icmp .ge 21, 3) := by decide +kernel
theorem dX10_hall_131 : decode cX10_hall 131 = .ok (.aload_n 0, 1) := by decide +kernel
theorem dX10_hall_132 : decode cX10_hall 132 = .ok (.getfield 22, 3) := by decide +kernel
theorem dX10_hall_135 : decode cX10_hall 135 = .ok (.iload_n 3, 1) := by decide +kernel
theorem dX10_hall_136 : decode cX10_hall 136 = .ok (.aload_n 0, 1) := by decide +kernel
theorem dX10_hall_137 : decode cX10_hall 137 = .ok (.getfield 28, 3) := by decide +kernel
theorem dX10_hall_140 : decode cX10_hall 140 = .ok (.iload_n 3, 1) := by decide +kernel
theorem dX10_hall_141 : decode cX10_hall 141 = .ok (.iaload, 1) := by decide +kernel
theorem dX10_hall_142 : decode cX10_hall 142 = .ok (.iastore, 1) := by decide +kernel
theorem dX10_hall_143 : decode cX10_hall 143 = .ok (.iinc 3 1, 3) := by decide +kernel
theorem dX10_hall_146 : decode cX10_hall 146 = .ok (.goto (-20), 3) := by decide +kernel
theorem dX10_hall_149 : decode cX10_hall 149 = .ok (.iload_n 1, 1) := by decide +kernel
theorem dX10_hall_150 : decode cX10_hall 150 = .ok (.ireturn, 1) := by decide +kernel
set_option maxHeartbeats 4000000 in
set_option maxRecDepth 100000 in
theorem cX10_hall_k_0 {l : Launch} {D : va_G} {a : Nat → Nat} {k : Nat → ClassId} {n : Nat} {x0 xz : bq_S} {rz : Int32} (h : fX10_hall n  x0 = some (rz, xz)) : bq_M l D bq_cl (bq_ty k) (bq_wM a k) yX10_hall cX10_hall 4 (some .int) { frames := 2, cells := 0, slots := 0, locals := 50 } [.ref (a 0)] x0 (some rz) xz := by
  refine bq_ofW RX10 [(0, .ref (a 0))] (by decide +kernel) rfl (Nat.le_of_ble_eq_true rfl) rfl (bq_adM a k) ?_
  intro p e s m below meth c A Q ls S hK hD hA hR hS hP hl
  have hx := S.1; have hb := S.2.1; have hml := S.2.2.1; have hown := S.2.2.2.1; have hts := S.2.2.2.2
  have hret : ∀ z, some z = some (rz, xz) → (rz, xz) = z := fun z h => (Option.some.inj h).symm
  unfold fX10_hall at h
  have hj99 : ∀ (v37 : Int32) (x38 : bq_S) (H : Heap) (locs : List Loc) (ls : Array Slot), fX10_hall_j99 n v37 x38 = some (rz, xz) → va_P D bq_cl (bq_wM a k x38) H → va_S A s.heap H locs → lv_has ls 4 [(0, .ref (a 0)), (1, .int v37)] → W p l e { frames := 2, cells := 0, slots := 0, locals := 50 } s m [.ref (a 0)].toArray below meth c H locs 0 0 Q (F0 m 99 ls []) := by
    intro v37 x38 H locs ls h hP hS hl
    unfold fX10_hall_j99 at h
    refine lv_aload_n hx hb dX10_hall_99 rfl (lv_at hl 0 rfl) ?_
    refine lv_iconst (v := (0 : Int32)) hx hb dX10_hall_100 (by decide) ?_
    obtain ⟨x39, hx39, h⟩ := bq_b h
    refine bq_put (x1 := x39) (q0 := 0) (ty := .int) S hK hD hP hS fl_X10_94_X10_9 bt_X10 rfl (by decide +kernel) rfl rfl (Nat.le_of_ble_eq_true rfl) rfl rfl (by rw [hx39]; rfl) dX10_hall_101 (fun H locs hP hS => ?_)
    refine lv_aload_n hx hb dX10_hall_104 rfl (lv_at hl 0 rfl) ?_
    refine bq_get (q0 := 0) S hK hP fl_X10_100_X10_11 rfl rfl rfl dX10_hall_105 ?_
    refine lv_if_eq (tgt := 119) hx hb dX10_hall_108 (by decide) (fun c40 => ?_) (fun c40 => ?_)
    · replace h := (if_pos c40).symm.trans h
      refine lv_aload_n hx hb dX10_hall_119 rfl (lv_at hl 0 rfl) ?_
      refine lv_iload_n hx hb dX10_hall_120 rfl (lv_at hl 1 rfl) ?_
      obtain ⟨x41, hx41, h⟩ := bq_b h
      refine bq_put (x1 := x41) (q0 := 0) (ty := .int) S hK hD hP hS fl_X10_126_X10_6 bt_X10 rfl (by decide +kernel) rfl rfl (Nat.le_of_ble_eq_true rfl) rfl rfl (by rw [hx41]; rfl) dX10_hall_121 (fun H locs hP hS => ?_)
      refine lv_iconst (v := (0 : Int32)) hx hb dX10_hall_124 (by decide) ?_
      refine lv_istore_n (lv' := [(3, .int (0 : Int32)), (0, .ref (a 0)), (1, .int v37)]) hx hb dX10_hall_125 rfl hl (by decide) rfl (fun ls hl => ?_)
      have hl126 : ∀ (v42 : Int32) (kf : Nat) (v43 : Int32) (x44 : bq_S) (eo : Int32 × bq_S) (H : Heap) (locs : List Loc) (ls : Array Slot), wh kf (fX10_hall_b126 n v42) (v43, x44) = some eo → va_P D bq_cl (bq_wM a k x44) H → va_S A s.heap H locs → lv_has ls 4 [(0, .ref (a 0)), (1, .int v42), (3, .int v43)] → (∀ (H : Heap) (locs : List Loc) (ls : Array Slot) (v51 : Int32) (x52 : bq_S), eo = (v51, x52) → va_P D bq_cl (bq_wM a k x52) H → va_S A s.heap H locs → lv_has ls 4 [(1, .int v42)] → W p l e { frames := 2, cells := 0, slots := 0, locals := 50 } s m [.ref (a 0)].toArray below meth c H locs 0 0 Q (F0 m 149 ls [])) → W p l e { frames := 2, cells := 0, slots := 0, locals := 50 } s m [.ref (a 0)].toArray below meth c H locs 0 0 Q (F0 m 126 ls []) := by
        intro v42 kf
        induction kf with
        | zero => intro v43 x44 eo H locs ls h; cases h
        | succ kf ih =>
          intro v43 x44 eo H locs ls h hP hS hl kx
          obtain ⟨out, h, hw⟩ := wh_s h
          unfold fX10_hall_b126 at h
          replace h := un2_e h
          refine lv_iload_n hx hb dX10_hall_126 rfl (lv_at hl 2 rfl) ?_
          refine lv_iload_n hx hb dX10_hall_127 rfl (lv_at hl 1 rfl) ?_
          refine lv_icmp_ge (tgt := 149) hx hb dX10_hall_128 (by decide) (fun c45 => ?_) (fun c45 => ?_)
          · replace h := (if_pos c45).symm.trans h
            cases h
            exact kx _ _ _ _ _ (Option.some.inj hw).symm hP hS (lv_sub hl [1] rfl)
          · replace h := (if_neg c45).symm.trans h
            refine lv_aload_n hx hb dX10_hall_131 rfl (lv_at hl 0 rfl) ?_
            refine bq_get (q0 := 0) S hK hP fl_X10_22_X10_7 rfl rfl rfl dX10_hall_132 ?_
            refine lv_iload_n hx hb dX10_hall_135 rfl (lv_at hl 2 rfl) ?_
            refine lv_aload_n hx hb dX10_hall_136 rfl (lv_at hl 0 rfl) ?_
            refine bq_get (q0 := 0) S hK hP fl_X10_28_X10_12 rfl rfl rfl dX10_hall_137 ?_
            refine lv_iload_n hx hb dX10_hall_140 rfl (lv_at hl 2 rfl) ?_
            obtain ⟨g46, h⟩ := bq_gd h
            refine va_iald (D := D) hx hb hK hP 7 0 rfl rfl g46 dX10_hall_141 ?_
            obtain ⟨g48, h⟩ := bq_gd h
            obtain ⟨x47, hx47, h⟩ := bq_b h
            refine bq_iast (x1 := x47) (q0 := 5) (t0 := 0) S hK hD hP hS rfl rfl g48 (by rw [hx47]; rfl) dX10_hall_142 (fun H locs hP hS => ?_)
            obtain ⟨v49, hv49, h⟩ := bq_b h
            refine lv_iinc (v := v49) (lv' := [(3, .int v49), (0, .ref (a 0)), (1, .int v42)]) hx hb dX10_hall_143 hl (k := 2) rfl (by rw [hv49]; rfl) (by decide) rfl (fun ls hl => ?_)
            refine lv_goto (tgt := 126) hx hb dX10_hall_146 (by decide) ?_
            cases h
            exact ih _ _ _ _ _ _ hw hP hS (lv_sub hl [1, 2, 0] rfl) kx
      obtain ⟨e50, he50, h⟩ := Option.bind_eq_some_iff.mp h
      refine hl126 _ n _ _ e50 _ _ _ he50 hP hS (lv_sub hl [1, 2, 0] rfl) (fun H locs ls v51 x52 hz hP hS hl => ?_)
      subst hz
      replace h := un2_e h
      refine lv_iload_n hx hb dX10_hall_149 rfl (lv_at hl 0 rfl) ?_
      obtain ⟨e1, e2⟩ := Prod.mk.inj (hret _ h)
      exact hR _ _ _ _ _ (congrArg some e1) rfl (by rw [e2]; exact hP) hS dX10_hall_150
    · replace h := (if_neg c40).symm.trans h
      refine lv_bipush (v := (-20 : Int32)) hx hb dX10_hall_111 (by decide) ?_
      refine lv_aload_n hx hb dX10_hall_113 rfl (lv_at hl 0 rfl) ?_
      refine bq_get (q0 := 0) S hK hP fl_X10_97_X10_10 rfl rfl rfl dX10_hall_114 ?_
      refine lv_isub hx hb dX10_hall_117 ?_
      obtain ⟨e1, e2⟩ := Prod.mk.inj (hret _ h)
      exact hR _ _ _ _ _ (congrArg some e1) rfl (by rw [e2]; exact hP) hS dX10_hall_118
  refine lv_aload_n hx hb dX10_hall_0 rfl (lv_at hl 0 rfl) ?_
  refine lv_iconst (v := (0 : Int32)) hx hb dX10_hall_1 (by decide) ?_
  obtain ⟨x1, hx1, h⟩ := bq_b h
  refine bq_put (x1 := x1) (q0 := 0) (ty := .int) S hK hD hP hS fl_X10_97_X10_10 bt_X10 rfl (by decide +kernel) rfl rfl (Nat.le_of_ble_eq_true rfl) rfl rfl (by rw [hx1]; rfl) dX10_hall_2 (fun H locs hP hS => ?_)
  refine lv_aload_n hx hb dX10_hall_5 rfl (lv_at hl 0 rfl) ?_
  refine lv_iconst (v := (0 : Int32)) hx hb dX10_hall_6 (by decide) ?_
  obtain ⟨x2, hx2, h⟩ := bq_b h
  refine bq_put (x1 := x2) (q0 := 0) (ty := .boolean) S hK hD hP hS fl_X10_100_X10_11 bt_X10 rfl (by decide +kernel) rfl rfl (Nat.le_of_ble_eq_true rfl) rfl rfl (by rw [hx2]; rfl) dX10_hall_7 (fun H locs hP hS => ?_)
  refine lv_iconst (v := (0 : Int32)) hx hb dX10_hall_10 (by decide) ?_
  refine lv_istore_n (lv' := [(1, .int (0 : Int32)), (0, .ref (a 0))]) hx hb dX10_hall_11 rfl hl (by decide) rfl (fun ls hl => ?_)
  refine lv_iconst (v := (0 : Int32)) hx hb dX10_hall_12 (by decide) ?_
  refine lv_istore_n (lv' := [(2, .int (0 : Int32)), (1, .int (0 : Int32)), (0, .ref (a 0))]) hx hb dX10_hall_13 rfl hl (by decide) rfl (fun ls hl => ?_)
  have hl14 : ∀ (kf : Nat) (v3 : Int32) (v4 : Int32) (x5 : bq_S) (eo : Int32 × Int32 × bq_S) (H : Heap) (locs : List Loc) (ls : Array Slot), wh kf (fX10_hall_b14 n ) (v3, v4, x5) = some eo → va_P D bq_cl (bq_wM a k x5) H → va_S A s.heap H locs → lv_has ls 4 [(0, .ref (a 0)), (1, .int v3), (2, .int v4)] → (∀ (H : Heap) (locs : List Loc) (ls : Array Slot) (v34 : Int32) (v35 : Int32) (x36 : bq_S), eo = (v34, v35, x36) → va_P D bq_cl (bq_wM a k x36) H → va_S A s.heap H locs → lv_has ls 4 [(0, .ref (a 0)), (1, .int v34)] → W p l e { frames := 2, cells := 0, slots := 0, locals := 50 } s m [.ref (a 0)].toArray below meth c H locs 0 0 Q (F0 m 99 ls [])) → W p l e { frames := 2, cells := 0, slots := 0, locals := 50 } s m [.ref (a 0)].toArray below meth c H locs 0 0 Q (F0 m 14 ls []) := by
    intro  kf
    induction kf with
    | zero => intro v3 v4 x5 eo H locs ls h; cases h
    | succ kf ih =>
      intro v3 v4 x5 eo H locs ls h hP hS hl kx
      obtain ⟨out, h, hw⟩ := wh_s h
      unfold fX10_hall_b14 at h
      replace h := un3_e h
      have hj70 : ∀ (v20 : Int32) (v21 : Int32) (v22 : Int32) (v23 : Int32) (x24 : bq_S) (H : Heap) (locs : List Loc) (ls : Array Slot), fX10_hall_j70 n v20 v21 v22 v23 x24 = some out → va_P D bq_cl (bq_wM a k x24) H → va_S A s.heap H locs → lv_has ls 4 [(0, .ref (a 0)), (1, .int v20), (2, .int v21), (3, .int v22)] → W p l e { frames := 2, cells := 0, slots := 0, locals := 50 } s m [.ref (a 0)].toArray below meth c H locs 0 0 Q (F0 m 70 ls [.int v23, .ref (a 0)]) := by
        intro v20 v21 v22 v23 x24 H locs ls h hP hS hl
        unfold fX10_hall_j70 at h
        obtain ⟨g26, h⟩ := bq_gp h
        obtain ⟨x25, hx25, h⟩ := bq_b h
        refine bq_put (x1 := x25) (q0 := 0) (ty := .boolean) S hK hD hP hS fl_X10_100_X10_11 bt_X10 rfl (by decide +kernel) rfl rfl (Nat.le_of_ble_eq_true rfl) (bq_z g26) (bq_zf g26) (by rw [hx25]; rfl) dX10_hall_70 (fun H locs hP hS => ?_)
        refine lv_aload_n hx hb dX10_hall_73 rfl (lv_at hl 0 rfl) ?_
        refine bq_get (q0 := 0) S hK hP fl_X10_100_X10_11 rfl rfl rfl dX10_hall_74 ?_
        refine lv_if_ne (tgt := 96) hx hb dX10_hall_77 (by decide) (fun c27 => ?_) (fun c27 => ?_)
        · replace h := (if_neg c27).symm.trans h
          refine lv_goto (tgt := 14) hx hb dX10_hall_96 (by decide) ?_
          cases h
          exact ih _ _ _ _ _ _ _ hw hP hS (lv_sub hl [0, 1, 2] rfl) kx
        · replace h := (if_pos c27).symm.trans h
          refine lv_aload_n hx hb dX10_hall_80 rfl (lv_at hl 0 rfl) ?_
          refine bq_get (q0 := 0) S hK hP fl_X10_28_X10_12 rfl rfl rfl dX10_hall_81 ?_
          refine lv_iload_n hx hb dX10_hall_84 rfl (lv_at hl 1 rfl) ?_
          refine lv_iload_n hx hb dX10_hall_85 rfl (lv_at hl 3 rfl) ?_
          obtain ⟨g29, h⟩ := bq_gd h
          obtain ⟨x28, hx28, h⟩ := bq_b h
          refine bq_iast (x1 := x28) (q0 := 7) (t0 := 0) S hK hD hP hS rfl rfl g29 (by rw [hx28]; rfl) dX10_hall_86 (fun H locs hP hS => ?_)
          refine lv_iload_n hx hb dX10_hall_87 rfl (lv_at hl 2 rfl) ?_
          refine lv_iconst (v := (1 : Int32)) hx hb dX10_hall_88 (by decide) ?_
          refine lv_iload_n hx hb dX10_hall_89 rfl (lv_at hl 3 rfl) ?_
          refine lv_ishl hx hb dX10_hall_90 ?_
          refine lv_ior hx hb dX10_hall_91 ?_
          refine lv_topi (fun v30 hv30 => ?_)
          replace h := bq_bv h hv30
          refine lv_istore_n (lv' := [(2, .int v30), (0, .ref (a 0)), (1, .int v20), (3, .int v22)]) hx hb dX10_hall_92 rfl hl (by decide) rfl (fun ls hl => ?_)
          obtain ⟨v31, hv31, h⟩ := bq_b h
          refine lv_iinc (v := v31) (lv' := [(1, .int v31), (2, .int v30), (0, .ref (a 0)), (3, .int v22)]) hx hb dX10_hall_93 hl (k := 2) rfl (by rw [hv31]; rfl) (by decide) rfl (fun ls hl => ?_)
          refine lv_goto (tgt := 14) hx hb dX10_hall_96 (by decide) ?_
          cases h
          exact ih _ _ _ _ _ _ _ hw hP hS (lv_sub hl [2, 0, 1] rfl) kx
      have hj50 : ∀ (v15 : Int32) (v16 : Int32) (v17 : Int32) (x18 : bq_S) (H : Heap) (locs : List Loc) (ls : Array Slot), fX10_hall_j50 n v15 v16 v17 x18 = some out → va_P D bq_cl (bq_wM a k x18) H → va_S A s.heap H locs → lv_has ls 4 [(0, .ref (a 0)), (1, .int v15), (2, .int v16)] → W p l e { frames := 2, cells := 0, slots := 0, locals := 50 } s m [.ref (a 0)].toArray below meth c H locs 0 0 Q (F0 m 50 ls [.int v17]) := by
        intro v15 v16 v17 x18 H locs ls h hP hS hl
        unfold fX10_hall_j50 at h
        refine lv_istore_n (lv' := [(3, .int v17), (0, .ref (a 0)), (1, .int v15), (2, .int v16)]) hx hb dX10_hall_50 rfl hl (by decide) rfl (fun ls hl => ?_)
        refine lv_aload_n hx hb dX10_hall_51 rfl (lv_at hl 1 rfl) ?_
        refine lv_aload_n hx hb dX10_hall_52 rfl (lv_at hl 1 rfl) ?_
        refine bq_get (q0 := 0) S hK hP fl_X10_100_X10_11 rfl rfl rfl dX10_hall_53 ?_
        refine lv_if_ne (tgt := 65) hx hb dX10_hall_56 (by decide) (fun c19 => ?_) (fun c19 => ?_)
        · replace h := (if_neg c19).symm.trans h
          refine lv_iconst (v := (1 : Int32)) hx hb dX10_hall_65 (by decide) ?_
          refine lv_goto (tgt := 70) hx hb dX10_hall_66 (by decide) ?_
          exact hj70 _ _ _ _ _ _ _ _ h hP hS (lv_sub hl [1, 2, 3, 0] rfl)
        · replace h := (if_pos c19).symm.trans h
          refine lv_iload_n hx hb dX10_hall_59 rfl (lv_at hl 2 rfl) ?_
          refine lv_bipush (v := (8 : Int32)) hx hb dX10_hall_60 (by decide) ?_
          refine lv_icmp_ne (tgt := 69) hx hb dX10_hall_62 (by decide) (fun c32 => ?_) (fun c32 => ?_)
          · replace h := (if_neg c32).symm.trans h
            refine lv_iconst (v := (0 : Int32)) hx hb dX10_hall_69 (by decide) ?_
            exact hj70 _ _ _ _ _ _ _ _ h hP hS (lv_sub hl [1, 2, 3, 0] rfl)
          · replace h := (if_pos c32).symm.trans h
            refine lv_iconst (v := (1 : Int32)) hx hb dX10_hall_65 (by decide) ?_
            refine lv_goto (tgt := 70) hx hb dX10_hall_66 (by decide) ?_
            exact hj70 _ _ _ _ _ _ _ _ h hP hS (lv_sub hl [1, 2, 3, 0] rfl)
      refine lv_aload_n hx hb dX10_hall_14 rfl (lv_at hl 0 rfl) ?_
      refine bq_get (q0 := 0) S hK hP fl_X10_100_X10_11 rfl rfl rfl dX10_hall_15 ?_
      refine lv_if_ne (tgt := 99) hx hb dX10_hall_18 (by decide) (fun c6 => ?_) (fun c6 => ?_)
      · replace h := (if_neg c6).symm.trans h
        cases h
        exact kx _ _ _ _ _ _ (Option.some.inj hw).symm hP hS (lv_sub hl [0, 1] rfl)
      · replace h := (if_pos c6).symm.trans h
        refine lv_aload_n hx hb dX10_hall_21 rfl (lv_at hl 0 rfl) ?_
        obtain ⟨o7, ho7, h⟩ := Option.bind_eq_some_iff.mp h
        obtain ⟨v9, x8⟩ := o7
        replace h := un2_e h
        refine bq_callVi (q0 := 0) (As := []) S hK hD hA hP hS (cX10_here_k_0 ho7) hd_yX10_here ml_X10_104 in_yX10_here (hts _ sl_X10_X10_yX10_here) ⟨rfl, rfl⟩ ⟨by decide, by decide⟩ rfl rfl rfl hl.1 rfl (Nat.le_of_ble_eq_true rfl) ⟨Nat.zero_le _, Nat.zero_le _⟩ dX10_hall_22 (fun H locs hP hS => ?_)
        refine lv_if_eq (tgt := 99) hx hb dX10_hall_25 (by decide) (fun c10 => ?_) (fun c10 => ?_)
        · replace h := (if_pos c10).symm.trans h
          cases h
          exact kx _ _ _ _ _ _ (Option.some.inj hw).symm hP hS (lv_sub hl [0, 1] rfl)
        · replace h := (if_neg c10).symm.trans h
          refine lv_iload_n hx hb dX10_hall_28 rfl (lv_at hl 1 rfl) ?_
          refine lv_bipush (v := (8 : Int32)) hx hb dX10_hall_29 (by decide) ?_
          refine lv_icmp_ne (tgt := 38) hx hb dX10_hall_31 (by decide) (fun c11 => ?_) (fun c11 => ?_)
          · replace h := (if_neg c11).symm.trans h
            refine lv_aload_n hx hb dX10_hall_38 rfl (lv_at hl 0 rfl) ?_
            refine lv_iconst (v := (0 : Int32)) hx hb dX10_hall_39 (by decide) ?_
            refine lv_aload_n hx hb dX10_hall_40 rfl (lv_at hl 0 rfl) ?_
            refine bq_get (q0 := 0) S hK hP fl_X10_62_X10_0 rfl rfl rfl dX10_hall_41 ?_
            refine lv_iconst (v := (1 : Int32)) hx hb dX10_hall_44 (by decide) ?_
            refine lv_isub hx hb dX10_hall_45 ?_
            refine lv_iload_n hx hb dX10_hall_46 rfl (lv_at hl 2 rfl) ?_
            obtain ⟨o12, ho12, h⟩ := Option.bind_eq_some_iff.mp h
            obtain ⟨v14, x13⟩ := o12
            replace h := un2_e h
            refine bq_callVi (q0 := 0) (As := [.int _, .int _, .int _]) S hK hD hA hP hS (cX10_digit_k_0 ho12) hd_yX10_digit ml_X10_112 in_yX10_digit (hts _ sl_X10_X10_yX10_digit) ⟨rfl, rfl⟩ ⟨by decide, by decide⟩ rfl rfl rfl hl.1 rfl (Nat.le_of_ble_eq_true rfl) ⟨Nat.zero_le _, Nat.zero_le _⟩ dX10_hall_47 (fun H locs hP hS => ?_)
            exact hj50 _ _ _ _ _ _ _ h hP hS (lv_sub hl [0, 1, 2] rfl)
          · replace h := (if_pos c11).symm.trans h
            refine lv_iconst (v := (-1 : Int32)) hx hb dX10_hall_34 (by decide) ?_
            refine lv_goto (tgt := 50) hx hb dX10_hall_35 (by decide) ?_
            exact hj50 _ _ _ _ _ _ _ h hP hS (lv_sub hl [0, 1, 2] rfl)
  obtain ⟨e33, he33, h⟩ := Option.bind_eq_some_iff.mp h
  refine hl14 n _ _ _ e33 _ _ _ he33 hP hS (lv_sub hl [2, 1, 0] rfl) (fun H locs ls v34 v35 x36 hz hP hS hl => ?_)
  subst hz
  replace h := un3_e h
  exact hj99 _ _ _ _ _ h hP hS (lv_sub hl [0, 1] rfl)
def fX10_at (p1 : Int32) (x0 : bq_S) : Option (Int32 × bq_S) :=
  (fX10_in p1.toInt64 (0 : Int64) ((x0.1 0 6) - (1 : Int32)).toInt64 x0).bind (fun o1 => un2 o1 (fun v3 x2 =>
  if v3 = 0 then
  some ((-1 : Int32), x2)
  else
  if ok_i p1 8 then
  some ((x2.1 5 p1.toNatClampNeg), x2)
  else none))
theorem dX10_at_0 : decode cX10_at 0 = .ok (.iload_n 1, 1) := by decide +kernel
theorem dX10_at_1 : decode cX10_at 1 = .ok (.i2l, 1) := by decide +kernel
theorem dX10_at_2 : decode cX10_at 2 = .ok (.lconst 0, 1) := by decide +kernel
theorem dX10_at_3 : decode cX10_at 3 = .ok (.aload_n 0, 1) := by decide +kernel
theorem dX10_at_4 : decode cX10_at 4 = .ok (.getfield 126, 3) := by decide +kernel
theorem dX10_at_7 : decode cX10_at 7 = .ok (.iconst 1, 1) := by decide +kernel
theorem dX10_at_8 : decode cX10_at 8 = .ok (.isub, 1) := by decide +kernel
theorem dX10_at_9 : decode cX10_at 9 = .ok (.i2l, 1) := by decide +kernel
theorem dX10_at_10 : decode cX10_at 10 = .ok (.invokestatic 66, 3) := by decide +kernel
theorem dX10_at_13 : decode cX10_at 13 = .ok (.ifCond .eq 12, 3) := by decide +kernel
theorem dX10_at_16 : decode cX10_at 16 = .ok (.aload_n 0, 1) := by decide +kernel
theorem dX10_at_17 : decode cX10_at 17 = .ok (.getfield 22, 3) := by decide +kernel
theorem dX10_at_20 : decode cX10_at 20 = .ok (.iload_n 1, 1) := by decide +kernel
theorem dX10_at_21 : decode cX10_at 21 = .ok (.iaload, 1) := by decide +kernel
theorem dX10_at_22 : decode cX10_at 22 = .ok (.goto 4, 3) := by decide +kernel
theorem dX10_at_25 : decode cX10_at 25 = .ok (.iconst (-1), 1) := by decide +kernel
theorem dX10_at_26 : decode cX10_at 26 = .ok (.ireturn, 1) := by decide +kernel
set_option maxHeartbeats 4000000 in
set_option maxRecDepth 100000 in
theorem cX10_at_k_0 {l : Launch} {D : va_G} {a : Nat → Nat} {k : Nat → ClassId} {p1 : Int32} {x0 xz : bq_S} {rz : Int32} (h : fX10_at  p1 x0 = some (rz, xz)) : bq_M l D bq_cl (bq_ty k) (bq_wM a k) yX10_at cX10_at 2 (some .int) { frames := 1, cells := 0, slots := 0, locals := 25 } [.ref (a 0), .int p1] x0 (some rz) xz := by
  refine bq_ofW RX10 [(0, .ref (a 0)), (1, .int p1)] (by decide +kernel) rfl (Nat.le_of_ble_eq_true rfl) rfl (bq_adM a k) ?_
  intro p e s m below meth c A Q ls S hK hD hA hR hS hP hl
  have hx := S.1; have hb := S.2.1; have hml := S.2.2.1; have hown := S.2.2.2.1; have hts := S.2.2.2.2
  have hret : ∀ z, some z = some (rz, xz) → (rz, xz) = z := fun z h => (Option.some.inj h).symm
  unfold fX10_at at h
  refine lv_iload_n hx hb dX10_at_0 rfl (lv_at hl 1 rfl) ?_
  refine lv_i2l hx hb dX10_at_1 rfl ?_
  refine lv_lconst (v := (0 : Int64)) hx hb dX10_at_2 (by decide) ?_
  refine lv_aload_n hx hb dX10_at_3 rfl (lv_at hl 0 rfl) ?_
  refine bq_get (q0 := 0) S hK hP fl_X10_126_X10_6 rfl rfl rfl dX10_at_4 ?_
  refine lv_iconst (v := (1 : Int32)) hx hb dX10_at_7 (by decide) ?_
  refine lv_isub hx hb dX10_at_8 ?_
  refine lv_i2l hx hb dX10_at_9 rfl ?_
  obtain ⟨o1, ho1, h⟩ := Option.bind_eq_some_iff.mp h
  obtain ⟨v3, x2⟩ := o1
  replace h := un2_e h
  refine bq_callSi (As := [.long _, .long _, .long _]) S hK hD hA hP hS (cX10_in_k ho1) hd_yX10_in ml_X10_66 st_yX10_in ⟨rfl, rfl⟩ ⟨by decide, by decide⟩ rfl hl.1 rfl (Nat.le_of_ble_eq_true rfl) ⟨Nat.zero_le _, Nat.zero_le _⟩ dX10_at_10 (fun H locs hP hS => ?_)
  refine lv_if_eq (tgt := 25) hx hb dX10_at_13 (by decide) (fun c4 => ?_) (fun c4 => ?_)
  · replace h := (if_pos c4).symm.trans h
    refine lv_iconst (v := (-1 : Int32)) hx hb dX10_at_25 (by decide) ?_
    obtain ⟨e1, e2⟩ := Prod.mk.inj (hret _ h)
    exact hR _ _ _ _ _ (congrArg some e1) rfl (by rw [e2]; exact hP) hS dX10_at_26
  · replace h := (if_neg c4).symm.trans h
    refine lv_aload_n hx hb dX10_at_16 rfl (lv_at hl 0 rfl) ?_
    refine bq_get (q0 := 0) S hK hP fl_X10_22_X10_7 rfl rfl rfl dX10_at_17 ?_
    refine lv_iload_n hx hb dX10_at_20 rfl (lv_at hl 1 rfl) ?_
    obtain ⟨g5, h⟩ := bq_gd h
    refine va_iald (D := D) hx hb hK hP 5 0 rfl rfl g5 dX10_at_21 ?_
    refine lv_goto (tgt := 26) hx hb dX10_at_22 (by decide) ?_
    obtain ⟨e1, e2⟩ := Prod.mk.inj (hret _ h)
    exact hR _ _ _ _ _ (congrArg some e1) rfl (by rw [e2]; exact hP) hS dX10_at_26
def fX10_size_b4 (n : Nat) (v : Int32 × Int32 × bq_S) : Option ((Int32 × Int32 × bq_S) ⊕ (Int32 × Int32 × bq_S)) :=
  un3 v (fun v1 v2 x3 =>
  if v2 = 0 then
  some (.inr (v1, v2, x3))
  else
  bd (v1 + (1 : Int32)) (fun v5 =>
  bd (v2 &&& (v2 - (1 : Int32))) (fun v6 =>
  some (.inl (v5, v6, x3)))))
def fX10_size (n : Nat) (p0 : Int32) (x0 : bq_S) : Option (Int32 × bq_S) :=
  (wh n (fX10_size_b4 n) ((0 : Int32), p0, x0)).bind (fun e7 => un3 e7 (fun v8 v9 x10 =>
  some (v8, x10)))
theorem dX10_size_0 : decode cX10_size 0 = .ok (.iconst 0, 1) := by decide +kernel
theorem dX10_size_1 : decode cX10_size 1 = .ok (.istore_n 1, 1) := by decide +kernel
theorem dX10_size_2 : decode cX10_size 2 = .ok (.iload_n 0, 1) := by decide +kernel
theorem dX10_size_3 : decode cX10_size 3 = .ok (.istore_n 2, 1) := by decide +kernel
theorem dX10_size_4 : decode cX10_size 4 = .ok (.iload_n 2, 1) := by decide +kernel
theorem dX10_size_5 : decode cX10_size 5 = .ok (.ifCond .eq 15, 3) := by decide +kernel
theorem dX10_size_8 : decode cX10_size 8 = .ok (.iinc 1 1, 3) := by decide +kernel
theorem dX10_size_11 : decode cX10_size 11 = .ok (.iload_n 2, 1) := by decide +kernel
theorem dX10_size_12 : decode cX10_size 12 = .ok (.iload_n 2, 1) := by decide +kernel
theorem dX10_size_13 : decode cX10_size 13 = .ok (.iconst 1, 1) := by decide +kernel
theorem dX10_size_14 : decode cX10_size 14 = .ok (.isub, 1) := by decide +kernel
theorem dX10_size_15 : decode cX10_size 15 = .ok (.iand, 1) := by decide +kernel
theorem dX10_size_16 : decode cX10_size 16 = .ok (.istore_n 2, 1) := by decide +kernel
theorem dX10_size_17 : decode cX10_size 17 = .ok (.goto (-13), 3) := by decide +kernel
theorem dX10_size_20 : decode cX10_size 20 = .ok (.iload_n 1, 1) := by decide +kernel
theorem dX10_size_21 : decode cX10_size 21 = .ok (.ireturn, 1) := by decide +kernel
set_option maxHeartbeats 4000000 in
set_option maxRecDepth 100000 in
theorem cX10_size_k {l : Launch} {D : va_G} {a : Nat → Nat} {k : Nat → ClassId} {n : Nat} {p0 : Int32} {x0 xz : bq_S} {rz : Int32} (h : fX10_size n p0 x0 = some (rz, xz)) : bq_M l D bq_cl (bq_ty k) (bq_wM a k) yX10_size cX10_size 3 (some .int) { frames := 0, cells := 0, slots := 0, locals := 0 } [.int p0] x0 (some rz) xz := by
  refine bq_ofW RX10 [(0, .int p0)] (by decide +kernel) rfl (Nat.le_of_ble_eq_true rfl) rfl (bq_adM a k) ?_
  intro p e s m below meth c A Q ls S hK hD hA hR hS hP hl
  have hx := S.1; have hb := S.2.1; have hml := S.2.2.1; have hown := S.2.2.2.1; have hts := S.2.2.2.2
  have hret : ∀ z, some z = some (rz, xz) → (rz, xz) = z := fun z h => (Option.some.inj h).symm
  unfold fX10_size at h
  refine lv_iconst (v := (0 : Int32)) hx hb dX10_size_0 (by decide) ?_
  refine lv_istore_n (lv' := [(1, .int (0 : Int32)), (0, .int p0)]) hx hb dX10_size_1 rfl hl (by decide) rfl (fun ls hl => ?_)
  refine lv_iload_n hx hb dX10_size_2 rfl (lv_at hl 1 rfl) ?_
  refine lv_istore_n (lv' := [(2, .int p0), (1, .int (0 : Int32)), (0, .int p0)]) hx hb dX10_size_3 rfl hl (by decide) rfl (fun ls hl => ?_)
  have hl4 : ∀ (kf : Nat) (v1 : Int32) (v2 : Int32) (x3 : bq_S) (eo : Int32 × Int32 × bq_S) (H : Heap) (locs : List Loc) (ls : Array Slot), wh kf (fX10_size_b4 n ) (v1, v2, x3) = some eo → va_P D bq_cl (bq_wM a k x3) H → va_S A s.heap H locs → lv_has ls 3 [(1, .int v1), (2, .int v2)] → (∀ (H : Heap) (locs : List Loc) (ls : Array Slot) (v8 : Int32) (v9 : Int32) (x10 : bq_S), eo = (v8, v9, x10) → va_P D bq_cl (bq_wM a k x10) H → va_S A s.heap H locs → lv_has ls 3 [(1, .int v8)] → W p l e { frames := 0, cells := 0, slots := 0, locals := 0 } s m [.int p0].toArray below meth c H locs 0 0 Q (F0 m 20 ls [])) → W p l e { frames := 0, cells := 0, slots := 0, locals := 0 } s m [.int p0].toArray below meth c H locs 0 0 Q (F0 m 4 ls []) := by
    intro  kf
    induction kf with
    | zero => intro v1 v2 x3 eo H locs ls h; cases h
    | succ kf ih =>
      intro v1 v2 x3 eo H locs ls h hP hS hl kx
      obtain ⟨out, h, hw⟩ := wh_s h
      unfold fX10_size_b4 at h
      replace h := un3_e h
      refine lv_iload_n hx hb dX10_size_4 rfl (lv_at hl 1 rfl) ?_
      refine lv_if_eq (tgt := 20) hx hb dX10_size_5 (by decide) (fun c4 => ?_) (fun c4 => ?_)
      · replace h := (if_pos c4).symm.trans h
        cases h
        exact kx _ _ _ _ _ _ (Option.some.inj hw).symm hP hS (lv_sub hl [0] rfl)
      · replace h := (if_neg c4).symm.trans h
        obtain ⟨v5, hv5, h⟩ := bq_b h
        refine lv_iinc (v := v5) (lv' := [(1, .int v5), (2, .int v2)]) hx hb dX10_size_8 hl (k := 0) rfl (by rw [hv5]; rfl) (by decide) rfl (fun ls hl => ?_)
        refine lv_iload_n hx hb dX10_size_11 rfl (lv_at hl 1 rfl) ?_
        refine lv_iload_n hx hb dX10_size_12 rfl (lv_at hl 1 rfl) ?_
        refine lv_iconst (v := (1 : Int32)) hx hb dX10_size_13 (by decide) ?_
        refine lv_isub hx hb dX10_size_14 ?_
        refine lv_iand hx hb dX10_size_15 ?_
        refine lv_topi (fun v6 hv6 => ?_)
        replace h := bq_bv h hv6
        refine lv_istore_n (lv' := [(2, .int v6), (1, .int v5)]) hx hb dX10_size_16 rfl hl (by decide) rfl (fun ls hl => ?_)
        refine lv_goto (tgt := 4) hx hb dX10_size_17 (by decide) ?_
        cases h
        exact ih _ _ _ _ _ _ _ hw hP hS (lv_sub hl [1, 0] rfl) kx
  obtain ⟨e7, he7, h⟩ := Option.bind_eq_some_iff.mp h
  refine hl4 n _ _ _ e7 _ _ _ he7 hP hS (lv_sub hl [1, 0] rfl) (fun H locs ls v8 v9 x10 hz hP hS hl => ?_)
  subst hz
  replace h := un3_e h
  refine lv_iload_n hx hb dX10_size_20 rfl (lv_at hl 0 rfl) ?_
  obtain ⟨e1, e2⟩ := Prod.mk.inj (hret _ h)
  exact hR _ _ _ _ _ (congrArg some e1) rfl (by rw [e2]; exact hP) hS dX10_size_21
def fX10_count_b38 (n : Nat) (v14 : Int32) (v15 : Int32) (v18 : Int32) (v19 : Int32) (v : Int32 × Int32 × Int32 × bq_S) : Option ((Int32 × Int32 × Int32 × bq_S) ⊕ (Int32 × Int32 × Int32 × bq_S)) :=
  un4 v (fun v16 v17 v20 x21 =>
  if v19 ≤ v20 then
  some (.inr (v16, v17, v20, x21))
  else
  if ok_i v19 8 then
  bd (v16 + (((x21.1 3 v19.toNatClampNeg) >>> (v20 &&& 31)) &&& (1 : Int32))) (fun v24 =>
  (fX10_mayTouch v19 v20 x21).bind (fun o25 => un2 o25 (fun v27 x26 =>
  if v27 = 0 then
  bd (v17 + (0 : Int32)) (fun v29 =>
  bd (v20 + (1 : Int32)) (fun v30 =>
  some (.inl (v24, v29, v30, x26))))
  else
  bd (v17 + (1 : Int32)) (fun v31 =>
  bd (v20 + (1 : Int32)) (fun v32 =>
  some (.inl (v24, v31, v32, x26)))))))
  else none)
def fX10_count_b13 (n : Nat) (v1 : Int32) (v5 : Int32) (v : Int32 × Int32 × Int32 × Int32 × bq_S) : Option ((Int32 × Int32 × Int32 × Int32 × bq_S) ⊕ (Int32 × Int32 × Int32 × Int32 × bq_S)) :=
  un5 v (fun v2 v3 v4 v6 x7 =>
  if (x7.1 0 0) ≤ v6 then
  some (.inr (v2, v3, v4, v6, x7))
  else
  if ok_i v6 8 then
  (fX10_size n (x7.1 2 v6.toNatClampNeg) x7).bind (fun o10 => un2 o10 (fun v12 x11 =>
  bd (v2 + v12) (fun v13 =>
  (wh n (fX10_count_b38 n v1 v13 v5 v6) (v3, v4, (0 : Int32), x11)).bind (fun e33 => un4 e33 (fun v34 v35 v36 x37 =>
  bd (v6 + (1 : Int32)) (fun v38 =>
  some (.inl (v13, v34, v35, v38, x37))))))))
  else none)
def fX10_count_b96 (n : Nat) (v45 : Int32) (v46 : Int32) (v47 : Int32) (v48 : Int32) (v : Int32 × Int32 × bq_S) : Option ((Int32 × Int32 × bq_S) ⊕ (Int32 × Int32 × bq_S)) :=
  un3 v (fun v49 v50 x51 =>
  if (x51.1 0 6) ≤ v50 then
  some (.inr (v49, v50, x51))
  else
  if ok_i v50 8 then
  if ok_i (x51.1 5 v50.toNatClampNeg) 8 then
  bd (v49 + (x51.1 1 (x51.1 5 v50.toNatClampNeg).toNatClampNeg)) (fun v55 =>
  bd (v50 + (1 : Int32)) (fun v56 =>
  some (.inl (v55, v56, x51))))
  else none
  else none)
def fX10_count (n : Nat) (p1 : Int32) (x0 : bq_S) : Option (Int32 × bq_S) :=
  (wh n (fX10_count_b13 n p1 (0 : Int32)) ((0 : Int32), (0 : Int32), (0 : Int32), (0 : Int32), x0)).bind (fun e39 => un5 e39 (fun v40 v41 v42 v43 x44 =>
  (wh n (fX10_count_b96 n p1 v40 v41 v42) ((0 : Int32), (0 : Int32), x44)).bind (fun e57 => un3 e57 (fun v58 v59 x60 =>
  if p1 = (0 : Int32) then
  some ((x60.1 0 0), x60)
  else
  if p1 = (1 : Int32) then
  some ((x60.1 0 6), x60)
  else
  if p1 = (2 : Int32) then
  some (v40, x60)
  else
  if p1 = (3 : Int32) then
  some (v41, x60)
  else
  if p1 = (4 : Int32) then
  some (v42, x60)
  else
  if p1 = (5 : Int32) then
  some (v58, x60)
  else
  some ((-1 : Int32), x60)))))
theorem dX10_count_0 : decode cX10_count 0 = .ok (.iconst 0, 1) := by decide +kernel
theorem dX10_count_1 : decode cX10_count 1 = .ok (.istore_n 2, 1) := by decide +kernel
theorem dX10_count_2 : decode cX10_count 2 = .ok (.iconst 0, 1) := by decide +kernel
theorem dX10_count_3 : decode cX10_count 3 = .ok (.istore_n 3, 1) := by decide +kernel
theorem dX10_count_4 : decode cX10_count 4 = .ok (.iconst 0, 1) := by decide +kernel
theorem dX10_count_5 : decode cX10_count 5 = .ok (.istore 4, 2) := by decide +kernel
theorem dX10_count_7 : decode cX10_count 7 = .ok (.iconst 0, 1) := by decide +kernel
theorem dX10_count_8 : decode cX10_count 8 = .ok (.istore 5, 2) := by decide +kernel
theorem dX10_count_10 : decode cX10_count 10 = .ok (.iconst 0, 1) := by decide +kernel
theorem dX10_count_11 : decode cX10_count 11 = .ok (.istore 6, 2) := by decide +kernel
theorem dX10_count_13 : decode cX10_count 13 = .ok (.iload 6, 2) := by decide +kernel
theorem dX10_count_15 : decode cX10_count 15 = .ok (.aload_n 0, 1) := by decide +kernel
theorem dX10_count_16 : decode cX10_count 16 = .ok (.getfield 62, 3) := by decide +kernel
theorem dX10_count_19 : decode cX10_count 19 = .ok (.if_icmp .ge 74, 3) := by decide +kernel
theorem dX10_count_22 : decode cX10_count 22 = .ok (.iload_n 2, 1) := by decide +kernel
theorem dX10_count_23 : decode cX10_count 23 = .ok (.aload_n 0, 1) := by decide +kernel
theorem dX10_count_24 : decode cX10_count 24 = .ok (.getfield 13, 3) := by decide +kernel
theorem dX10_count_27 : decode cX10_count 27 = .ok (.iload 6, 2) := by decide +kernel
theorem dX10_count_29 : decode cX10_count 29 = .ok (.iaload, 1) := by decide +kernel
theorem dX10_count_30 : decode cX10_count 30 = .ok (.invokestatic 129, 3) := by decide +kernel
theorem dX10_count_33 : decode cX10_count 33 = .ok (.iadd, 1) := by decide +kernel
theorem dX10_count_34 : decode cX10_count 34 = .ok (.istore_n 2, 1) := by decide +kernel
theorem dX10_count_35 : decode cX10_count 35 = .ok (.iconst 0, 1) := by decide +kernel
theorem dX10_count_36 : decode cX10_count 36 = .ok (.istore 7, 2) := by decide +kernel
theorem dX10_count_38 : decode cX10_count 38 = .ok (.iload 7, 2) := by decide +kernel
theorem dX10_count_40 : decode cX10_count 40 = .ok (.iload 6, 2) := by decide +kernel
theorem dX10_count_42 : decode cX10_count 42 = .ok (.if_icmp .ge 45, 3) := by decide +kernel
theorem dX10_count_45 : decode cX10_count 45 = .ok (.iload_n 3, 1) := by decide +kernel
theorem dX10_count_46 : decode cX10_count 46 = .ok (.aload_n 0, 1) := by decide +kernel
theorem dX10_count_47 : decode cX10_count 47 = .ok (.getfield 16, 3) := by decide +kernel
theorem dX10_count_50 : decode cX10_count 50 = .ok (.iload 6, 2) := by decide +kernel
theorem dX10_count_52 : decode cX10_count 52 = .ok (.iaload, 1) := by decide +kernel
theorem dX10_count_53 : decode cX10_count 53 = .ok (.iload 7, 2) := by decide +kernel
theorem dX10_count_55 : decode cX10_count 55 = .ok (.ishr, 1) := by decide +kernel
theorem dX10_count_56 : decode cX10_count 56 = .ok (.iconst 1, 1) := by decide +kernel
theorem dX10_count_57 : decode cX10_count 57 = .ok (.iand, 1) := by decide +kernel
theorem dX10_count_58 : decode cX10_count 58 = .ok (.iadd, 1) := by decide +kernel
theorem dX10_count_59 : decode cX10_count 59 = .ok (.istore_n 3, 1) := by decide +kernel
theorem dX10_count_60 : decode cX10_count 60 = .ok (.iload 4, 2) := by decide +kernel
theorem dX10_count_62 : decode cX10_count 62 = .ok (.aload_n 0, 1) := by decide +kernel
theorem dX10_count_63 : decode cX10_count 63 = .ok (.iload 6, 2) := by decide +kernel
theorem dX10_count_65 : decode cX10_count 65 = .ok (.iload 7, 2) := by decide +kernel
theorem dX10_count_67 : decode cX10_count 67 = .ok (.invokevirtual 83, 3) := by decide +kernel
theorem dX10_count_70 : decode cX10_count 70 = .ok (.ifCond .eq 7, 3) := by decide +kernel
theorem dX10_count_73 : decode cX10_count 73 = .ok (.iconst 1, 1) := by decide +kernel
theorem dX10_count_74 : decode cX10_count 74 = .ok (.goto 4, 3) := by decide +kernel
theorem dX10_count_77 : decode cX10_count 77 = .ok (.iconst 0, 1) := by decide +kernel
theorem dX10_count_78 : decode cX10_count 78 = .ok (.iadd, 1) := by decide +kernel
theorem dX10_count_79 : decode cX10_count 79 = .ok (.istore 4, 2) := by decide +kernel
theorem dX10_count_81 : decode cX10_count 81 = .ok (.iinc 7 1, 3) := by decide +kernel
theorem dX10_count_84 : decode cX10_count 84 = .ok (.goto (-46), 3) := by decide +kernel
theorem dX10_count_87 : decode cX10_count 87 = .ok (.iinc 6 1, 3) := by decide +kernel
theorem dX10_count_90 : decode cX10_count 90 = .ok (.goto (-77), 3) := by decide +kernel
theorem dX10_count_93 : decode cX10_count 93 = .ok (.iconst 0, 1) := by decide +kernel
theorem dX10_count_94 : decode cX10_count 94 = .ok (.istore 6, 2) := by decide +kernel
theorem dX10_count_96 : decode cX10_count 96 = .ok (.iload 6, 2) := by decide +kernel
theorem dX10_count_98 : decode cX10_count 98 = .ok (.aload_n 0, 1) := by decide +kernel
theorem dX10_count_99 : decode cX10_count 99 = .ok (.getfield 126, 3) := by decide +kernel
theorem dX10_count_102 : decode cX10_count 102 = .ok (.if_icmp .ge 26, 3) := by decide +kernel
theorem dX10_count_105 : decode cX10_count 105 = .ok (.iload 5, 2) := by decide +kernel
theorem dX10_count_107 : decode cX10_count 107 = .ok (.aload_n 0, 1) := by decide +kernel
theorem dX10_count_108 : decode cX10_count 108 = .ok (.getfield 7, 3) := by decide +kernel
theorem dX10_count_111 : decode cX10_count 111 = .ok (.aload_n 0, 1) := by decide +kernel
theorem dX10_count_112 : decode cX10_count 112 = .ok (.getfield 22, 3) := by decide +kernel
theorem dX10_count_115 : decode cX10_count 115 = .ok (.iload 6, 2) := by decide +kernel
theorem dX10_count_117 : decode cX10_count 117 = .ok (.iaload, 1) := by decide +kernel
theorem dX10_count_118 : decode cX10_count 118 = .ok (.iaload, 1) := by decide +kernel
theorem dX10_count_119 : decode cX10_count 119 = .ok (.iadd, 1) := by decide +kernel
theorem dX10_count_120 : decode cX10_count 120 = .ok (.istore 5, 2) := by decide +kernel
theorem dX10_count_122 : decode cX10_count 122 = .ok (.iinc 6 1, 3) := by decide +kernel
theorem dX10_count_125 : decode cX10_count 125 = .ok (.goto (-29), 3) := by decide +kernel
theorem dX10_count_128 : decode cX10_count 128 = .ok (.iload_n 1, 1) := by decide +kernel
theorem dX10_count_129 : decode cX10_count 129 = .ok (.tableswitch 59 0 5 #[39, 44, 49, 51, 53, 56], 39) := by decide +kernel
theorem dX10_count_168 : decode cX10_count 168 = .ok (.aload_n 0, 1) := by decide +kernel
theorem dX10_count_169 : decode cX10_count 169 = .ok (.getfield 62, 3) := by decide +kernel
theorem dX10_count_172 : decode cX10_count 172 = .ok (.ireturn, 1) := by decide +kernel
theorem dX10_count_173 : decode cX10_count 173 = .ok (.aload_n 0, 1) := by decide +kernel
theorem dX10_count_174 : decode cX10_count 174 = .ok (.getfield 126, 3) := by decide +kernel
theorem dX10_count_177 : decode cX10_count 177 = .ok (.ireturn, 1) := by decide +kernel
theorem dX10_count_178 : decode cX10_count 178 = .ok (.iload_n 2, 1) := by decide +kernel
theorem dX10_count_179 : decode cX10_count 179 = .ok (.ireturn, 1) := by decide +kernel
theorem dX10_count_180 : decode cX10_count 180 = .ok (.iload_n 3, 1) := by decide +kernel
theorem dX10_count_181 : decode cX10_count 181 = .ok (.ireturn, 1) := by decide +kernel
theorem dX10_count_182 : decode cX10_count 182 = .ok (.iload 4, 2) := by decide +kernel
theorem dX10_count_184 : decode cX10_count 184 = .ok (.ireturn, 1) := by decide +kernel
theorem dX10_count_185 : decode cX10_count 185 = .ok (.iload 5, 2) := by decide +kernel
theorem dX10_count_187 : decode cX10_count 187 = .ok (.ireturn, 1) := by decide +kernel
theorem dX10_count_188 : decode cX10_count 188 = .ok (.iconst (-1), 1) := by decide +kernel
theorem dX10_count_189 : decode cX10_count 189 = .ok (.ireturn, 1) := by decide +kernel
set_option maxHeartbeats 4000000 in
set_option maxRecDepth 100000 in
theorem cX10_count_k_0 {l : Launch} {D : va_G} {a : Nat → Nat} {k : Nat → ClassId} {n : Nat} {p1 : Int32} {x0 xz : bq_S} {rz : Int32} (h : fX10_count n p1 x0 = some (rz, xz)) : bq_M l D bq_cl (bq_ty k) (bq_wM a k) yX10_count cX10_count 8 (some .int) { frames := 1, cells := 0, slots := 0, locals := 25 } [.ref (a 0), .int p1] x0 (some rz) xz := by
  refine bq_ofW RX10 [(0, .ref (a 0)), (1, .int p1)] (by decide +kernel) rfl (Nat.le_of_ble_eq_true rfl) rfl (bq_adM a k) ?_
  intro p e s m below meth c A Q ls S hK hD hA hR hS hP hl
  have hx := S.1; have hb := S.2.1; have hml := S.2.2.1; have hown := S.2.2.2.1; have hts := S.2.2.2.2
  have hret : ∀ z, some z = some (rz, xz) → (rz, xz) = z := fun z h => (Option.some.inj h).symm
  unfold fX10_count at h
  refine lv_iconst (v := (0 : Int32)) hx hb dX10_count_0 (by decide) ?_
  refine lv_istore_n (lv' := [(2, .int (0 : Int32)), (0, .ref (a 0)), (1, .int p1)]) hx hb dX10_count_1 rfl hl (by decide) rfl (fun ls hl => ?_)
  refine lv_iconst (v := (0 : Int32)) hx hb dX10_count_2 (by decide) ?_
  refine lv_istore_n (lv' := [(3, .int (0 : Int32)), (2, .int (0 : Int32)), (0, .ref (a 0)), (1, .int p1)]) hx hb dX10_count_3 rfl hl (by decide) rfl (fun ls hl => ?_)
  refine lv_iconst (v := (0 : Int32)) hx hb dX10_count_4 (by decide) ?_
  refine lv_istore (lv' := [(4, .int (0 : Int32)), (3, .int (0 : Int32)), (2, .int (0 : Int32)), (0, .ref (a 0)), (1, .int p1)]) hx hb dX10_count_5 hl (by decide) rfl (fun ls hl => ?_)
  refine lv_iconst (v := (0 : Int32)) hx hb dX10_count_7 (by decide) ?_
  refine lv_istore (lv' := [(5, .int (0 : Int32)), (4, .int (0 : Int32)), (3, .int (0 : Int32)), (2, .int (0 : Int32)), (0, .ref (a 0)), (1, .int p1)]) hx hb dX10_count_8 hl (by decide) rfl (fun ls hl => ?_)
  refine lv_iconst (v := (0 : Int32)) hx hb dX10_count_10 (by decide) ?_
  refine lv_istore (lv' := [(6, .int (0 : Int32)), (5, .int (0 : Int32)), (4, .int (0 : Int32)), (3, .int (0 : Int32)), (2, .int (0 : Int32)), (0, .ref (a 0)), (1, .int p1)]) hx hb dX10_count_11 hl (by decide) rfl (fun ls hl => ?_)
  have hl13 : ∀ (v1 : Int32) (v5 : Int32) (kf : Nat) (v2 : Int32) (v3 : Int32) (v4 : Int32) (v6 : Int32) (x7 : bq_S) (eo : Int32 × Int32 × Int32 × Int32 × bq_S) (H : Heap) (locs : List Loc) (ls : Array Slot), wh kf (fX10_count_b13 n v1 v5) (v2, v3, v4, v6, x7) = some eo → va_P D bq_cl (bq_wM a k x7) H → va_S A s.heap H locs → lv_has ls 8 [(0, .ref (a 0)), (1, .int v1), (2, .int v2), (3, .int v3), (4, .int v4), (5, .int v5), (6, .int v6)] → (∀ (H : Heap) (locs : List Loc) (ls : Array Slot) (v40 : Int32) (v41 : Int32) (v42 : Int32) (v43 : Int32) (x44 : bq_S), eo = (v40, v41, v42, v43, x44) → va_P D bq_cl (bq_wM a k x44) H → va_S A s.heap H locs → lv_has ls 8 [(0, .ref (a 0)), (1, .int v1), (2, .int v40), (3, .int v41), (4, .int v42), (5, .int v5)] → W p l e { frames := 1, cells := 0, slots := 0, locals := 25 } s m [.ref (a 0), .int p1].toArray below meth c H locs 0 0 Q (F0 m 93 ls [])) → W p l e { frames := 1, cells := 0, slots := 0, locals := 25 } s m [.ref (a 0), .int p1].toArray below meth c H locs 0 0 Q (F0 m 13 ls []) := by
    intro v1 v5 kf
    induction kf with
    | zero => intro v2 v3 v4 v6 x7 eo H locs ls h; cases h
    | succ kf ih =>
      intro v2 v3 v4 v6 x7 eo H locs ls h hP hS hl kx
      obtain ⟨out, h, hw⟩ := wh_s h
      unfold fX10_count_b13 at h
      replace h := un5_e h
      refine lv_iload hx hb dX10_count_13 (lv_at hl 6 rfl) ?_
      refine lv_aload_n hx hb dX10_count_15 rfl (lv_at hl 0 rfl) ?_
      refine bq_get (q0 := 0) S hK hP fl_X10_62_X10_0 rfl rfl rfl dX10_count_16 ?_
      refine lv_icmp_ge (tgt := 93) hx hb dX10_count_19 (by decide) (fun c8 => ?_) (fun c8 => ?_)
      · replace h := (if_pos c8).symm.trans h
        cases h
        exact kx _ _ _ _ _ _ _ _ (Option.some.inj hw).symm hP hS (lv_sub hl [0, 1, 2, 3, 4, 5] rfl)
      · replace h := (if_neg c8).symm.trans h
        refine lv_iload_n hx hb dX10_count_22 rfl (lv_at hl 2 rfl) ?_
        refine lv_aload_n hx hb dX10_count_23 rfl (lv_at hl 0 rfl) ?_
        refine bq_get (q0 := 0) S hK hP fl_X10_13_X10_2 rfl rfl rfl dX10_count_24 ?_
        refine lv_iload hx hb dX10_count_27 (lv_at hl 6 rfl) ?_
        obtain ⟨g9, h⟩ := bq_gd h
        refine va_iald (D := D) hx hb hK hP 2 0 rfl rfl g9 dX10_count_29 ?_
        obtain ⟨o10, ho10, h⟩ := Option.bind_eq_some_iff.mp h
        obtain ⟨v12, x11⟩ := o10
        replace h := un2_e h
        refine bq_callSi (As := [.int _]) S hK hD hA hP hS (cX10_size_k ho10) hd_yX10_size ml_X10_129 st_yX10_size ⟨rfl, rfl⟩ ⟨by decide, by decide⟩ rfl hl.1 rfl (Nat.le_of_ble_eq_true rfl) ⟨Nat.zero_le _, Nat.zero_le _⟩ dX10_count_30 (fun H locs hP hS => ?_)
        refine lv_iadd hx hb dX10_count_33 ?_
        refine lv_topi (fun v13 hv13 => ?_)
        replace h := bq_bv h hv13
        refine lv_istore_n (lv' := [(2, .int v13), (0, .ref (a 0)), (1, .int v1), (3, .int v3), (4, .int v4), (5, .int v5), (6, .int v6)]) hx hb dX10_count_34 rfl hl (by decide) rfl (fun ls hl => ?_)
        refine lv_iconst (v := (0 : Int32)) hx hb dX10_count_35 (by decide) ?_
        refine lv_istore (lv' := [(7, .int (0 : Int32)), (2, .int v13), (0, .ref (a 0)), (1, .int v1), (3, .int v3), (4, .int v4), (5, .int v5), (6, .int v6)]) hx hb dX10_count_36 hl (by decide) rfl (fun ls hl => ?_)
        have hl38 : ∀ (v14 : Int32) (v15 : Int32) (v18 : Int32) (v19 : Int32) (kf : Nat) (v16 : Int32) (v17 : Int32) (v20 : Int32) (x21 : bq_S) (eo : Int32 × Int32 × Int32 × bq_S) (H : Heap) (locs : List Loc) (ls : Array Slot), wh kf (fX10_count_b38 n v14 v15 v18 v19) (v16, v17, v20, x21) = some eo → va_P D bq_cl (bq_wM a k x21) H → va_S A s.heap H locs → lv_has ls 8 [(0, .ref (a 0)), (1, .int v14), (2, .int v15), (3, .int v16), (4, .int v17), (5, .int v18), (6, .int v19), (7, .int v20)] → (∀ (H : Heap) (locs : List Loc) (ls : Array Slot) (v34 : Int32) (v35 : Int32) (v36 : Int32) (x37 : bq_S), eo = (v34, v35, v36, x37) → va_P D bq_cl (bq_wM a k x37) H → va_S A s.heap H locs → lv_has ls 8 [(0, .ref (a 0)), (1, .int v14), (2, .int v15), (3, .int v34), (4, .int v35), (5, .int v18), (6, .int v19)] → W p l e { frames := 1, cells := 0, slots := 0, locals := 25 } s m [.ref (a 0), .int p1].toArray below meth c H locs 0 0 Q (F0 m 87 ls [])) → W p l e { frames := 1, cells := 0, slots := 0, locals := 25 } s m [.ref (a 0), .int p1].toArray below meth c H locs 0 0 Q (F0 m 38 ls []) := by
          intro v14 v15 v18 v19 kf
          induction kf with
          | zero => intro v16 v17 v20 x21 eo H locs ls h; cases h
          | succ kf ih =>
            intro v16 v17 v20 x21 eo H locs ls h hP hS hl kx
            obtain ⟨out, h, hw⟩ := wh_s h
            unfold fX10_count_b38 at h
            replace h := un4_e h
            refine lv_iload hx hb dX10_count_38 (lv_at hl 7 rfl) ?_
            refine lv_iload hx hb dX10_count_40 (lv_at hl 6 rfl) ?_
            refine lv_icmp_ge (tgt := 87) hx hb dX10_count_42 (by decide) (fun c22 => ?_) (fun c22 => ?_)
            · replace h := (if_pos c22).symm.trans h
              cases h
              exact kx _ _ _ _ _ _ _ (Option.some.inj hw).symm hP hS (lv_sub hl [0, 1, 2, 3, 4, 5, 6] rfl)
            · replace h := (if_neg c22).symm.trans h
              refine lv_iload_n hx hb dX10_count_45 rfl (lv_at hl 3 rfl) ?_
              refine lv_aload_n hx hb dX10_count_46 rfl (lv_at hl 0 rfl) ?_
              refine bq_get (q0 := 0) S hK hP fl_X10_16_X10_3 rfl rfl rfl dX10_count_47 ?_
              refine lv_iload hx hb dX10_count_50 (lv_at hl 6 rfl) ?_
              obtain ⟨g23, h⟩ := bq_gd h
              refine va_iald (D := D) hx hb hK hP 3 0 rfl rfl g23 dX10_count_52 ?_
              refine lv_iload hx hb dX10_count_53 (lv_at hl 7 rfl) ?_
              refine lv_ishr hx hb dX10_count_55 ?_
              refine lv_iconst (v := (1 : Int32)) hx hb dX10_count_56 (by decide) ?_
              refine lv_iand hx hb dX10_count_57 ?_
              refine lv_iadd hx hb dX10_count_58 ?_
              refine lv_topi (fun v24 hv24 => ?_)
              replace h := bq_bv h hv24
              refine lv_istore_n (lv' := [(3, .int v24), (0, .ref (a 0)), (1, .int v14), (2, .int v15), (4, .int v17), (5, .int v18), (6, .int v19), (7, .int v20)]) hx hb dX10_count_59 rfl hl (by decide) rfl (fun ls hl => ?_)
              refine lv_iload hx hb dX10_count_60 (lv_at hl 4 rfl) ?_
              refine lv_aload_n hx hb dX10_count_62 rfl (lv_at hl 1 rfl) ?_
              refine lv_iload hx hb dX10_count_63 (lv_at hl 6 rfl) ?_
              refine lv_iload hx hb dX10_count_65 (lv_at hl 7 rfl) ?_
              obtain ⟨o25, ho25, h⟩ := Option.bind_eq_some_iff.mp h
              obtain ⟨v27, x26⟩ := o25
              replace h := un2_e h
              refine bq_callVi (q0 := 0) (As := [.int _, .int _]) S hK hD hA hP hS (cX10_mayTouch_k_0 ho25) hd_yX10_mayTouch ml_X10_83 in_yX10_mayTouch (hts _ sl_X10_X10_yX10_mayTouch) ⟨rfl, rfl⟩ ⟨by decide, by decide⟩ rfl rfl rfl hl.1 rfl (Nat.le_of_ble_eq_true rfl) ⟨Nat.zero_le _, Nat.zero_le _⟩ dX10_count_67 (fun H locs hP hS => ?_)
              refine lv_if_eq (tgt := 77) hx hb dX10_count_70 (by decide) (fun c28 => ?_) (fun c28 => ?_)
              · replace h := (if_pos c28).symm.trans h
                refine lv_iconst (v := (0 : Int32)) hx hb dX10_count_77 (by decide) ?_
                refine lv_iadd hx hb dX10_count_78 ?_
                refine lv_topi (fun v29 hv29 => ?_)
                replace h := bq_bv h hv29
                refine lv_istore (lv' := [(4, .int v29), (3, .int v24), (0, .ref (a 0)), (1, .int v14), (2, .int v15), (5, .int v18), (6, .int v19), (7, .int v20)]) hx hb dX10_count_79 hl (by decide) rfl (fun ls hl => ?_)
                obtain ⟨v30, hv30, h⟩ := bq_b h
                refine lv_iinc (v := v30) (lv' := [(7, .int v30), (4, .int v29), (3, .int v24), (0, .ref (a 0)), (1, .int v14), (2, .int v15), (5, .int v18), (6, .int v19)]) hx hb dX10_count_81 hl (k := 7) rfl (by rw [hv30]; rfl) (by decide) rfl (fun ls hl => ?_)
                refine lv_goto (tgt := 38) hx hb dX10_count_84 (by decide) ?_
                cases h
                exact ih _ _ _ _ _ _ _ _ hw hP hS (lv_sub hl [3, 4, 5, 2, 1, 6, 7, 0] rfl) kx
              · replace h := (if_neg c28).symm.trans h
                refine lv_iconst (v := (1 : Int32)) hx hb dX10_count_73 (by decide) ?_
                refine lv_goto (tgt := 78) hx hb dX10_count_74 (by decide) ?_
                refine lv_iadd hx hb dX10_count_78 ?_
                refine lv_topi (fun v31 hv31 => ?_)
                replace h := bq_bv h hv31
                refine lv_istore (lv' := [(4, .int v31), (3, .int v24), (0, .ref (a 0)), (1, .int v14), (2, .int v15), (5, .int v18), (6, .int v19), (7, .int v20)]) hx hb dX10_count_79 hl (by decide) rfl (fun ls hl => ?_)
                obtain ⟨v32, hv32, h⟩ := bq_b h
                refine lv_iinc (v := v32) (lv' := [(7, .int v32), (4, .int v31), (3, .int v24), (0, .ref (a 0)), (1, .int v14), (2, .int v15), (5, .int v18), (6, .int v19)]) hx hb dX10_count_81 hl (k := 7) rfl (by rw [hv32]; rfl) (by decide) rfl (fun ls hl => ?_)
                refine lv_goto (tgt := 38) hx hb dX10_count_84 (by decide) ?_
                cases h
                exact ih _ _ _ _ _ _ _ _ hw hP hS (lv_sub hl [3, 4, 5, 2, 1, 6, 7, 0] rfl) kx
        obtain ⟨e33, he33, h⟩ := Option.bind_eq_some_iff.mp h
        refine hl38 _ _ _ _ n _ _ _ _ e33 _ _ _ he33 hP hS (lv_sub hl [2, 3, 1, 4, 5, 6, 7, 0] rfl) (fun H locs ls v34 v35 v36 x37 hz hP hS hl => ?_)
        subst hz
        replace h := un4_e h
        obtain ⟨v38, hv38, h⟩ := bq_b h
        refine lv_iinc (v := v38) (lv' := [(6, .int v38), (0, .ref (a 0)), (1, .int v1), (2, .int v13), (3, .int v34), (4, .int v35), (5, .int v5)]) hx hb dX10_count_87 hl (k := 6) rfl (by rw [hv38]; rfl) (by decide) rfl (fun ls hl => ?_)
        refine lv_goto (tgt := 13) hx hb dX10_count_90 (by decide) ?_
        cases h
        exact ih _ _ _ _ _ _ _ _ _ hw hP hS (lv_sub hl [1, 2, 3, 4, 5, 6, 0] rfl) kx
  obtain ⟨e39, he39, h⟩ := Option.bind_eq_some_iff.mp h
  refine hl13 _ _ n _ _ _ _ _ e39 _ _ _ he39 hP hS (lv_sub hl [5, 6, 4, 3, 2, 1, 0] rfl) (fun H locs ls v40 v41 v42 v43 x44 hz hP hS hl => ?_)
  subst hz
  replace h := un5_e h
  refine lv_iconst (v := (0 : Int32)) hx hb dX10_count_93 (by decide) ?_
  refine lv_istore (lv' := [(6, .int (0 : Int32)), (0, .ref (a 0)), (1, .int p1), (2, .int v40), (3, .int v41), (4, .int v42), (5, .int (0 : Int32))]) hx hb dX10_count_94 hl (by decide) rfl (fun ls hl => ?_)
  have hl96 : ∀ (v45 : Int32) (v46 : Int32) (v47 : Int32) (v48 : Int32) (kf : Nat) (v49 : Int32) (v50 : Int32) (x51 : bq_S) (eo : Int32 × Int32 × bq_S) (H : Heap) (locs : List Loc) (ls : Array Slot), wh kf (fX10_count_b96 n v45 v46 v47 v48) (v49, v50, x51) = some eo → va_P D bq_cl (bq_wM a k x51) H → va_S A s.heap H locs → lv_has ls 8 [(0, .ref (a 0)), (1, .int v45), (2, .int v46), (3, .int v47), (4, .int v48), (5, .int v49), (6, .int v50)] → (∀ (H : Heap) (locs : List Loc) (ls : Array Slot) (v58 : Int32) (v59 : Int32) (x60 : bq_S), eo = (v58, v59, x60) → va_P D bq_cl (bq_wM a k x60) H → va_S A s.heap H locs → lv_has ls 8 [(0, .ref (a 0)), (1, .int v45), (2, .int v46), (3, .int v47), (4, .int v48), (5, .int v58)] → W p l e { frames := 1, cells := 0, slots := 0, locals := 25 } s m [.ref (a 0), .int p1].toArray below meth c H locs 0 0 Q (F0 m 128 ls [])) → W p l e { frames := 1, cells := 0, slots := 0, locals := 25 } s m [.ref (a 0), .int p1].toArray below meth c H locs 0 0 Q (F0 m 96 ls []) := by
    intro v45 v46 v47 v48 kf
    induction kf with
    | zero => intro v49 v50 x51 eo H locs ls h; cases h
    | succ kf ih =>
      intro v49 v50 x51 eo H locs ls h hP hS hl kx
      obtain ⟨out, h, hw⟩ := wh_s h
      unfold fX10_count_b96 at h
      replace h := un3_e h
      refine lv_iload hx hb dX10_count_96 (lv_at hl 6 rfl) ?_
      refine lv_aload_n hx hb dX10_count_98 rfl (lv_at hl 0 rfl) ?_
      refine bq_get (q0 := 0) S hK hP fl_X10_126_X10_6 rfl rfl rfl dX10_count_99 ?_
      refine lv_icmp_ge (tgt := 128) hx hb dX10_count_102 (by decide) (fun c52 => ?_) (fun c52 => ?_)
      · replace h := (if_pos c52).symm.trans h
        cases h
        exact kx _ _ _ _ _ _ (Option.some.inj hw).symm hP hS (lv_sub hl [0, 1, 2, 3, 4, 5] rfl)
      · replace h := (if_neg c52).symm.trans h
        refine lv_iload hx hb dX10_count_105 (lv_at hl 5 rfl) ?_
        refine lv_aload_n hx hb dX10_count_107 rfl (lv_at hl 0 rfl) ?_
        refine bq_get (q0 := 0) S hK hP fl_X10_7_X10_1 rfl rfl rfl dX10_count_108 ?_
        refine lv_aload_n hx hb dX10_count_111 rfl (lv_at hl 0 rfl) ?_
        refine bq_get (q0 := 0) S hK hP fl_X10_22_X10_7 rfl rfl rfl dX10_count_112 ?_
        refine lv_iload hx hb dX10_count_115 (lv_at hl 6 rfl) ?_
        obtain ⟨g53, h⟩ := bq_gd h
        refine va_iald (D := D) hx hb hK hP 5 0 rfl rfl g53 dX10_count_117 ?_
        obtain ⟨g54, h⟩ := bq_gd h
        refine va_iald (D := D) hx hb hK hP 1 0 rfl rfl g54 dX10_count_118 ?_
        refine lv_iadd hx hb dX10_count_119 ?_
        refine lv_topi (fun v55 hv55 => ?_)
        replace h := bq_bv h hv55
        refine lv_istore (lv' := [(5, .int v55), (0, .ref (a 0)), (1, .int v45), (2, .int v46), (3, .int v47), (4, .int v48), (6, .int v50)]) hx hb dX10_count_120 hl (by decide) rfl (fun ls hl => ?_)
        obtain ⟨v56, hv56, h⟩ := bq_b h
        refine lv_iinc (v := v56) (lv' := [(6, .int v56), (5, .int v55), (0, .ref (a 0)), (1, .int v45), (2, .int v46), (3, .int v47), (4, .int v48)]) hx hb dX10_count_122 hl (k := 6) rfl (by rw [hv56]; rfl) (by decide) rfl (fun ls hl => ?_)
        refine lv_goto (tgt := 96) hx hb dX10_count_125 (by decide) ?_
        cases h
        exact ih _ _ _ _ _ _ _ hw hP hS (lv_sub hl [2, 3, 4, 5, 6, 1, 0] rfl) kx
  obtain ⟨e57, he57, h⟩ := Option.bind_eq_some_iff.mp h
  refine hl96 _ _ _ _ n _ _ _ e57 _ _ _ he57 hP hS (lv_sub hl [1, 2, 3, 4, 5, 6, 0] rfl) (fun H locs ls v58 v59 x60 hz hP hS hl => ?_)
  subst hz
  replace h := un3_e h
  refine lv_iload_n hx hb dX10_count_128 rfl (lv_at hl 1 rfl) ?_
  by_cases c61 : p1 = (0 : Int32)
  · replace h := (if_pos c61).symm.trans h
    refine lv_tableIn (off := 39) (tgt := 168) hx hb dX10_count_129 (by rw [c61]; decide) (by rw [c61]; decide) (by rw [c61]; rfl) (by decide) ?_
    refine lv_aload_n hx hb dX10_count_168 rfl (lv_at hl 0 rfl) ?_
    refine bq_get (q0 := 0) S hK hP fl_X10_62_X10_0 rfl rfl rfl dX10_count_169 ?_
    obtain ⟨e1, e2⟩ := Prod.mk.inj (hret _ h)
    exact hR _ _ _ _ _ (congrArg some e1) rfl (by rw [e2]; exact hP) hS dX10_count_172
  replace h := (if_neg c61).symm.trans h
  by_cases c62 : p1 = (1 : Int32)
  · replace h := (if_pos c62).symm.trans h
    refine lv_tableIn (off := 44) (tgt := 173) hx hb dX10_count_129 (by rw [c62]; decide) (by rw [c62]; decide) (by rw [c62]; rfl) (by decide) ?_
    refine lv_aload_n hx hb dX10_count_173 rfl (lv_at hl 0 rfl) ?_
    refine bq_get (q0 := 0) S hK hP fl_X10_126_X10_6 rfl rfl rfl dX10_count_174 ?_
    obtain ⟨e1, e2⟩ := Prod.mk.inj (hret _ h)
    exact hR _ _ _ _ _ (congrArg some e1) rfl (by rw [e2]; exact hP) hS dX10_count_177
  replace h := (if_neg c62).symm.trans h
  by_cases c63 : p1 = (2 : Int32)
  · replace h := (if_pos c63).symm.trans h
    refine lv_tableIn (off := 49) (tgt := 178) hx hb dX10_count_129 (by rw [c63]; decide) (by rw [c63]; decide) (by rw [c63]; rfl) (by decide) ?_
    refine lv_iload_n hx hb dX10_count_178 rfl (lv_at hl 2 rfl) ?_
    obtain ⟨e1, e2⟩ := Prod.mk.inj (hret _ h)
    exact hR _ _ _ _ _ (congrArg some e1) rfl (by rw [e2]; exact hP) hS dX10_count_179
  replace h := (if_neg c63).symm.trans h
  by_cases c64 : p1 = (3 : Int32)
  · replace h := (if_pos c64).symm.trans h
    refine lv_tableIn (off := 51) (tgt := 180) hx hb dX10_count_129 (by rw [c64]; decide) (by rw [c64]; decide) (by rw [c64]; rfl) (by decide) ?_
    refine lv_iload_n hx hb dX10_count_180 rfl (lv_at hl 3 rfl) ?_
    obtain ⟨e1, e2⟩ := Prod.mk.inj (hret _ h)
    exact hR _ _ _ _ _ (congrArg some e1) rfl (by rw [e2]; exact hP) hS dX10_count_181
  replace h := (if_neg c64).symm.trans h
  by_cases c65 : p1 = (4 : Int32)
  · replace h := (if_pos c65).symm.trans h
    refine lv_tableIn (off := 53) (tgt := 182) hx hb dX10_count_129 (by rw [c65]; decide) (by rw [c65]; decide) (by rw [c65]; rfl) (by decide) ?_
    refine lv_iload hx hb dX10_count_182 (lv_at hl 4 rfl) ?_
    obtain ⟨e1, e2⟩ := Prod.mk.inj (hret _ h)
    exact hR _ _ _ _ _ (congrArg some e1) rfl (by rw [e2]; exact hP) hS dX10_count_184
  replace h := (if_neg c65).symm.trans h
  by_cases c66 : p1 = (5 : Int32)
  · replace h := (if_pos c66).symm.trans h
    refine lv_tableIn (off := 56) (tgt := 185) hx hb dX10_count_129 (by rw [c66]; decide) (by rw [c66]; decide) (by rw [c66]; rfl) (by decide) ?_
    refine lv_iload hx hb dX10_count_185 (lv_at hl 5 rfl) ?_
    obtain ⟨e1, e2⟩ := Prod.mk.inj (hret _ h)
    exact hR _ _ _ _ _ (congrArg some e1) rfl (by rw [e2]; exact hP) hS dX10_count_187
  replace h := (if_neg c66).symm.trans h
  refine lv_tableOut (tgt := 188) hx hb dX10_count_129 (by have n0 := lv_neT c61 (a := 0) rfl; have n1 := lv_neT c62 (a := 1) rfl; have n2 := lv_neT c63 (a := 2) rfl; have n3 := lv_neT c64 (a := 3) rfl; have n4 := lv_neT c65 (a := 4) rfl; have n5 := lv_neT c66 (a := 5) rfl; omega) (by decide) ?_
  refine lv_iconst (v := (-1 : Int32)) hx hb dX10_count_188 (by decide) ?_
  obtain ⟨e1, e2⟩ := Prod.mk.inj (hret _ h)
  exact hR _ _ _ _ _ (congrArg some e1) rfl (by rw [e2]; exact hP) hS dX10_count_189
def fX10_takesHall_b10 (n : Nat) (v : Int32 × bq_S) : Option ((Int32 × bq_S) ⊕ (Int32 × bq_S)) :=
  un2 v (fun v2 x3 =>
  if (x3.1 0 6) ≤ v2 then
  some (.inr (v2, x3))
  else
  if ok_i v2 8 then
  if ok_i v2 8 then
  bd (bq_sI x3 10 v2.toNatClampNeg (x3.1 5 v2.toNatClampNeg)) (fun x6 =>
  bd (v2 + (1 : Int32)) (fun v8 =>
  some (.inl (v8, x6))))
  else none
  else none)
def fX10_takesHall (n : Nat) (x0 : bq_S) : Option (bq_S) :=
  bd (bq_sI x0 0 17 (x0.1 0 6)) (fun x1 =>
  (wh n (fX10_takesHall_b10 n) ((0 : Int32), x1)).bind (fun e9 => un2 e9 (fun v10 x11 =>
  some x11)))
theorem dX10_takesHall_0 : decode cX10_takesHall 0 = .ok (.aload_n 0, 1) := by decide +kernel
theorem dX10_takesHall_1 : decode cX10_takesHall 1 = .ok (.aload_n 0, 1) := by decide +kernel
theorem dX10_takesHall_2 : decode cX10_takesHall 2 = .ok (.getfield 126, 3) := by decide +kernel
theorem dX10_takesHall_5 : decode cX10_takesHall 5 = .ok (.putfield 133, 3) := by decide +kernel
theorem dX10_takesHall_8 : decode cX10_takesHall 8 = .ok (.iconst 0, 1) := by decide +kernel
theorem dX10_takesHall_9 : decode cX10_takesHall 9 = .ok (.istore_n 1, 1) := by decide +kernel
theorem dX10_takesHall_10 : decode cX10_takesHall 10 = .ok (.iload_n 1, 1) := by decide +kernel
theorem dX10_takesHall_11 : decode cX10_takesHall 11 = .ok (.aload_n 0, 1) := by decide +kernel
theorem dX10_takesHall_12 : decode cX10_takesHall 12 = .ok (.getfield 126, 3) := by decide +kernel
theorem dX10_takesHall_15 : decode cX10_takesHall 15 = .ok (.if_icmp .ge 21, 3) := by decide +kernel
theorem dX10_takesHall_18 : decode cX10_takesHall 18 = .ok (.aload_n 0, 1) := by decide +kernel
theorem dX10_takesHall_19 : decode cX10_takesHall 19 = .ok (.getfield 37, 3) := by decide +kernel
theorem dX10_takesHall_22 : decode cX10_takesHall 22 = .ok (.iload_n 1, 1) := by decide +kernel
theorem dX10_takesHall_23 : decode cX10_takesHall 23 = .ok (.aload_n 0, 1) := by decide +kernel
theorem dX10_takesHall_24 : decode cX10_takesHall 24 = .ok (.getfield 22, 3) := by decide +kernel
theorem dX10_takesHall_27 : decode cX10_takesHall 27 = .ok (.iload_n 1, 1) := by decide +kernel
theorem dX10_takesHall_28 : decode cX10_takesHall 28 = .ok (.iaload, 1) := by decide +kernel
theorem dX10_takesHall_29 : decode cX10_takesHall 29 = .ok (.iastore, 1) := by decide +kernel
theorem dX10_takesHall_30 : decode cX10_takesHall 30 = .ok (.iinc 1 1, 3) := by decide +kernel
theorem dX10_takesHall_33 : decode cX10_takesHall 33 = .ok (.goto (-23), 3) := by decide +kernel
theorem dX10_takesHall_36 : decode cX10_takesHall 36 = .ok (.return_, 1) := by decide +kernel
set_option maxHeartbeats 4000000 in
set_option maxRecDepth 100000 in
theorem cX10_takesHall_k_0 {l : Launch} {D : va_G} {a : Nat → Nat} {k : Nat → ClassId} {n : Nat} {x0 xz : bq_S} (h : fX10_takesHall n  x0 = some xz) : bq_M l D bq_cl (bq_ty k) (bq_wM a k) yX10_takesHall cX10_takesHall 2 none { frames := 0, cells := 0, slots := 0, locals := 0 } [.ref (a 0)] x0 none xz := by
  refine bq_ofWv RX10 [(0, .ref (a 0))] (by decide +kernel) rfl (Nat.le_of_ble_eq_true rfl) rfl (bq_adM a k) ?_
  intro p e s m below meth c A Q ls S hK hD hA hR hS hP hl
  have hx := S.1; have hb := S.2.1; have hml := S.2.2.1; have hown := S.2.2.2.1; have hts := S.2.2.2.2
  have hret : ∀ z, some z = some xz → xz = z := fun z h => (Option.some.inj h).symm
  unfold fX10_takesHall at h
  refine lv_aload_n hx hb dX10_takesHall_0 rfl (lv_at hl 0 rfl) ?_
  refine lv_aload_n hx hb dX10_takesHall_1 rfl (lv_at hl 0 rfl) ?_
  refine bq_get (q0 := 0) S hK hP fl_X10_126_X10_6 rfl rfl rfl dX10_takesHall_2 ?_
  obtain ⟨x1, hx1, h⟩ := bq_b h
  refine bq_put (x1 := x1) (q0 := 0) (ty := .int) S hK hD hP hS fl_X10_133_X10_17 bt_X10 rfl (by decide +kernel) rfl rfl (Nat.le_of_ble_eq_true rfl) rfl rfl (by rw [hx1]; rfl) dX10_takesHall_5 (fun H locs hP hS => ?_)
  refine lv_iconst (v := (0 : Int32)) hx hb dX10_takesHall_8 (by decide) ?_
  refine lv_istore_n (lv' := [(1, .int (0 : Int32)), (0, .ref (a 0))]) hx hb dX10_takesHall_9 rfl hl (by decide) rfl (fun ls hl => ?_)
  have hl10 : ∀ (kf : Nat) (v2 : Int32) (x3 : bq_S) (eo : Int32 × bq_S) (H : Heap) (locs : List Loc) (ls : Array Slot), wh kf (fX10_takesHall_b10 n ) (v2, x3) = some eo → va_P D bq_cl (bq_wM a k x3) H → va_S A s.heap H locs → lv_has ls 2 [(0, .ref (a 0)), (1, .int v2)] → (∀ (H : Heap) (locs : List Loc) (ls : Array Slot) (v10 : Int32) (x11 : bq_S), eo = (v10, x11) → va_P D bq_cl (bq_wM a k x11) H → va_S A s.heap H locs → lv_has ls 2 [] → W p l e { frames := 0, cells := 0, slots := 0, locals := 0 } s m [.ref (a 0)].toArray below meth c H locs 0 0 Q (F0 m 36 ls [])) → W p l e { frames := 0, cells := 0, slots := 0, locals := 0 } s m [.ref (a 0)].toArray below meth c H locs 0 0 Q (F0 m 10 ls []) := by
    intro  kf
    induction kf with
    | zero => intro v2 x3 eo H locs ls h; cases h
    | succ kf ih =>
      intro v2 x3 eo H locs ls h hP hS hl kx
      obtain ⟨out, h, hw⟩ := wh_s h
      unfold fX10_takesHall_b10 at h
      replace h := un2_e h
      refine lv_iload_n hx hb dX10_takesHall_10 rfl (lv_at hl 1 rfl) ?_
      refine lv_aload_n hx hb dX10_takesHall_11 rfl (lv_at hl 0 rfl) ?_
      refine bq_get (q0 := 0) S hK hP fl_X10_126_X10_6 rfl rfl rfl dX10_takesHall_12 ?_
      refine lv_icmp_ge (tgt := 36) hx hb dX10_takesHall_15 (by decide) (fun c4 => ?_) (fun c4 => ?_)
      · replace h := (if_pos c4).symm.trans h
        cases h
        exact kx _ _ _ _ _ (Option.some.inj hw).symm hP hS (lv_sub hl [] rfl)
      · replace h := (if_neg c4).symm.trans h
        refine lv_aload_n hx hb dX10_takesHall_18 rfl (lv_at hl 0 rfl) ?_
        refine bq_get (q0 := 0) S hK hP fl_X10_37_X10_16 rfl rfl rfl dX10_takesHall_19 ?_
        refine lv_iload_n hx hb dX10_takesHall_22 rfl (lv_at hl 1 rfl) ?_
        refine lv_aload_n hx hb dX10_takesHall_23 rfl (lv_at hl 0 rfl) ?_
        refine bq_get (q0 := 0) S hK hP fl_X10_22_X10_7 rfl rfl rfl dX10_takesHall_24 ?_
        refine lv_iload_n hx hb dX10_takesHall_27 rfl (lv_at hl 1 rfl) ?_
        obtain ⟨g5, h⟩ := bq_gd h
        refine va_iald (D := D) hx hb hK hP 5 0 rfl rfl g5 dX10_takesHall_28 ?_
        obtain ⟨g7, h⟩ := bq_gd h
        obtain ⟨x6, hx6, h⟩ := bq_b h
        refine bq_iast (x1 := x6) (q0 := 10) (t0 := 0) S hK hD hP hS rfl rfl g7 (by rw [hx6]; rfl) dX10_takesHall_29 (fun H locs hP hS => ?_)
        obtain ⟨v8, hv8, h⟩ := bq_b h
        refine lv_iinc (v := v8) (lv' := [(1, .int v8), (0, .ref (a 0))]) hx hb dX10_takesHall_30 hl (k := 1) rfl (by rw [hv8]; rfl) (by decide) rfl (fun ls hl => ?_)
        refine lv_goto (tgt := 10) hx hb dX10_takesHall_33 (by decide) ?_
        cases h
        exact ih _ _ _ _ _ _ hw hP hS (lv_sub hl [1, 0] rfl) kx
  obtain ⟨e9, he9, h⟩ := Option.bind_eq_some_iff.mp h
  refine hl10 n _ _ e9 _ _ _ he9 hP hS (lv_sub hl [1, 0] rfl) (fun H locs ls v10 x11 hz hP hS hl => ?_)
  subst hz
  replace h := un2_e h
  have e2 := hret _ h
  exact hR _ _ _ _ rfl (by rw [e2]; exact hP) hS dX10_takesHall_36
