def fX10_apart_j88 (n : Nat) (v19 : Int32) (v20 : Int32) (v21 : Int32) (v29 : Int32) (v30 : Int32) (v31 : Int32) (x32 : bq_S) : Option ((Int32 × Int32 × Int32 × bq_S) ⊕ (Int32 × Int32 × Int32 × bq_S)) :=
  if ok_i v30 8 then
  if (x32.1 10 v30.toNatClampNeg) = v20 then
  bd (v30 + (1 : Int32)) (fun v36 =>
  some (.inl (v31, v30, v36, x32)))
  else
  bd (v30 + (1 : Int32)) (fun v35 =>
  some (.inl (v31, v29, v35, x32)))
  else none
def fX10_apart_b61 (n : Nat) (v19 : Int32) (v20 : Int32) (v21 : Int32) (v : Int32 × Int32 × Int32 × bq_S) : Option ((Int32 × Int32 × Int32 × bq_S) ⊕ (Int32 × Int32 × Int32 × bq_S)) :=
  un4 v (fun v22 v23 v24 x25 =>
  if (x25.1 0 17) ≤ v24 then
  some (.inr (v22, v23, v24, x25))
  else
  if ok_i v24 8 then
  if (x25.1 10 v24.toNatClampNeg) = v19 then
  fX10_apart_j88 n v19 v20 v21 v23 v24 v24 x25
  else
  fX10_apart_j88 n v19 v20 v21 v23 v24 v22 x25
  else none)
def fX10_apart_j199 (n : Nat) (v13 : Int32) (v14 : Int32) (v54 : Int32) (x55 : bq_S) : Option ((Int32 × Int32 × bq_S) ⊕ (Int32 × Int32 × bq_S)) :=
  (fX10_next n  x55).bind (fun o56 => un2 o56 (fun v58 x57 =>
  some (.inl (v54, v58, x57))))
def fX10_apart_j176 (n : Nat) (v13 : Int32) (v14 : Int32) (v47 : Int32) (v48 : Int32) (x49 : bq_S) : Option ((Int32 × Int32 × bq_S) ⊕ (Int32 × Int32 × bq_S)) :=
  (fX10_wrongAt n  x49).bind (fun o50 => un2 o50 (fun v52 x51 =>
  if 0 ≤ v52 then
  fX10_apart_j199 n v13 v14 v47 x51
  else
  if v48 ≤ v47 then
  fX10_apart_j199 n v13 v14 v47 x51
  else
  fX10_apart_j199 n v13 v14 v48 x51))
def fX10_apart_j136 (n : Nat) (v13 : Int32) (v14 : Int32) (v43 : Int32) (v44 : Int32) (x45 : bq_S) : Option ((Int32 × Int32 × bq_S) ⊕ (Int32 × Int32 × bq_S)) :=
  if (x45.1 4 (0 : Int32).toNatClampNeg) = (1 : Int32) then
  if v44 ≤ ((x45.1 0 17) - v44) then
  fX10_apart_j176 n v13 v14 v43 (v44 - (1 : Int32)) x45
  else
  fX10_apart_j176 n v13 v14 v43 (((x45.1 0 17) - v44) - (1 : Int32)) x45
  else
  fX10_apart_j176 n v13 v14 v43 (v44 - (1 : Int32)) x45
def fX10_apart_b47 (n : Nat) (v13 : Int32) (v14 : Int32) (v : Int32 × Int32 × bq_S) : Option ((Int32 × Int32 × bq_S) ⊕ (Int32 × Int32 × bq_S)) :=
  un3 v (fun v15 v16 x17 =>
  if v16 = 0 then
  some (.inr (v15, v16, x17))
  else
  (wh n (fX10_apart_b61 n v13 v14 v15) ((0 : Int32), (0 : Int32), (0 : Int32), x17)).bind (fun e37 => un4 e37 (fun v38 v39 v40 x41 =>
  if v39 ≤ v38 then
  fX10_apart_j136 n v13 v14 v15 (v38 - v39) x41
  else
  fX10_apart_j136 n v13 v14 v15 (v39 - v38) x41)))
def fX10_apart (n : Nat) (p1 : Int32) (p2 : Int32) (p3 : Int32) (x0 : bq_S) : Option (Int32 × bq_S) :=
  (fX10_isSet p1 x0).bind (fun o1 => un2 o1 (fun v3 x2 =>
  if v3 = 0 then
  some ((-1 : Int32), x2)
  else
  (fX10_areTwo p2 p3 x2).bind (fun o5 => un2 o5 (fun v7 x6 =>
  if v7 = 0 then
  some ((-1 : Int32), x6)
  else
  if ((p1 >>> (p2 &&& 31)) &&& (1 : Int32)) = 0 then
  some ((-1 : Int32), x6)
  else
  if ((p1 >>> (p3 &&& 31)) &&& (1 : Int32)) = 0 then
  some ((-1 : Int32), x6)
  else
  (fX10_first n p1 x6).bind (fun x12 =>
  (wh n (fX10_apart_b47 n p2 p3) ((-4 : Int32), (1 : Int32), x12)).bind (fun e61 => un3 e61 (fun v62 v63 x64 =>
  some (v62, x64))))))))
theorem dX10_apart_0 : decode cX10_apart 0 = .ok (.aload_n 0, 1) := by decide +kernel
theorem dX10_apart_1 : decode cX10_apart 1 = .ok (.iload_n 1, 1) := by decide +kernel
theorem dX10_apart_2 : decode cX10_apart 2 = .ok (.invokevirtual 142, 3) := by decide +kernel
theorem dX10_apart_5 : decode cX10_apart 5 = .ok (.ifCond .eq 28, 3) := by decide +kernel
theorem dX10_apart_8 : decode cX10_apart 8 = .ok (.aload_n 0, 1) := by decide +kernel
theorem dX10_apart_9 : decode cX10_apart 9 = .ok (.iload_n 2, 1) := by decide +kernel
theorem dX10_apart_10 : decode cX10_apart 10 = .ok (.iload_n 3, 1) := by decide +kernel
theorem dX10_apart_11 : decode cX10_apart 11 = .ok (.invokevirtual 79, 3) := by decide +kernel
theorem dX10_apart_14 : decode cX10_apart 14 = .ok (.ifCond .eq 19, 3) := by decide +kernel
theorem dX10_apart_17 : decode cX10_apart 17 = .ok (.iload_n 1, 1) := by decide +kernel
theorem dX10_apart_18 : decode cX10_apart 18 = .ok (.iload_n 2, 1) := by decide +kernel
theorem dX10_apart_19 : decode cX10_apart 19 = .ok (.ishr, 1) := by decide +kernel
theorem dX10_apart_20 : decode cX10_apart 20 = .ok (.iconst 1, 1) := by decide +kernel
theorem dX10_apart_21 : decode cX10_apart 21 = .ok (.iand, 1) := by decide +kernel
theorem dX10_apart_22 : decode cX10_apart 22 = .ok (.ifCond .eq 11, 3) := by decide +kernel
theorem dX10_apart_25 : decode cX10_apart 25 = .ok (.iload_n 1, 1) := by decide +kernel
theorem dX10_apart_26 : decode cX10_apart 26 = .ok (.iload_n 3, 1) := by decide +kernel
theorem dX10_apart_27 : decode cX10_apart 27 = .ok (.ishr, 1) := by decide +kernel
theorem dX10_apart_28 : decode cX10_apart 28 = .ok (.iconst 1, 1) := by decide +kernel
theorem dX10_apart_29 : decode cX10_apart 29 = .ok (.iand, 1) := by decide +kernel
theorem dX10_apart_30 : decode cX10_apart 30 = .ok (.ifCond .ne 5, 3) := by decide +kernel
theorem dX10_apart_33 : decode cX10_apart 33 = .ok (.iconst (-1), 1) := by decide +kernel
theorem dX10_apart_34 : decode cX10_apart 34 = .ok (.ireturn, 1) := by decide +kernel
theorem dX10_apart_35 : decode cX10_apart 35 = .ok (.bipush (-4), 2) := by decide +kernel
theorem dX10_apart_37 : decode cX10_apart 37 = .ok (.istore 4, 2) := by decide +kernel
theorem dX10_apart_39 : decode cX10_apart 39 = .ok (.aload_n 0, 1) := by decide +kernel
theorem dX10_apart_40 : decode cX10_apart 40 = .ok (.iload_n 1, 1) := by decide +kernel
theorem dX10_apart_41 : decode cX10_apart 41 = .ok (.invokevirtual 145, 3) := by decide +kernel
theorem dX10_apart_44 : decode cX10_apart 44 = .ok (.iconst 1, 1) := by decide +kernel
theorem dX10_apart_45 : decode cX10_apart 45 = .ok (.istore 5, 2) := by decide +kernel
theorem dX10_apart_47 : decode cX10_apart 47 = .ok (.iload 5, 2) := by decide +kernel
theorem dX10_apart_49 : decode cX10_apart 49 = .ok (.ifCond .eq 161, 3) := by decide +kernel
theorem dX10_apart_52 : decode cX10_apart 52 = .ok (.iconst 0, 1) := by decide +kernel
theorem dX10_apart_53 : decode cX10_apart 53 = .ok (.istore 6, 2) := by decide +kernel
theorem dX10_apart_55 : decode cX10_apart 55 = .ok (.iconst 0, 1) := by decide +kernel
theorem dX10_apart_56 : decode cX10_apart 56 = .ok (.istore 7, 2) := by decide +kernel
theorem dX10_apart_58 : decode cX10_apart 58 = .ok (.iconst 0, 1) := by decide +kernel
theorem dX10_apart_59 : decode cX10_apart 59 = .ok (.istore 8, 2) := by decide +kernel
theorem dX10_apart_61 : decode cX10_apart 61 = .ok (.iload 8, 2) := by decide +kernel
theorem dX10_apart_63 : decode cX10_apart 63 = .ok (.aload_n 0, 1) := by decide +kernel
theorem dX10_apart_64 : decode cX10_apart 64 = .ok (.getfield 133, 3) := by decide +kernel
theorem dX10_apart_67 : decode cX10_apart 67 = .ok (.if_icmp .ge 49, 3) := by decide +kernel
theorem dX10_apart_70 : decode cX10_apart 70 = .ok (.aload_n 0, 1) := by decide +kernel
theorem dX10_apart_71 : decode cX10_apart 71 = .ok (.getfield 37, 3) := by decide +kernel
theorem dX10_apart_74 : decode cX10_apart 74 = .ok (.iload 8, 2) := by decide +kernel
theorem dX10_apart_76 : decode cX10_apart 76 = .ok (.iaload, 1) := by decide +kernel
theorem dX10_apart_77 : decode cX10_apart 77 = .ok (.iload_n 2, 1) := by decide +kernel
theorem dX10_apart_78 : decode cX10_apart 78 = .ok (.if_icmp .ne 8, 3) := by decide +kernel
theorem dX10_apart_81 : decode cX10_apart 81 = .ok (.iload 8, 2) := by decide +kernel
theorem dX10_apart_83 : decode cX10_apart 83 = .ok (.goto 5, 3) := by decide +kernel
theorem dX10_apart_86 : decode cX10_apart 86 = .ok (.iload 6, 2) := by decide +kernel
theorem dX10_apart_88 : decode cX10_apart 88 = .ok (.istore 6, 2) := by decide +kernel
theorem dX10_apart_90 : decode cX10_apart 90 = .ok (.aload_n 0, 1) := by decide +kernel
theorem dX10_apart_91 : decode cX10_apart 91 = .ok (.getfield 37, 3) := by decide +kernel
theorem dX10_apart_94 : decode cX10_apart 94 = .ok (.iload 8, 2) := by decide +kernel
theorem dX10_apart_96 : decode cX10_apart 96 = .ok (.iaload, 1) := by decide +kernel
theorem dX10_apart_97 : decode cX10_apart 97 = .ok (.iload_n 3, 1) := by decide +kernel
theorem dX10_apart_98 : decode cX10_apart 98 = .ok (.if_icmp .ne 8, 3) := by decide +kernel
theorem dX10_apart_101 : decode cX10_apart 101 = .ok (.iload 8, 2) := by decide +kernel
theorem dX10_apart_103 : decode cX10_apart 103 = .ok (.goto 5, 3) := by decide +kernel
theorem dX10_apart_106 : decode cX10_apart 106 = .ok (.iload 7, 2) := by decide +kernel
theorem dX10_apart_108 : decode cX10_apart 108 = .ok (.istore 7, 2) := by decide +kernel
theorem dX10_apart_110 : decode cX10_apart 110 = .ok (.iinc 8 1, 3) := by decide +kernel
theorem dX10_apart_113 : decode cX10_apart 113 = .ok (.goto (-52), 3) := by decide +kernel
theorem dX10_apart_116 : decode cX10_apart 116 = .ok (.iload 6, 2) := by decide +kernel
theorem dX10_apart_118 : decode cX10_apart 118 = .ok (.iload 7, 2) := by decide +kernel
theorem dX10_apart_120 : decode cX10_apart 120 = .ok (.if_icmp .ge 11, 3) := by decide +kernel
theorem dX10_apart_123 : decode cX10_apart 123 = .ok (.iload 7, 2) := by decide +kernel
theorem dX10_apart_125 : decode cX10_apart 125 = .ok (.iload 6, 2) := by decide +kernel
theorem dX10_apart_127 : decode cX10_apart 127 = .ok (.isub, 1) := by decide +kernel
theorem dX10_apart_128 : decode cX10_apart 128 = .ok (.goto 8, 3) := by decide +kernel
theorem dX10_apart_131 : decode cX10_apart 131 = .ok (.iload 6, 2) := by decide +kernel
theorem dX10_apart_133 : decode cX10_apart 133 = .ok (.iload 7, 2) := by decide +kernel
theorem dX10_apart_135 : decode cX10_apart 135 = .ok (.isub, 1) := by decide +kernel
theorem dX10_apart_136 : decode cX10_apart 136 = .ok (.istore 8, 2) := by decide +kernel
theorem dX10_apart_138 : decode cX10_apart 138 = .ok (.aload_n 0, 1) := by decide +kernel
theorem dX10_apart_139 : decode cX10_apart 139 = .ok (.getfield 19, 3) := by decide +kernel
theorem dX10_apart_142 : decode cX10_apart 142 = .ok (.iconst 0, 1) := by decide +kernel
theorem dX10_apart_143 : decode cX10_apart 143 = .ok (.iaload, 1) := by decide +kernel
theorem dX10_apart_144 : decode cX10_apart 144 = .ok (.iconst 1, 1) := by decide +kernel
theorem dX10_apart_145 : decode cX10_apart 145 = .ok (.if_icmp .ne 27, 3) := by decide +kernel
theorem dX10_apart_148 : decode cX10_apart 148 = .ok (.aload_n 0, 1) := by decide +kernel
theorem dX10_apart_149 : decode cX10_apart 149 = .ok (.getfield 133, 3) := by decide +kernel
theorem dX10_apart_152 : decode cX10_apart 152 = .ok (.iload 8, 2) := by decide +kernel
theorem dX10_apart_154 : decode cX10_apart 154 = .ok (.isub, 1) := by decide +kernel
theorem dX10_apart_155 : decode cX10_apart 155 = .ok (.iload 8, 2) := by decide +kernel
theorem dX10_apart_157 : decode cX10_apart 157 = .ok (.if_icmp .ge 15, 3) := by decide +kernel
theorem dX10_apart_160 : decode cX10_apart 160 = .ok (.aload_n 0, 1) := by decide +kernel
theorem dX10_apart_161 : decode cX10_apart 161 = .ok (.getfield 133, 3) := by decide +kernel
theorem dX10_apart_164 : decode cX10_apart 164 = .ok (.iload 8, 2) := by decide +kernel
theorem dX10_apart_166 : decode cX10_apart 166 = .ok (.isub, 1) := by decide +kernel
theorem dX10_apart_167 : decode cX10_apart 167 = .ok (.iconst 1, 1) := by decide +kernel
theorem dX10_apart_168 : decode cX10_apart 168 = .ok (.isub, 1) := by decide +kernel
theorem dX10_apart_169 : decode cX10_apart 169 = .ok (.goto 7, 3) := by decide +kernel
theorem dX10_apart_172 : decode cX10_apart 172 = .ok (.iload 8, 2) := by decide +kernel
theorem dX10_apart_174 : decode cX10_apart 174 = .ok (.iconst 1, 1) := by decide +kernel
theorem dX10_apart_175 : decode cX10_apart 175 = .ok (.isub, 1) := by decide +kernel
theorem dX10_apart_176 : decode cX10_apart 176 = .ok (.istore 9, 2) := by decide +kernel
theorem dX10_apart_178 : decode cX10_apart 178 = .ok (.aload_n 0, 1) := by decide +kernel
theorem dX10_apart_179 : decode cX10_apart 179 = .ok (.invokevirtual 139, 3) := by decide +kernel
theorem dX10_apart_182 : decode cX10_apart 182 = .ok (.ifCond .ge 15, 3) := by decide +kernel
theorem dX10_apart_185 : decode cX10_apart 185 = .ok (.iload 9, 2) := by decide +kernel
theorem dX10_apart_187 : decode cX10_apart 187 = .ok (.iload 4, 2) := by decide +kernel
theorem dX10_apart_189 : decode cX10_apart 189 = .ok (.if_icmp .le 8, 3) := by decide +kernel
theorem dX10_apart_192 : decode cX10_apart 192 = .ok (.iload 9, 2) := by decide +kernel
theorem dX10_apart_194 : decode cX10_apart 194 = .ok (.goto 5, 3) := by decide +kernel
theorem dX10_apart_197 : decode cX10_apart 197 = .ok (.iload 4, 2) := by decide +kernel
theorem dX10_apart_199 : decode cX10_apart 199 = .ok (.istore 4, 2) := by decide +kernel
theorem dX10_apart_201 : decode cX10_apart 201 = .ok (.aload_n 0, 1) := by decide +kernel
theorem dX10_apart_202 : decode cX10_apart 202 = .ok (.invokevirtual 148, 3) := by decide +kernel
theorem dX10_apart_205 : decode cX10_apart 205 = .ok (.istore 5, 2) := by decide +kernel
theorem dX10_apart_207 : decode cX10_apart 207 = .ok (.goto (-160), 3) := by decide +kernel
theorem dX10_apart_210 : decode cX10_apart 210 = .ok (.iload 4, 2) := by decide +kernel
theorem dX10_apart_212 : decode cX10_apart 212 = .ok (.ireturn, 1) := by decide +kernel
set_option maxHeartbeats 4000000 in
set_option maxRecDepth 100000 in
theorem cX10_apart_k_0 {l : Launch} {D : va_G} {a : Nat → Nat} {k : Nat → ClassId} {n : Nat} {p1 : Int32} {p2 : Int32} {p3 : Int32} {x0 xz : bq_S} {rz : Int32} (h : fX10_apart n p1 p2 p3 x0 = some (rz, xz)) : bq_M l D bq_cl (bq_ty k) (bq_wM a k) yX10_apart cX10_apart 10 (some .int) { frames := 3, cells := 0, slots := 0, locals := 68 } [.ref (a 0), .int p1, .int p2, .int p3] x0 (some rz) xz := by
  refine bq_ofW RX10 [(0, .ref (a 0)), (1, .int p1), (2, .int p2), (3, .int p3)] (by decide +kernel) rfl (Nat.le_of_ble_eq_true rfl) rfl (bq_adM a k) ?_
  intro p e s m below meth c A Q ls S hK hD hA hR hS hP hl
  have hx := S.1; have hb := S.2.1; have hml := S.2.2.1; have hown := S.2.2.2.1; have hts := S.2.2.2.2
  have hret : ∀ z, some z = some (rz, xz) → (rz, xz) = z := fun z h => (Option.some.inj h).symm
  unfold fX10_apart at h
  refine lv_aload_n hx hb dX10_apart_0 rfl (lv_at hl 0 rfl) ?_
  refine lv_iload_n hx hb dX10_apart_1 rfl (lv_at hl 1 rfl) ?_
  obtain ⟨o1, ho1, h⟩ := Option.bind_eq_some_iff.mp h
  obtain ⟨v3, x2⟩ := o1
  replace h := un2_e h
  refine bq_callVi (q0 := 0) (As := [.int _]) S hK hD hA hP hS (cX10_isSet_k_0 ho1) hd_yX10_isSet ml_X10_142 in_yX10_isSet (hts _ sl_X10_X10_yX10_isSet) ⟨rfl, rfl⟩ ⟨by decide, by decide⟩ rfl rfl rfl hl.1 rfl (Nat.le_of_ble_eq_true rfl) ⟨Nat.zero_le _, Nat.zero_le _⟩ dX10_apart_2 (fun H locs hP hS => ?_)
  refine lv_if_eq (tgt := 33) hx hb dX10_apart_5 (by decide) (fun c4 => ?_) (fun c4 => ?_)
  · replace h := (if_pos c4).symm.trans h
    refine lv_iconst (v := (-1 : Int32)) hx hb dX10_apart_33 (by decide) ?_
    obtain ⟨e1, e2⟩ := Prod.mk.inj (hret _ h)
    exact hR _ _ _ _ _ (congrArg some e1) rfl (by rw [e2]; exact hP) hS dX10_apart_34
  · replace h := (if_neg c4).symm.trans h
    refine lv_aload_n hx hb dX10_apart_8 rfl (lv_at hl 0 rfl) ?_
    refine lv_iload_n hx hb dX10_apart_9 rfl (lv_at hl 2 rfl) ?_
    refine lv_iload_n hx hb dX10_apart_10 rfl (lv_at hl 3 rfl) ?_
    obtain ⟨o5, ho5, h⟩ := Option.bind_eq_some_iff.mp h
    obtain ⟨v7, x6⟩ := o5
    replace h := un2_e h
    refine bq_callVi (q0 := 0) (As := [.int _, .int _]) S hK hD hA hP hS (cX10_areTwo_k_0 ho5) hd_yX10_areTwo ml_X10_79 in_yX10_areTwo (hts _ sl_X10_X10_yX10_areTwo) ⟨rfl, rfl⟩ ⟨by decide, by decide⟩ rfl rfl rfl hl.1 rfl (Nat.le_of_ble_eq_true rfl) ⟨Nat.zero_le _, Nat.zero_le _⟩ dX10_apart_11 (fun H locs hP hS => ?_)
    refine lv_if_eq (tgt := 33) hx hb dX10_apart_14 (by decide) (fun c8 => ?_) (fun c8 => ?_)
    · replace h := (if_pos c8).symm.trans h
      refine lv_iconst (v := (-1 : Int32)) hx hb dX10_apart_33 (by decide) ?_
      obtain ⟨e1, e2⟩ := Prod.mk.inj (hret _ h)
      exact hR _ _ _ _ _ (congrArg some e1) rfl (by rw [e2]; exact hP) hS dX10_apart_34
    · replace h := (if_neg c8).symm.trans h
      refine lv_iload_n hx hb dX10_apart_17 rfl (lv_at hl 1 rfl) ?_
      refine lv_iload_n hx hb dX10_apart_18 rfl (lv_at hl 2 rfl) ?_
      refine lv_ishr hx hb dX10_apart_19 ?_
      refine lv_iconst (v := (1 : Int32)) hx hb dX10_apart_20 (by decide) ?_
      refine lv_iand hx hb dX10_apart_21 ?_
      refine lv_if_eq (tgt := 33) hx hb dX10_apart_22 (by decide) (fun c9 => ?_) (fun c9 => ?_)
      · replace h := (if_pos c9).symm.trans h
        refine lv_iconst (v := (-1 : Int32)) hx hb dX10_apart_33 (by decide) ?_
        obtain ⟨e1, e2⟩ := Prod.mk.inj (hret _ h)
        exact hR _ _ _ _ _ (congrArg some e1) rfl (by rw [e2]; exact hP) hS dX10_apart_34
      · replace h := (if_neg c9).symm.trans h
        refine lv_iload_n hx hb dX10_apart_25 rfl (lv_at hl 1 rfl) ?_
        refine lv_iload_n hx hb dX10_apart_26 rfl (lv_at hl 3 rfl) ?_
        refine lv_ishr hx hb dX10_apart_27 ?_
        refine lv_iconst (v := (1 : Int32)) hx hb dX10_apart_28 (by decide) ?_
        refine lv_iand hx hb dX10_apart_29 ?_
        refine lv_if_ne (tgt := 35) hx hb dX10_apart_30 (by decide) (fun c10 => ?_) (fun c10 => ?_)
        · replace h := (if_neg c10).symm.trans h
          refine lv_bipush (v := (-4 : Int32)) hx hb dX10_apart_35 (by decide) ?_
          refine lv_istore (lv' := [(4, .int (-4 : Int32)), (0, .ref (a 0)), (1, .int p1), (2, .int p2), (3, .int p3)]) hx hb dX10_apart_37 hl (by decide) rfl (fun ls hl => ?_)
          refine lv_aload_n hx hb dX10_apart_39 rfl (lv_at hl 1 rfl) ?_
          refine lv_iload_n hx hb dX10_apart_40 rfl (lv_at hl 2 rfl) ?_
          obtain ⟨x12, ho11, h⟩ := Option.bind_eq_some_iff.mp h
          refine bq_callVv (q0 := 0) (As := [.int _]) S hK hD hA hP hS (cX10_first_k_0 ho11) hd_yX10_first ml_X10_145 in_yX10_first (hts _ sl_X10_X10_yX10_first) ⟨rfl, rfl⟩ ⟨by decide, by decide⟩ rfl rfl rfl hl.1 rfl (Nat.le_of_ble_eq_true rfl) ⟨Nat.zero_le _, Nat.zero_le _⟩ dX10_apart_41 (fun H locs hP hS => ?_)
          refine lv_iconst (v := (1 : Int32)) hx hb dX10_apart_44 (by decide) ?_
          refine lv_istore (lv' := [(5, .int (1 : Int32)), (4, .int (-4 : Int32)), (0, .ref (a 0)), (1, .int p1), (2, .int p2), (3, .int p3)]) hx hb dX10_apart_45 hl (by decide) rfl (fun ls hl => ?_)
          have hl47 : ∀ (v13 : Int32) (v14 : Int32) (kf : Nat) (v15 : Int32) (v16 : Int32) (x17 : bq_S) (eo : Int32 × Int32 × bq_S) (H : Heap) (locs : List Loc) (ls : Array Slot), wh kf (fX10_apart_b47 n v13 v14) (v15, v16, x17) = some eo → va_P D bq_cl (bq_wM a k x17) H → va_S A s.heap H locs → lv_has ls 10 [(0, .ref (a 0)), (2, .int v13), (3, .int v14), (4, .int v15), (5, .int v16)] → (∀ (H : Heap) (locs : List Loc) (ls : Array Slot) (v62 : Int32) (v63 : Int32) (x64 : bq_S), eo = (v62, v63, x64) → va_P D bq_cl (bq_wM a k x64) H → va_S A s.heap H locs → lv_has ls 10 [(4, .int v62)] → W p l e { frames := 3, cells := 0, slots := 0, locals := 68 } s m [.ref (a 0), .int p1, .int p2, .int p3].toArray below meth c H locs 0 0 Q (F0 m 210 ls [])) → W p l e { frames := 3, cells := 0, slots := 0, locals := 68 } s m [.ref (a 0), .int p1, .int p2, .int p3].toArray below meth c H locs 0 0 Q (F0 m 47 ls []) := by
            intro v13 v14 kf
            induction kf with
            | zero => intro v15 v16 x17 eo H locs ls h; cases h
            | succ kf ih =>
              intro v15 v16 x17 eo H locs ls h hP hS hl kx
              obtain ⟨out, h, hw⟩ := wh_s h
              unfold fX10_apart_b47 at h
              replace h := un3_e h
              have hj199 : ∀ (v54 : Int32) (x55 : bq_S) (H : Heap) (locs : List Loc) (ls : Array Slot), fX10_apart_j199 n v13 v14 v54 x55 = some out → va_P D bq_cl (bq_wM a k x55) H → va_S A s.heap H locs → lv_has ls 10 [(0, .ref (a 0)), (2, .int v13), (3, .int v14)] → W p l e { frames := 3, cells := 0, slots := 0, locals := 68 } s m [.ref (a 0), .int p1, .int p2, .int p3].toArray below meth c H locs 0 0 Q (F0 m 199 ls [.int v54]) := by
                intro v54 x55 H locs ls h hP hS hl
                unfold fX10_apart_j199 at h
                refine lv_istore (lv' := [(4, .int v54), (0, .ref (a 0)), (2, .int v13), (3, .int v14)]) hx hb dX10_apart_199 hl (by decide) rfl (fun ls hl => ?_)
                refine lv_aload_n hx hb dX10_apart_201 rfl (lv_at hl 1 rfl) ?_
                obtain ⟨o56, ho56, h⟩ := Option.bind_eq_some_iff.mp h
                obtain ⟨v58, x57⟩ := o56
                replace h := un2_e h
                refine bq_callVi (q0 := 0) (As := []) S hK hD hA hP hS (cX10_next_k_0 ho56) hd_yX10_next ml_X10_148 in_yX10_next (hts _ sl_X10_X10_yX10_next) ⟨rfl, rfl⟩ ⟨by decide, by decide⟩ rfl rfl rfl hl.1 rfl (Nat.le_of_ble_eq_true rfl) ⟨Nat.zero_le _, Nat.zero_le _⟩ dX10_apart_202 (fun H locs hP hS => ?_)
                refine lv_istore (lv' := [(5, .int v58), (4, .int v54), (0, .ref (a 0)), (2, .int v13), (3, .int v14)]) hx hb dX10_apart_205 hl (by decide) rfl (fun ls hl => ?_)
                refine lv_goto (tgt := 47) hx hb dX10_apart_207 (by decide) ?_
                cases h
                exact ih _ _ _ _ _ _ _ hw hP hS (lv_sub hl [2, 3, 4, 1, 0] rfl) kx
              have hj176 : ∀ (v47 : Int32) (v48 : Int32) (x49 : bq_S) (H : Heap) (locs : List Loc) (ls : Array Slot), fX10_apart_j176 n v13 v14 v47 v48 x49 = some out → va_P D bq_cl (bq_wM a k x49) H → va_S A s.heap H locs → lv_has ls 10 [(0, .ref (a 0)), (2, .int v13), (3, .int v14), (4, .int v47)] → W p l e { frames := 3, cells := 0, slots := 0, locals := 68 } s m [.ref (a 0), .int p1, .int p2, .int p3].toArray below meth c H locs 0 0 Q (F0 m 176 ls [.int v48]) := by
                intro v47 v48 x49 H locs ls h hP hS hl
                unfold fX10_apart_j176 at h
                refine lv_istore (lv' := [(9, .int v48), (0, .ref (a 0)), (2, .int v13), (3, .int v14), (4, .int v47)]) hx hb dX10_apart_176 hl (by decide) rfl (fun ls hl => ?_)
                refine lv_aload_n hx hb dX10_apart_178 rfl (lv_at hl 1 rfl) ?_
                obtain ⟨o50, ho50, h⟩ := Option.bind_eq_some_iff.mp h
                obtain ⟨v52, x51⟩ := o50
                replace h := un2_e h
                refine bq_callVi (q0 := 0) (As := []) S hK hD hA hP hS (cX10_wrongAt_k_0 ho50) hd_yX10_wrongAt ml_X10_139 in_yX10_wrongAt (hts _ sl_X10_X10_yX10_wrongAt) ⟨rfl, rfl⟩ ⟨by decide, by decide⟩ rfl rfl rfl hl.1 rfl (Nat.le_of_ble_eq_true rfl) ⟨Nat.zero_le _, Nat.zero_le _⟩ dX10_apart_179 (fun H locs hP hS => ?_)
                refine lv_if_ge (tgt := 197) hx hb dX10_apart_182 (by decide) (fun c53 => ?_) (fun c53 => ?_)
                · replace h := (if_pos c53).symm.trans h
                  refine lv_iload hx hb dX10_apart_197 (lv_at hl 4 rfl) ?_
                  exact hj199 _ _ _ _ _ h hP hS (lv_sub hl [1, 2, 3] rfl)
                · replace h := (if_neg c53).symm.trans h
                  refine lv_iload hx hb dX10_apart_185 (lv_at hl 0 rfl) ?_
                  refine lv_iload hx hb dX10_apart_187 (lv_at hl 4 rfl) ?_
                  refine lv_icmp_le (tgt := 197) hx hb dX10_apart_189 (by decide) (fun c59 => ?_) (fun c59 => ?_)
                  · replace h := (if_pos c59).symm.trans h
                    refine lv_iload hx hb dX10_apart_197 (lv_at hl 4 rfl) ?_
                    exact hj199 _ _ _ _ _ h hP hS (lv_sub hl [1, 2, 3] rfl)
                  · replace h := (if_neg c59).symm.trans h
                    refine lv_iload hx hb dX10_apart_192 (lv_at hl 0 rfl) ?_
                    refine lv_goto (tgt := 199) hx hb dX10_apart_194 (by decide) ?_
                    exact hj199 _ _ _ _ _ h hP hS (lv_sub hl [1, 2, 3] rfl)
              have hj136 : ∀ (v43 : Int32) (v44 : Int32) (x45 : bq_S) (H : Heap) (locs : List Loc) (ls : Array Slot), fX10_apart_j136 n v13 v14 v43 v44 x45 = some out → va_P D bq_cl (bq_wM a k x45) H → va_S A s.heap H locs → lv_has ls 10 [(0, .ref (a 0)), (2, .int v13), (3, .int v14), (4, .int v43)] → W p l e { frames := 3, cells := 0, slots := 0, locals := 68 } s m [.ref (a 0), .int p1, .int p2, .int p3].toArray below meth c H locs 0 0 Q (F0 m 136 ls [.int v44]) := by
                intro v43 v44 x45 H locs ls h hP hS hl
                unfold fX10_apart_j136 at h
                refine lv_istore (lv' := [(8, .int v44), (0, .ref (a 0)), (2, .int v13), (3, .int v14), (4, .int v43)]) hx hb dX10_apart_136 hl (by decide) rfl (fun ls hl => ?_)
                refine lv_aload_n hx hb dX10_apart_138 rfl (lv_at hl 1 rfl) ?_
                refine bq_get (q0 := 0) S hK hP fl_X10_19_X10_5 rfl rfl rfl dX10_apart_139 ?_
                refine lv_iconst (v := (0 : Int32)) hx hb dX10_apart_142 (by decide) ?_
                refine va_iald (D := D) hx hb hK hP 4 0 rfl rfl (bq_inl rfl) dX10_apart_143 ?_
                refine lv_iconst (v := (1 : Int32)) hx hb dX10_apart_144 (by decide) ?_
                refine lv_icmp_ne (tgt := 172) hx hb dX10_apart_145 (by decide) (fun c46 => ?_) (fun c46 => ?_)
                · replace h := (if_neg c46).symm.trans h
                  refine lv_iload hx hb dX10_apart_172 (lv_at hl 0 rfl) ?_
                  refine lv_iconst (v := (1 : Int32)) hx hb dX10_apart_174 (by decide) ?_
                  refine lv_isub hx hb dX10_apart_175 ?_
                  exact hj176 _ _ _ _ _ _ h hP hS (lv_sub hl [1, 2, 3, 4] rfl)
                · replace h := (if_pos c46).symm.trans h
                  refine lv_aload_n hx hb dX10_apart_148 rfl (lv_at hl 1 rfl) ?_
                  refine bq_get (q0 := 0) S hK hP fl_X10_133_X10_17 rfl rfl rfl dX10_apart_149 ?_
                  refine lv_iload hx hb dX10_apart_152 (lv_at hl 0 rfl) ?_
                  refine lv_isub hx hb dX10_apart_154 ?_
                  refine lv_iload hx hb dX10_apart_155 (lv_at hl 0 rfl) ?_
                  refine lv_icmp_ge (tgt := 172) hx hb dX10_apart_157 (by decide) (fun c60 => ?_) (fun c60 => ?_)
                  · replace h := (if_pos c60).symm.trans h
                    refine lv_iload hx hb dX10_apart_172 (lv_at hl 0 rfl) ?_
                    refine lv_iconst (v := (1 : Int32)) hx hb dX10_apart_174 (by decide) ?_
                    refine lv_isub hx hb dX10_apart_175 ?_
                    exact hj176 _ _ _ _ _ _ h hP hS (lv_sub hl [1, 2, 3, 4] rfl)
                  · replace h := (if_neg c60).symm.trans h
                    refine lv_aload_n hx hb dX10_apart_160 rfl (lv_at hl 1 rfl) ?_
                    refine bq_get (q0 := 0) S hK hP fl_X10_133_X10_17 rfl rfl rfl dX10_apart_161 ?_
                    refine lv_iload hx hb dX10_apart_164 (lv_at hl 0 rfl) ?_
                    refine lv_isub hx hb dX10_apart_166 ?_
                    refine lv_iconst (v := (1 : Int32)) hx hb dX10_apart_167 (by decide) ?_
                    refine lv_isub hx hb dX10_apart_168 ?_
                    refine lv_goto (tgt := 176) hx hb dX10_apart_169 (by decide) ?_
                    exact hj176 _ _ _ _ _ _ h hP hS (lv_sub hl [1, 2, 3, 4] rfl)
              refine lv_iload hx hb dX10_apart_47 (lv_at hl 4 rfl) ?_
              refine lv_if_eq (tgt := 210) hx hb dX10_apart_49 (by decide) (fun c18 => ?_) (fun c18 => ?_)
              · replace h := (if_pos c18).symm.trans h
                cases h
                exact kx _ _ _ _ _ _ (Option.some.inj hw).symm hP hS (lv_sub hl [3] rfl)
              · replace h := (if_neg c18).symm.trans h
                refine lv_iconst (v := (0 : Int32)) hx hb dX10_apart_52 (by decide) ?_
                refine lv_istore (lv' := [(6, .int (0 : Int32)), (0, .ref (a 0)), (2, .int v13), (3, .int v14), (4, .int v15), (5, .int v16)]) hx hb dX10_apart_53 hl (by decide) rfl (fun ls hl => ?_)
                refine lv_iconst (v := (0 : Int32)) hx hb dX10_apart_55 (by decide) ?_
                refine lv_istore (lv' := [(7, .int (0 : Int32)), (6, .int (0 : Int32)), (0, .ref (a 0)), (2, .int v13), (3, .int v14), (4, .int v15), (5, .int v16)]) hx hb dX10_apart_56 hl (by decide) rfl (fun ls hl => ?_)
                refine lv_iconst (v := (0 : Int32)) hx hb dX10_apart_58 (by decide) ?_
                refine lv_istore (lv' := [(8, .int (0 : Int32)), (7, .int (0 : Int32)), (6, .int (0 : Int32)), (0, .ref (a 0)), (2, .int v13), (3, .int v14), (4, .int v15), (5, .int v16)]) hx hb dX10_apart_59 hl (by decide) rfl (fun ls hl => ?_)
                have hl61 : ∀ (v19 : Int32) (v20 : Int32) (v21 : Int32) (kf : Nat) (v22 : Int32) (v23 : Int32) (v24 : Int32) (x25 : bq_S) (eo : Int32 × Int32 × Int32 × bq_S) (H : Heap) (locs : List Loc) (ls : Array Slot), wh kf (fX10_apart_b61 n v19 v20 v21) (v22, v23, v24, x25) = some eo → va_P D bq_cl (bq_wM a k x25) H → va_S A s.heap H locs → lv_has ls 10 [(0, .ref (a 0)), (2, .int v19), (3, .int v20), (4, .int v21), (6, .int v22), (7, .int v23), (8, .int v24)] → (∀ (H : Heap) (locs : List Loc) (ls : Array Slot) (v38 : Int32) (v39 : Int32) (v40 : Int32) (x41 : bq_S), eo = (v38, v39, v40, x41) → va_P D bq_cl (bq_wM a k x41) H → va_S A s.heap H locs → lv_has ls 10 [(0, .ref (a 0)), (2, .int v19), (3, .int v20), (4, .int v21), (6, .int v38), (7, .int v39)] → W p l e { frames := 3, cells := 0, slots := 0, locals := 68 } s m [.ref (a 0), .int p1, .int p2, .int p3].toArray below meth c H locs 0 0 Q (F0 m 116 ls [])) → W p l e { frames := 3, cells := 0, slots := 0, locals := 68 } s m [.ref (a 0), .int p1, .int p2, .int p3].toArray below meth c H locs 0 0 Q (F0 m 61 ls []) := by
                  intro v19 v20 v21 kf
                  induction kf with
                  | zero => intro v22 v23 v24 x25 eo H locs ls h; cases h
                  | succ kf ih =>
                    intro v22 v23 v24 x25 eo H locs ls h hP hS hl kx
                    obtain ⟨out, h, hw⟩ := wh_s h
                    unfold fX10_apart_b61 at h
                    replace h := un4_e h
                    have hj88 : ∀ (v29 : Int32) (v30 : Int32) (v31 : Int32) (x32 : bq_S) (H : Heap) (locs : List Loc) (ls : Array Slot), fX10_apart_j88 n v19 v20 v21 v29 v30 v31 x32 = some out → va_P D bq_cl (bq_wM a k x32) H → va_S A s.heap H locs → lv_has ls 10 [(0, .ref (a 0)), (2, .int v19), (3, .int v20), (4, .int v21), (7, .int v29), (8, .int v30)] → W p l e { frames := 3, cells := 0, slots := 0, locals := 68 } s m [.ref (a 0), .int p1, .int p2, .int p3].toArray below meth c H locs 0 0 Q (F0 m 88 ls [.int v31]) := by
                      intro v29 v30 v31 x32 H locs ls h hP hS hl
                      unfold fX10_apart_j88 at h
                      refine lv_istore (lv' := [(6, .int v31), (0, .ref (a 0)), (2, .int v19), (3, .int v20), (4, .int v21), (7, .int v29), (8, .int v30)]) hx hb dX10_apart_88 hl (by decide) rfl (fun ls hl => ?_)
                      refine lv_aload_n hx hb dX10_apart_90 rfl (lv_at hl 1 rfl) ?_
                      refine bq_get (q0 := 0) S hK hP fl_X10_37_X10_16 rfl rfl rfl dX10_apart_91 ?_
                      refine lv_iload hx hb dX10_apart_94 (lv_at hl 6 rfl) ?_
                      obtain ⟨g33, h⟩ := bq_gd h
                      refine va_iald (D := D) hx hb hK hP 10 0 rfl rfl g33 dX10_apart_96 ?_
                      refine lv_iload_n hx hb dX10_apart_97 rfl (lv_at hl 3 rfl) ?_
                      refine lv_icmp_ne (tgt := 106) hx hb dX10_apart_98 (by decide) (fun c34 => ?_) (fun c34 => ?_)
                      · replace h := (if_neg c34).symm.trans h
                        refine lv_iload hx hb dX10_apart_106 (lv_at hl 5 rfl) ?_
                        refine lv_istore (lv' := [(7, .int v29), (6, .int v31), (0, .ref (a 0)), (2, .int v19), (3, .int v20), (4, .int v21), (8, .int v30)]) hx hb dX10_apart_108 hl (by decide) rfl (fun ls hl => ?_)
                        obtain ⟨v35, hv35, h⟩ := bq_b h
                        refine lv_iinc (v := v35) (lv' := [(8, .int v35), (7, .int v29), (6, .int v31), (0, .ref (a 0)), (2, .int v19), (3, .int v20), (4, .int v21)]) hx hb dX10_apart_110 hl (k := 6) rfl (by rw [hv35]; rfl) (by decide) rfl (fun ls hl => ?_)
                        refine lv_goto (tgt := 61) hx hb dX10_apart_113 (by decide) ?_
                        cases h
                        exact ih _ _ _ _ _ _ _ _ hw hP hS (lv_sub hl [3, 4, 5, 6, 2, 1, 0] rfl) kx
                      · replace h := (if_pos c34).symm.trans h
                        refine lv_iload hx hb dX10_apart_101 (lv_at hl 6 rfl) ?_
                        refine lv_goto (tgt := 108) hx hb dX10_apart_103 (by decide) ?_
                        refine lv_istore (lv' := [(7, .int v30), (6, .int v31), (0, .ref (a 0)), (2, .int v19), (3, .int v20), (4, .int v21), (8, .int v30)]) hx hb dX10_apart_108 hl (by decide) rfl (fun ls hl => ?_)
                        obtain ⟨v36, hv36, h⟩ := bq_b h
                        refine lv_iinc (v := v36) (lv' := [(8, .int v36), (7, .int v30), (6, .int v31), (0, .ref (a 0)), (2, .int v19), (3, .int v20), (4, .int v21)]) hx hb dX10_apart_110 hl (k := 6) rfl (by rw [hv36]; rfl) (by decide) rfl (fun ls hl => ?_)
                        refine lv_goto (tgt := 61) hx hb dX10_apart_113 (by decide) ?_
                        cases h
                        exact ih _ _ _ _ _ _ _ _ hw hP hS (lv_sub hl [3, 4, 5, 6, 2, 1, 0] rfl) kx
                    refine lv_iload hx hb dX10_apart_61 (lv_at hl 6 rfl) ?_
                    refine lv_aload_n hx hb dX10_apart_63 rfl (lv_at hl 0 rfl) ?_
                    refine bq_get (q0 := 0) S hK hP fl_X10_133_X10_17 rfl rfl rfl dX10_apart_64 ?_
                    refine lv_icmp_ge (tgt := 116) hx hb dX10_apart_67 (by decide) (fun c26 => ?_) (fun c26 => ?_)
                    · replace h := (if_pos c26).symm.trans h
                      cases h
                      exact kx _ _ _ _ _ _ _ (Option.some.inj hw).symm hP hS (lv_sub hl [0, 1, 2, 3, 4, 5] rfl)
                    · replace h := (if_neg c26).symm.trans h
                      refine lv_aload_n hx hb dX10_apart_70 rfl (lv_at hl 0 rfl) ?_
                      refine bq_get (q0 := 0) S hK hP fl_X10_37_X10_16 rfl rfl rfl dX10_apart_71 ?_
                      refine lv_iload hx hb dX10_apart_74 (lv_at hl 6 rfl) ?_
                      obtain ⟨g27, h⟩ := bq_gd h
                      refine va_iald (D := D) hx hb hK hP 10 0 rfl rfl g27 dX10_apart_76 ?_
                      refine lv_iload_n hx hb dX10_apart_77 rfl (lv_at hl 1 rfl) ?_
                      refine lv_icmp_ne (tgt := 86) hx hb dX10_apart_78 (by decide) (fun c28 => ?_) (fun c28 => ?_)
                      · replace h := (if_neg c28).symm.trans h
                        refine lv_iload hx hb dX10_apart_86 (lv_at hl 4 rfl) ?_
                        exact hj88 _ _ _ _ _ _ _ h hP hS (lv_sub hl [0, 1, 2, 3, 5, 6] rfl)
                      · replace h := (if_pos c28).symm.trans h
                        refine lv_iload hx hb dX10_apart_81 (lv_at hl 6 rfl) ?_
                        refine lv_goto (tgt := 88) hx hb dX10_apart_83 (by decide) ?_
                        exact hj88 _ _ _ _ _ _ _ h hP hS (lv_sub hl [0, 1, 2, 3, 5, 6] rfl)
                obtain ⟨e37, he37, h⟩ := Option.bind_eq_some_iff.mp h
                refine hl61 _ _ _ n _ _ _ _ e37 _ _ _ he37 hP hS (lv_sub hl [3, 4, 5, 6, 2, 1, 0] rfl) (fun H locs ls v38 v39 v40 x41 hz hP hS hl => ?_)
                subst hz
                replace h := un4_e h
                refine lv_iload hx hb dX10_apart_116 (lv_at hl 4 rfl) ?_
                refine lv_iload hx hb dX10_apart_118 (lv_at hl 5 rfl) ?_
                refine lv_icmp_ge (tgt := 131) hx hb dX10_apart_120 (by decide) (fun c42 => ?_) (fun c42 => ?_)
                · replace h := (if_pos c42).symm.trans h
                  refine lv_iload hx hb dX10_apart_131 (lv_at hl 4 rfl) ?_
                  refine lv_iload hx hb dX10_apart_133 (lv_at hl 5 rfl) ?_
                  refine lv_isub hx hb dX10_apart_135 ?_
                  exact hj136 _ _ _ _ _ _ h hP hS (lv_sub hl [0, 1, 2, 3] rfl)
                · replace h := (if_neg c42).symm.trans h
                  refine lv_iload hx hb dX10_apart_123 (lv_at hl 5 rfl) ?_
                  refine lv_iload hx hb dX10_apart_125 (lv_at hl 4 rfl) ?_
                  refine lv_isub hx hb dX10_apart_127 ?_
                  refine lv_goto (tgt := 136) hx hb dX10_apart_128 (by decide) ?_
                  exact hj136 _ _ _ _ _ _ h hP hS (lv_sub hl [0, 1, 2, 3] rfl)
          obtain ⟨e61, he61, h⟩ := Option.bind_eq_some_iff.mp h
          refine hl47 _ _ n _ _ _ e61 _ _ _ he61 hP hS (lv_sub hl [2, 4, 5, 1, 0] rfl) (fun H locs ls v62 v63 x64 hz hP hS hl => ?_)
          subst hz
          replace h := un3_e h
          refine lv_iload hx hb dX10_apart_210 (lv_at hl 0 rfl) ?_
          obtain ⟨e1, e2⟩ := Prod.mk.inj (hret _ h)
          exact hR _ _ _ _ _ (congrArg some e1) rfl (by rw [e2]; exact hP) hS dX10_apart_212
        · replace h := (if_pos c10).symm.trans h
          refine lv_iconst (v := (-1 : Int32)) hx hb dX10_apart_33 (by decide) ?_
          obtain ⟨e1, e2⟩ := Prod.mk.inj (hret _ h)
          exact hR _ _ _ _ _ (congrArg some e1) rfl (by rw [e2]; exact hP) hS dX10_apart_34
def fX10_free_b44 (n : Nat) (v12 : Int32) (v13 : Int32) (v14 : Int32) (v : Int32 × bq_S) : Option ((Int32 × bq_S) ⊕ (Int32 × bq_S)) :=
  un2 v (fun v15 x16 =>
  if (x16.1 0 6) ≤ v15 then
  some (.inr (v15, x16))
  else
  if ((v14 >>> (v15 &&& 31)) &&& (1 : Int32)) = 0 then
  if ok_i v15 8 then
  if ok_i (x16.1 0 17) 8 then
  bd (bq_sI x16 10 (x16.1 0 17).toNatClampNeg (x16.1 5 v15.toNatClampNeg)) (fun x21 =>
  bd (bq_sI x21 0 17 ((x21.1 0 17) + (1 : Int32))) (fun x23 =>
  bd (v15 + (1 : Int32)) (fun v24 =>
  some (.inl (v24, x23)))))
  else none
  else none
  else
  bd (v15 + (1 : Int32)) (fun v19 =>
  some (.inl (v19, x16))))
def fX10_free_b26 (n : Nat) (v6 : Int32) (v : Int32 × Int32 × bq_S) : Option ((Int32 × Int32 × bq_S) ⊕ (Int32 × Int32 × bq_S)) :=
  un3 v (fun v7 v8 x9 =>
  if ((1 : Int32) <<< ((x9.1 0 6) &&& 31)) ≤ v8 then
  some (.inr (v7, v8, x9))
  else
  bd (bq_sI x9 0 17 (0 : Int32)) (fun x11 =>
  (wh n (fX10_free_b44 n v6 v7 v8) ((0 : Int32), x11)).bind (fun e25 => un2 e25 (fun v26 x27 =>
  (fX10_size n v8 x27).bind (fun o28 => un2 o28 (fun v30 x29 =>
  if v30 = v6 then
  (fX10_wrongAt n  x29).bind (fun o34 => un2 o34 (fun v36 x35 =>
  if 0 ≤ v36 then
  bd (v7 + (0 : Int32)) (fun v38 =>
  bd (v8 + (1 : Int32)) (fun v39 =>
  some (.inl (v38, v39, x35))))
  else
  bd (v7 + (1 : Int32)) (fun v40 =>
  bd (v8 + (1 : Int32)) (fun v41 =>
  some (.inl (v40, v41, x35))))))
  else
  bd (v7 + (0 : Int32)) (fun v32 =>
  bd (v8 + (1 : Int32)) (fun v33 =>
  some (.inl (v32, v33, x29))))))))))
def fX10_free (n : Nat) (p1 : Int32) (x0 : bq_S) : Option (Int32 × bq_S) :=
  (fX10_in p1.toInt64 (1 : Int64) (8 : Int64) x0).bind (fun o1 => un2 o1 (fun v3 x2 =>
  if v3 = 0 then
  some ((-1 : Int32), x2)
  else
  if p1 ≤ (x2.1 0 6) then
  (wh n (fX10_free_b26 n p1) ((0 : Int32), (0 : Int32), x2)).bind (fun e42 => un3 e42 (fun v43 v44 x45 =>
  some (v43, x45)))
  else
  some ((-1 : Int32), x2)))
theorem dX10_free_0 : decode cX10_free 0 = .ok (.iload_n 1, 1) := by decide +kernel
theorem dX10_free_1 : decode cX10_free 1 = .ok (.i2l, 1) := by decide +kernel
theorem dX10_free_2 : decode cX10_free 2 = .ok (.lconst 1, 1) := by decide +kernel
theorem dX10_free_3 : decode cX10_free 3 = .ok (.ldc2_w 86, 3) := by decide +kernel
theorem dX10_free_6 : decode cX10_free 6 = .ok (.invokestatic 66, 3) := by decide +kernel
theorem dX10_free_9 : decode cX10_free 9 = .ok (.ifCond .eq 11, 3) := by decide +kernel
theorem dX10_free_12 : decode cX10_free 12 = .ok (.iload_n 1, 1) := by decide +kernel
theorem dX10_free_13 : decode cX10_free 13 = .ok (.aload_n 0, 1) := by decide +kernel
theorem dX10_free_14 : decode cX10_free 14 = .ok (.getfield 126, 3) := by decide +kernel
theorem dX10_free_17 : decode cX10_free 17 = .ok (.if_icmp .le 5, 3) := by decide +kernel
theorem dX10_free_20 : decode cX10_free 20 = .ok (.iconst (-1), 1) := by decide +kernel
theorem dX10_free_21 : decode cX10_free 21 = .ok (.ireturn, 1) := by decide +kernel
theorem dX10_free_22 : decode cX10_free 22 = .ok (.iconst 0, 1) := by decide +kernel
theorem dX10_free_23 : decode cX10_free 23 = .ok (.istore_n 2, 1) := by decide +kernel
theorem dX10_free_24 : decode cX10_free 24 = .ok (.iconst 0, 1) := by decide +kernel
theorem dX10_free_25 : decode cX10_free 25 = .ok (.istore_n 3, 1) := by decide +kernel
theorem dX10_free_26 : decode cX10_free 26 = .ok (.iload_n 3, 1) := by decide +kernel
theorem dX10_free_27 : decode cX10_free 27 = .ok (.iconst 1, 1) := by decide +kernel
theorem dX10_free_28 : decode cX10_free 28 = .ok (.aload_n 0, 1) := by decide +kernel
theorem dX10_free_29 : decode cX10_free 29 = .ok (.getfield 126, 3) := by decide +kernel
theorem dX10_free_32 : decode cX10_free 32 = .ok (.ishl, 1) := by decide +kernel
theorem dX10_free_33 : decode cX10_free 33 = .ok (.if_icmp .ge 90, 3) := by decide +kernel
theorem dX10_free_36 : decode cX10_free 36 = .ok (.aload_n 0, 1) := by decide +kernel
theorem dX10_free_37 : decode cX10_free 37 = .ok (.iconst 0, 1) := by decide +kernel
theorem dX10_free_38 : decode cX10_free 38 = .ok (.putfield 133, 3) := by decide +kernel
theorem dX10_free_41 : decode cX10_free 41 = .ok (.iconst 0, 1) := by decide +kernel
theorem dX10_free_42 : decode cX10_free 42 = .ok (.istore 4, 2) := by decide +kernel
theorem dX10_free_44 : decode cX10_free 44 = .ok (.iload 4, 2) := by decide +kernel
theorem dX10_free_46 : decode cX10_free 46 = .ok (.aload_n 0, 1) := by decide +kernel
theorem dX10_free_47 : decode cX10_free 47 = .ok (.getfield 126, 3) := by decide +kernel
theorem dX10_free_50 : decode cX10_free 50 = .ok (.if_icmp .ge 44, 3) := by decide +kernel
theorem dX10_free_53 : decode cX10_free 53 = .ok (.iload_n 3, 1) := by decide +kernel
theorem dX10_free_54 : decode cX10_free 54 = .ok (.iload 4, 2) := by decide +kernel
theorem dX10_free_56 : decode cX10_free 56 = .ok (.ishr, 1) := by decide +kernel
theorem dX10_free_57 : decode cX10_free 57 = .ok (.iconst 1, 1) := by decide +kernel
theorem dX10_free_58 : decode cX10_free 58 = .ok (.iand, 1) := by decide +kernel
theorem dX10_free_59 : decode cX10_free 59 = .ok (.ifCond .ne 29, 3) := by decide +kernel
theorem dX10_free_62 : decode cX10_free 62 = .ok (.aload_n 0, 1) := by decide +kernel
theorem dX10_free_63 : decode cX10_free 63 = .ok (.getfield 37, 3) := by decide +kernel
theorem dX10_free_66 : decode cX10_free 66 = .ok (.aload_n 0, 1) := by decide +kernel
theorem dX10_free_67 : decode cX10_free 67 = .ok (.getfield 133, 3) := by decide +kernel
theorem dX10_free_70 : decode cX10_free 70 = .ok (.aload_n 0, 1) := by decide +kernel
theorem dX10_free_71 : decode cX10_free 71 = .ok (.getfield 22, 3) := by decide +kernel
theorem dX10_free_74 : decode cX10_free 74 = .ok (.iload 4, 2) := by decide +kernel
theorem dX10_free_76 : decode cX10_free 76 = .ok (.iaload, 1) := by decide +kernel
theorem dX10_free_77 : decode cX10_free 77 = .ok (.iastore, 1) := by decide +kernel
theorem dX10_free_78 : decode cX10_free 78 = .ok (.aload_n 0, 1) := by decide +kernel
theorem dX10_free_79 : decode cX10_free 79 = .ok (.dup, 1) := by decide +kernel
theorem dX10_free_80 : decode cX10_free 80 = .ok (.getfield 133, 3) := by decide +kernel
theorem dX10_free_83 : decode cX10_free 83 = .ok (.iconst 1, 1) := by decide +kernel
theorem dX10_free_84 : decode cX10_free 84 = .ok (.iadd, 1) := by decide +kernel
theorem dX10_free_85 : decode cX10_free 85 = .ok (.putfield 133, 3) := by decide +kernel
theorem dX10_free_88 : decode cX10_free 88 = .ok (.iinc 4 1, 3) := by decide +kernel
theorem dX10_free_91 : decode cX10_free 91 = .ok (.goto (-47), 3) := by decide +kernel
theorem dX10_free_94 : decode cX10_free 94 = .ok (.iload_n 2, 1) := by decide +kernel
theorem dX10_free_95 : decode cX10_free 95 = .ok (.iload_n 3, 1) := by decide +kernel
theorem dX10_free_96 : decode cX10_free 96 = .ok (.invokestatic 129, 3) := by decide +kernel
theorem dX10_free_99 : decode cX10_free 99 = .ok (.iload_n 1, 1) := by decide +kernel
theorem dX10_free_100 : decode cX10_free 100 = .ok (.if_icmp .ne 14, 3) := by decide +kernel
theorem dX10_free_103 : decode cX10_free 103 = .ok (.aload_n 0, 1) := by decide +kernel
theorem dX10_free_104 : decode cX10_free 104 = .ok (.invokevirtual 139, 3) := by decide +kernel
theorem dX10_free_107 : decode cX10_free 107 = .ok (.ifCond .ge 7, 3) := by decide +kernel
theorem dX10_free_110 : decode cX10_free 110 = .ok (.iconst 1, 1) := by decide +kernel
theorem dX10_free_111 : decode cX10_free 111 = .ok (.goto 4, 3) := by decide +kernel
theorem dX10_free_114 : decode cX10_free 114 = .ok (.iconst 0, 1) := by decide +kernel
theorem dX10_free_115 : decode cX10_free 115 = .ok (.iadd, 1) := by decide +kernel
theorem dX10_free_116 : decode cX10_free 116 = .ok (.istore_n 2, 1) := by decide +kernel
theorem dX10_free_117 : decode cX10_free 117 = .ok (.iinc 3 1, 3) := by decide +kernel
theorem dX10_free_120 : decode cX10_free 120 = .ok (.goto (-94), 3) := by decide +kernel
theorem dX10_free_123 : decode cX10_free 123 = .ok (.iload_n 2, 1) := by decide +kernel
theorem dX10_free_124 : decode cX10_free 124 = .ok (.ireturn, 1) := by decide +kernel
set_option maxHeartbeats 4000000 in
set_option maxRecDepth 100000 in
theorem cX10_free_k_0 {l : Launch} {D : va_G} {a : Nat → Nat} {k : Nat → ClassId} {n : Nat} {p1 : Int32} {x0 xz : bq_S} {rz : Int32} (h : fX10_free n p1 x0 = some (rz, xz)) : bq_M l D bq_cl (bq_ty k) (bq_wM a k) yX10_free cX10_free 5 (some .int) { frames := 2, cells := 0, slots := 0, locals := 46 } [.ref (a 0), .int p1] x0 (some rz) xz := by
  refine bq_ofW RX10 [(0, .ref (a 0)), (1, .int p1)] (by decide +kernel) rfl (Nat.le_of_ble_eq_true rfl) rfl (bq_adM a k) ?_
  intro p e s m below meth c A Q ls S hK hD hA hR hS hP hl
  have hx := S.1; have hb := S.2.1; have hml := S.2.2.1; have hown := S.2.2.2.1; have hts := S.2.2.2.2
  have hret : ∀ z, some z = some (rz, xz) → (rz, xz) = z := fun z h => (Option.some.inj h).symm
  unfold fX10_free at h
  refine lv_iload_n hx hb dX10_free_0 rfl (lv_at hl 1 rfl) ?_
  refine lv_i2l hx hb dX10_free_1 rfl ?_
  refine lv_lconst (v := (1 : Int64)) hx hb dX10_free_2 (by decide) ?_
  refine lv_ldc2 hx hb hown (hts _ kl_X10_86) dX10_free_3 ?_
  obtain ⟨o1, ho1, h⟩ := Option.bind_eq_some_iff.mp h
  obtain ⟨v3, x2⟩ := o1
  replace h := un2_e h
  refine bq_callSi (As := [.long _, .long _, .long _]) S hK hD hA hP hS (cX10_in_k ho1) hd_yX10_in ml_X10_66 st_yX10_in ⟨rfl, rfl⟩ ⟨by decide, by decide⟩ rfl hl.1 rfl (Nat.le_of_ble_eq_true rfl) ⟨Nat.zero_le _, Nat.zero_le _⟩ dX10_free_6 (fun H locs hP hS => ?_)
  refine lv_if_eq (tgt := 20) hx hb dX10_free_9 (by decide) (fun c4 => ?_) (fun c4 => ?_)
  · replace h := (if_pos c4).symm.trans h
    refine lv_iconst (v := (-1 : Int32)) hx hb dX10_free_20 (by decide) ?_
    obtain ⟨e1, e2⟩ := Prod.mk.inj (hret _ h)
    exact hR _ _ _ _ _ (congrArg some e1) rfl (by rw [e2]; exact hP) hS dX10_free_21
  · replace h := (if_neg c4).symm.trans h
    refine lv_iload_n hx hb dX10_free_12 rfl (lv_at hl 1 rfl) ?_
    refine lv_aload_n hx hb dX10_free_13 rfl (lv_at hl 0 rfl) ?_
    refine bq_get (q0 := 0) S hK hP fl_X10_126_X10_6 rfl rfl rfl dX10_free_14 ?_
    refine lv_icmp_le (tgt := 22) hx hb dX10_free_17 (by decide) (fun c5 => ?_) (fun c5 => ?_)
    · replace h := (if_pos c5).symm.trans h
      refine lv_iconst (v := (0 : Int32)) hx hb dX10_free_22 (by decide) ?_
      refine lv_istore_n (lv' := [(2, .int (0 : Int32)), (0, .ref (a 0)), (1, .int p1)]) hx hb dX10_free_23 rfl hl (by decide) rfl (fun ls hl => ?_)
      refine lv_iconst (v := (0 : Int32)) hx hb dX10_free_24 (by decide) ?_
      refine lv_istore_n (lv' := [(3, .int (0 : Int32)), (2, .int (0 : Int32)), (0, .ref (a 0)), (1, .int p1)]) hx hb dX10_free_25 rfl hl (by decide) rfl (fun ls hl => ?_)
      have hl26 : ∀ (v6 : Int32) (kf : Nat) (v7 : Int32) (v8 : Int32) (x9 : bq_S) (eo : Int32 × Int32 × bq_S) (H : Heap) (locs : List Loc) (ls : Array Slot), wh kf (fX10_free_b26 n v6) (v7, v8, x9) = some eo → va_P D bq_cl (bq_wM a k x9) H → va_S A s.heap H locs → lv_has ls 5 [(0, .ref (a 0)), (1, .int v6), (2, .int v7), (3, .int v8)] → (∀ (H : Heap) (locs : List Loc) (ls : Array Slot) (v43 : Int32) (v44 : Int32) (x45 : bq_S), eo = (v43, v44, x45) → va_P D bq_cl (bq_wM a k x45) H → va_S A s.heap H locs → lv_has ls 5 [(2, .int v43)] → W p l e { frames := 2, cells := 0, slots := 0, locals := 46 } s m [.ref (a 0), .int p1].toArray below meth c H locs 0 0 Q (F0 m 123 ls [])) → W p l e { frames := 2, cells := 0, slots := 0, locals := 46 } s m [.ref (a 0), .int p1].toArray below meth c H locs 0 0 Q (F0 m 26 ls []) := by
        intro v6 kf
        induction kf with
        | zero => intro v7 v8 x9 eo H locs ls h; cases h
        | succ kf ih =>
          intro v7 v8 x9 eo H locs ls h hP hS hl kx
          obtain ⟨out, h, hw⟩ := wh_s h
          unfold fX10_free_b26 at h
          replace h := un3_e h
          refine lv_iload_n hx hb dX10_free_26 rfl (lv_at hl 3 rfl) ?_
          refine lv_iconst (v := (1 : Int32)) hx hb dX10_free_27 (by decide) ?_
          refine lv_aload_n hx hb dX10_free_28 rfl (lv_at hl 0 rfl) ?_
          refine bq_get (q0 := 0) S hK hP fl_X10_126_X10_6 rfl rfl rfl dX10_free_29 ?_
          refine lv_ishl hx hb dX10_free_32 ?_
          refine lv_icmp_ge (tgt := 123) hx hb dX10_free_33 (by decide) (fun c10 => ?_) (fun c10 => ?_)
          · replace h := (if_pos c10).symm.trans h
            cases h
            exact kx _ _ _ _ _ _ (Option.some.inj hw).symm hP hS (lv_sub hl [2] rfl)
          · replace h := (if_neg c10).symm.trans h
            refine lv_aload_n hx hb dX10_free_36 rfl (lv_at hl 0 rfl) ?_
            refine lv_iconst (v := (0 : Int32)) hx hb dX10_free_37 (by decide) ?_
            obtain ⟨x11, hx11, h⟩ := bq_b h
            refine bq_put (x1 := x11) (q0 := 0) (ty := .int) S hK hD hP hS fl_X10_133_X10_17 bt_X10 rfl (by decide +kernel) rfl rfl (Nat.le_of_ble_eq_true rfl) rfl rfl (by rw [hx11]; rfl) dX10_free_38 (fun H locs hP hS => ?_)
            refine lv_iconst (v := (0 : Int32)) hx hb dX10_free_41 (by decide) ?_
            refine lv_istore (lv' := [(4, .int (0 : Int32)), (0, .ref (a 0)), (1, .int v6), (2, .int v7), (3, .int v8)]) hx hb dX10_free_42 hl (by decide) rfl (fun ls hl => ?_)
            have hl44 : ∀ (v12 : Int32) (v13 : Int32) (v14 : Int32) (kf : Nat) (v15 : Int32) (x16 : bq_S) (eo : Int32 × bq_S) (H : Heap) (locs : List Loc) (ls : Array Slot), wh kf (fX10_free_b44 n v12 v13 v14) (v15, x16) = some eo → va_P D bq_cl (bq_wM a k x16) H → va_S A s.heap H locs → lv_has ls 5 [(0, .ref (a 0)), (1, .int v12), (2, .int v13), (3, .int v14), (4, .int v15)] → (∀ (H : Heap) (locs : List Loc) (ls : Array Slot) (v26 : Int32) (x27 : bq_S), eo = (v26, x27) → va_P D bq_cl (bq_wM a k x27) H → va_S A s.heap H locs → lv_has ls 5 [(0, .ref (a 0)), (1, .int v12), (2, .int v13), (3, .int v14)] → W p l e { frames := 2, cells := 0, slots := 0, locals := 46 } s m [.ref (a 0), .int p1].toArray below meth c H locs 0 0 Q (F0 m 94 ls [])) → W p l e { frames := 2, cells := 0, slots := 0, locals := 46 } s m [.ref (a 0), .int p1].toArray below meth c H locs 0 0 Q (F0 m 44 ls []) := by
              intro v12 v13 v14 kf
              induction kf with
              | zero => intro v15 x16 eo H locs ls h; cases h
              | succ kf ih =>
                intro v15 x16 eo H locs ls h hP hS hl kx
                obtain ⟨out, h, hw⟩ := wh_s h
                unfold fX10_free_b44 at h
                replace h := un2_e h
                refine lv_iload hx hb dX10_free_44 (lv_at hl 4 rfl) ?_
                refine lv_aload_n hx hb dX10_free_46 rfl (lv_at hl 0 rfl) ?_
                refine bq_get (q0 := 0) S hK hP fl_X10_126_X10_6 rfl rfl rfl dX10_free_47 ?_
                refine lv_icmp_ge (tgt := 94) hx hb dX10_free_50 (by decide) (fun c17 => ?_) (fun c17 => ?_)
                · replace h := (if_pos c17).symm.trans h
                  cases h
                  exact kx _ _ _ _ _ (Option.some.inj hw).symm hP hS (lv_sub hl [0, 1, 2, 3] rfl)
                · replace h := (if_neg c17).symm.trans h
                  refine lv_iload_n hx hb dX10_free_53 rfl (lv_at hl 3 rfl) ?_
                  refine lv_iload hx hb dX10_free_54 (lv_at hl 4 rfl) ?_
                  refine lv_ishr hx hb dX10_free_56 ?_
                  refine lv_iconst (v := (1 : Int32)) hx hb dX10_free_57 (by decide) ?_
                  refine lv_iand hx hb dX10_free_58 ?_
                  refine lv_if_ne (tgt := 88) hx hb dX10_free_59 (by decide) (fun c18 => ?_) (fun c18 => ?_)
                  · replace h := (if_neg c18).symm.trans h
                    obtain ⟨v19, hv19, h⟩ := bq_b h
                    refine lv_iinc (v := v19) (lv' := [(4, .int v19), (0, .ref (a 0)), (1, .int v12), (2, .int v13), (3, .int v14)]) hx hb dX10_free_88 hl (k := 4) rfl (by rw [hv19]; rfl) (by decide) rfl (fun ls hl => ?_)
                    refine lv_goto (tgt := 44) hx hb dX10_free_91 (by decide) ?_
                    cases h
                    exact ih _ _ _ _ _ _ hw hP hS (lv_sub hl [1, 2, 3, 4, 0] rfl) kx
                  · replace h := (if_pos c18).symm.trans h
                    refine lv_aload_n hx hb dX10_free_62 rfl (lv_at hl 0 rfl) ?_
                    refine bq_get (q0 := 0) S hK hP fl_X10_37_X10_16 rfl rfl rfl dX10_free_63 ?_
                    refine lv_aload_n hx hb dX10_free_66 rfl (lv_at hl 0 rfl) ?_
                    refine bq_get (q0 := 0) S hK hP fl_X10_133_X10_17 rfl rfl rfl dX10_free_67 ?_
                    refine lv_aload_n hx hb dX10_free_70 rfl (lv_at hl 0 rfl) ?_
                    refine bq_get (q0 := 0) S hK hP fl_X10_22_X10_7 rfl rfl rfl dX10_free_71 ?_
                    refine lv_iload hx hb dX10_free_74 (lv_at hl 4 rfl) ?_
                    obtain ⟨g20, h⟩ := bq_gd h
                    refine va_iald (D := D) hx hb hK hP 5 0 rfl rfl g20 dX10_free_76 ?_
                    obtain ⟨g22, h⟩ := bq_gd h
                    obtain ⟨x21, hx21, h⟩ := bq_b h
                    refine bq_iast (x1 := x21) (q0 := 10) (t0 := 0) S hK hD hP hS rfl rfl g22 (by rw [hx21]; rfl) dX10_free_77 (fun H locs hP hS => ?_)
                    refine lv_aload_n hx hb dX10_free_78 rfl (lv_at hl 0 rfl) ?_
                    refine lv_dup hx hb dX10_free_79 rfl ?_
                    refine bq_get (q0 := 0) S hK hP fl_X10_133_X10_17 rfl rfl rfl dX10_free_80 ?_
                    refine lv_iconst (v := (1 : Int32)) hx hb dX10_free_83 (by decide) ?_
                    refine lv_iadd hx hb dX10_free_84 ?_
                    obtain ⟨x23, hx23, h⟩ := bq_b h
                    refine bq_put (x1 := x23) (q0 := 0) (ty := .int) S hK hD hP hS fl_X10_133_X10_17 bt_X10 rfl (by decide +kernel) rfl rfl (Nat.le_of_ble_eq_true rfl) rfl rfl (by rw [hx23]; rfl) dX10_free_85 (fun H locs hP hS => ?_)
                    obtain ⟨v24, hv24, h⟩ := bq_b h
                    refine lv_iinc (v := v24) (lv' := [(4, .int v24), (0, .ref (a 0)), (1, .int v12), (2, .int v13), (3, .int v14)]) hx hb dX10_free_88 hl (k := 4) rfl (by rw [hv24]; rfl) (by decide) rfl (fun ls hl => ?_)
                    refine lv_goto (tgt := 44) hx hb dX10_free_91 (by decide) ?_
                    cases h
                    exact ih _ _ _ _ _ _ hw hP hS (lv_sub hl [1, 2, 3, 4, 0] rfl) kx
            obtain ⟨e25, he25, h⟩ := Option.bind_eq_some_iff.mp h
            refine hl44 _ _ _ n _ _ e25 _ _ _ he25 hP hS (lv_sub hl [1, 2, 3, 4, 0] rfl) (fun H locs ls v26 x27 hz hP hS hl => ?_)
            subst hz
            replace h := un2_e h
            refine lv_iload_n hx hb dX10_free_94 rfl (lv_at hl 2 rfl) ?_
            refine lv_iload_n hx hb dX10_free_95 rfl (lv_at hl 3 rfl) ?_
            obtain ⟨o28, ho28, h⟩ := Option.bind_eq_some_iff.mp h
            obtain ⟨v30, x29⟩ := o28
            replace h := un2_e h
            refine bq_callSi (As := [.int _]) S hK hD hA hP hS (cX10_size_k ho28) hd_yX10_size ml_X10_129 st_yX10_size ⟨rfl, rfl⟩ ⟨by decide, by decide⟩ rfl hl.1 rfl (Nat.le_of_ble_eq_true rfl) ⟨Nat.zero_le _, Nat.zero_le _⟩ dX10_free_96 (fun H locs hP hS => ?_)
            refine lv_iload_n hx hb dX10_free_99 rfl (lv_at hl 1 rfl) ?_
            refine lv_icmp_ne (tgt := 114) hx hb dX10_free_100 (by decide) (fun c31 => ?_) (fun c31 => ?_)
            · replace h := (if_neg c31).symm.trans h
              refine lv_iconst (v := (0 : Int32)) hx hb dX10_free_114 (by decide) ?_
              refine lv_iadd hx hb dX10_free_115 ?_
              refine lv_topi (fun v32 hv32 => ?_)
              replace h := bq_bv h hv32
              refine lv_istore_n (lv' := [(2, .int v32), (0, .ref (a 0)), (1, .int v6), (3, .int v8)]) hx hb dX10_free_116 rfl hl (by decide) rfl (fun ls hl => ?_)
              obtain ⟨v33, hv33, h⟩ := bq_b h
              refine lv_iinc (v := v33) (lv' := [(3, .int v33), (2, .int v32), (0, .ref (a 0)), (1, .int v6)]) hx hb dX10_free_117 hl (k := 3) rfl (by rw [hv33]; rfl) (by decide) rfl (fun ls hl => ?_)
              refine lv_goto (tgt := 26) hx hb dX10_free_120 (by decide) ?_
              cases h
              exact ih _ _ _ _ _ _ _ hw hP hS (lv_sub hl [2, 3, 1, 0] rfl) kx
            · replace h := (if_pos c31).symm.trans h
              refine lv_aload_n hx hb dX10_free_103 rfl (lv_at hl 0 rfl) ?_
              obtain ⟨o34, ho34, h⟩ := Option.bind_eq_some_iff.mp h
              obtain ⟨v36, x35⟩ := o34
              replace h := un2_e h
              refine bq_callVi (q0 := 0) (As := []) S hK hD hA hP hS (cX10_wrongAt_k_0 ho34) hd_yX10_wrongAt ml_X10_139 in_yX10_wrongAt (hts _ sl_X10_X10_yX10_wrongAt) ⟨rfl, rfl⟩ ⟨by decide, by decide⟩ rfl rfl rfl hl.1 rfl (Nat.le_of_ble_eq_true rfl) ⟨Nat.zero_le _, Nat.zero_le _⟩ dX10_free_104 (fun H locs hP hS => ?_)
              refine lv_if_ge (tgt := 114) hx hb dX10_free_107 (by decide) (fun c37 => ?_) (fun c37 => ?_)
              · replace h := (if_pos c37).symm.trans h
                refine lv_iconst (v := (0 : Int32)) hx hb dX10_free_114 (by decide) ?_
                refine lv_iadd hx hb dX10_free_115 ?_
                refine lv_topi (fun v38 hv38 => ?_)
                replace h := bq_bv h hv38
                refine lv_istore_n (lv' := [(2, .int v38), (0, .ref (a 0)), (1, .int v6), (3, .int v8)]) hx hb dX10_free_116 rfl hl (by decide) rfl (fun ls hl => ?_)
                obtain ⟨v39, hv39, h⟩ := bq_b h
                refine lv_iinc (v := v39) (lv' := [(3, .int v39), (2, .int v38), (0, .ref (a 0)), (1, .int v6)]) hx hb dX10_free_117 hl (k := 3) rfl (by rw [hv39]; rfl) (by decide) rfl (fun ls hl => ?_)
                refine lv_goto (tgt := 26) hx hb dX10_free_120 (by decide) ?_
                cases h
                exact ih _ _ _ _ _ _ _ hw hP hS (lv_sub hl [2, 3, 1, 0] rfl) kx
              · replace h := (if_neg c37).symm.trans h
                refine lv_iconst (v := (1 : Int32)) hx hb dX10_free_110 (by decide) ?_
                refine lv_goto (tgt := 115) hx hb dX10_free_111 (by decide) ?_
                refine lv_iadd hx hb dX10_free_115 ?_
                refine lv_topi (fun v40 hv40 => ?_)
                replace h := bq_bv h hv40
                refine lv_istore_n (lv' := [(2, .int v40), (0, .ref (a 0)), (1, .int v6), (3, .int v8)]) hx hb dX10_free_116 rfl hl (by decide) rfl (fun ls hl => ?_)
                obtain ⟨v41, hv41, h⟩ := bq_b h
                refine lv_iinc (v := v41) (lv' := [(3, .int v41), (2, .int v40), (0, .ref (a 0)), (1, .int v6)]) hx hb dX10_free_117 hl (k := 3) rfl (by rw [hv41]; rfl) (by decide) rfl (fun ls hl => ?_)
                refine lv_goto (tgt := 26) hx hb dX10_free_120 (by decide) ?_
                cases h
                exact ih _ _ _ _ _ _ _ hw hP hS (lv_sub hl [2, 3, 1, 0] rfl) kx
      obtain ⟨e42, he42, h⟩ := Option.bind_eq_some_iff.mp h
      refine hl26 _ n _ _ _ e42 _ _ _ he42 hP hS (lv_sub hl [2, 3, 1, 0] rfl) (fun H locs ls v43 v44 x45 hz hP hS hl => ?_)
      subst hz
      replace h := un3_e h
      refine lv_iload_n hx hb dX10_free_123 rfl (lv_at hl 0 rfl) ?_
      obtain ⟨e1, e2⟩ := Prod.mk.inj (hret _ h)
      exact hR _ _ _ _ _ (congrArg some e1) rfl (by rw [e2]; exact hP) hS dX10_free_124
    · replace h := (if_neg c5).symm.trans h
      refine lv_iconst (v := (-1 : Int32)) hx hb dX10_free_20 (by decide) ?_
      obtain ⟨e1, e2⟩ := Prod.mk.inj (hret _ h)
      exact hR _ _ _ _ _ (congrArg some e1) rfl (by rw [e2]; exact hP) hS dX10_free_21
def fX10_isBeside_j33 (v2 : Int32) (v3 : Int32) (v4 : Int32) (v5 : Int32) (x6 : bq_S) : Option (Int32 × bq_S) :=
  if v5 < 0 then
  some ((1 : Int32), x6)
  else
  if (x6.1 0 6) ≤ v5 then
  some ((1 : Int32), x6)
  else
  (fX10_in v5.toInt64 v3.toInt64 v4.toInt64 x6).bind (fun o9 => un2 o9 (fun v11 x10 =>
  if v11 = 0 then
  if ok_i v5 8 then
  (fX10_mayTouch v2 (x10.1 5 v5.toNatClampNeg) x10).bind (fun o14 => un2 o14 (fun v16 x15 =>
  if v16 = 0 then
  some ((0 : Int32), x15)
  else
  some ((1 : Int32), x15)))
  else none
  else
  some ((1 : Int32), x10)))
def fX10_isBeside (p1 : Int32) (p2 : Int32) (p3 : Int32) (p4 : Int32) (x0 : bq_S) : Option (Int32 × bq_S) :=
  if (x0.1 4 (0 : Int32).toNatClampNeg) = (1 : Int32) then
  if (x0.1 0 6) ≤ (2 : Int32) then
  fX10_isBeside_j33  p1 p3 p4 p2 x0
  else
  if ¬ (x0.1 0 6) = 0 then
  fX10_isBeside_j33  p1 p3 p4 ((p2 + (x0.1 0 6)) - (p2 + (x0.1 0 6)) / (x0.1 0 6) * (x0.1 0 6)) x0
  else none
  else
  fX10_isBeside_j33  p1 p3 p4 p2 x0
theorem dX10_isBeside_0 : decode cX10_isBeside 0 = .ok (.aload_n 0, 1) := by decide +kernel
theorem dX10_isBeside_1 : decode cX10_isBeside 1 = .ok (.getfield 19, 3) := by decide +kernel
theorem dX10_isBeside_4 : decode cX10_isBeside 4 = .ok (.iconst 0, 1) := by decide +kernel
theorem dX10_isBeside_5 : decode cX10_isBeside 5 = .ok (.iaload, 1) := by decide +kernel
theorem dX10_isBeside_6 : decode cX10_isBeside 6 = .ok (.iconst 1, 1) := by decide +kernel
theorem dX10_isBeside_7 : decode cX10_isBeside 7 = .ok (.if_icmp .ne 25, 3) := by decide +kernel
theorem dX10_isBeside_10 : decode cX10_isBeside 10 = .ok (.aload_n 0, 1) := by decide +kernel
theorem dX10_isBeside_11 : decode cX10_isBeside 11 = .ok (.getfield 126, 3) := by decide +kernel
theorem dX10_isBeside_14 : decode cX10_isBeside 14 = .ok (.iconst 2, 1) := by decide +kernel
theorem dX10_isBeside_15 : decode cX10_isBeside 15 = .ok (.if_icmp .le 17, 3) := by decide +kernel
theorem dX10_isBeside_18 : decode cX10_isBeside 18 = .ok (.iload_n 2, 1) := by decide +kernel
theorem dX10_isBeside_19 : decode cX10_isBeside 19 = .ok (.aload_n 0, 1) := by decide +kernel
theorem dX10_isBeside_20 : decode cX10_isBeside 20 = .ok (.getfield 126, 3) := by decide +kernel
theorem dX10_isBeside_23 : decode cX10_isBeside 23 = .ok (.iadd, 1) := by decide +kernel
theorem dX10_isBeside_24 : decode cX10_isBeside 24 = .ok (.aload_n 0, 1) := by decide +kernel
theorem dX10_isBeside_25 : decode cX10_isBeside 25 = .ok (.getfield 126, 3) := by decide +kernel
theorem dX10_isBeside_28 : decode cX10_isBeside 28 = .ok (.irem, 1) := by decide +kernel
theorem dX10_isBeside_29 : decode cX10_isBeside 29 = .ok (.goto 4, 3) := by decide +kernel
theorem dX10_isBeside_32 : decode cX10_isBeside 32 = .ok (.iload_n 2, 1) := by decide +kernel
theorem dX10_isBeside_33 : decode cX10_isBeside 33 = .ok (.istore 5, 2) := by decide +kernel
theorem dX10_isBeside_35 : decode cX10_isBeside 35 = .ok (.iload 5, 2) := by decide +kernel
theorem dX10_isBeside_37 : decode cX10_isBeside 37 = .ok (.ifCond .lt 41, 3) := by decide +kernel
theorem dX10_isBeside_40 : decode cX10_isBeside 40 = .ok (.iload 5, 2) := by decide +kernel
theorem dX10_isBeside_42 : decode cX10_isBeside 42 = .ok (.aload_n 0, 1) := by decide +kernel
theorem dX10_isBeside_43 : decode cX10_isBeside 43 = .ok (.getfield 126, 3) := by decide +kernel
theorem dX10_isBeside_46 : decode cX10_isBeside 46 = .ok (.if_icmp .ge 32, 3) := by decide +kernel
theorem dX10_isBeside_49 : decode cX10_isBeside 49 = .ok (.iload 5, 2) := by decide +kernel
theorem dX10_isBeside_51 : decode cX10_isBeside 51 = .ok (.i2l, 1) := by decide +kernel
theorem dX10_isBeside_52 : decode cX10_isBeside 52 = .ok (.iload_n 3, 1) := by decide +kernel
theorem dX10_isBeside_53 : decode cX10_isBeside 53 = .ok (.i2l, 1) := by decide +kernel
theorem dX10_isBeside_54 : decode cX10_isBeside 54 = .ok (.iload 4, 2) := by decide +kernel
theorem dX10_isBeside_56 : decode cX10_isBeside 56 = .ok (.i2l, 1) := by decide +kernel
theorem dX10_isBeside_57 : decode cX10_isBeside 57 = .ok (.invokestatic 66, 3) := by decide +kernel
theorem dX10_isBeside_60 : decode cX10_isBeside 60 = .ok (.ifCond .ne 18, 3) := by decide +kernel
theorem dX10_isBeside_63 : decode cX10_isBeside 63 = .ok (.aload_n 0, 1) := by decide +kernel
theorem dX10_isBeside_64 : decode cX10_isBeside 64 = .ok (.iload_n 1, 1) := by decide +kernel
theorem dX10_isBeside_65 : decode cX10_isBeside 65 = .ok (.aload_n 0, 1) := by decide +kernel
theorem dX10_isBeside_66 : decode cX10_isBeside 66 = .ok (.getfield 22, 3) := by decide +kernel
theorem dX10_isBeside_69 : decode cX10_isBeside 69 = .ok (.iload 5, 2) := by decide +kernel
theorem dX10_isBeside_71 : decode cX10_isBeside 71 = .ok (.iaload, 1) := by decide +kernel
theorem dX10_isBeside_72 : decode cX10_isBeside 72 = .ok (.invokevirtual 83, 3) := by decide +kernel
theorem dX10_isBeside_75 : decode cX10_isBeside 75 = .ok (.ifCond .eq 7, 3) := by decide +kernel
theorem dX10_isBeside_78 : decode cX10_isBeside 78 = .ok (.iconst 1, 1) := by decide +kernel
theorem dX10_isBeside_79 : decode cX10_isBeside 79 = .ok (.goto 4, 3) := by decide +kernel
theorem dX10_isBeside_82 : decode cX10_isBeside 82 = .ok (.iconst 0, 1) := by decide +kernel
theorem dX10_isBeside_83 : decode cX10_isBeside 83 = .ok (.ireturn, 1) := by decide +kernel
set_option maxHeartbeats 4000000 in
set_option maxRecDepth 100000 in
theorem cX10_isBeside_k_0 {l : Launch} {D : va_G} {a : Nat → Nat} {k : Nat → ClassId} {p1 : Int32} {p2 : Int32} {p3 : Int32} {p4 : Int32} {x0 xz : bq_S} {rz : Int32} (h : fX10_isBeside  p1 p2 p3 p4 x0 = some (rz, xz)) : bq_M l D bq_cl (bq_ty k) (bq_wM a k) yX10_isBeside cX10_isBeside 6 (some .boolean) { frames := 1, cells := 0, slots := 0, locals := 25 } [.ref (a 0), .int p1, .int p2, .int p3, .int p4] x0 (some rz) xz := by
  refine bq_ofW RX10 [(0, .ref (a 0)), (1, .int p1), (2, .int p2), (3, .int p3), (4, .int p4)] (by decide +kernel) rfl (Nat.le_of_ble_eq_true rfl) rfl (bq_adM a k) ?_
  intro p e s m below meth c A Q ls S hK hD hA hR hS hP hl
  have hx := S.1; have hb := S.2.1; have hml := S.2.2.1; have hown := S.2.2.2.1; have hts := S.2.2.2.2
  have hret : ∀ z, some z = some (rz, xz) → (rz, xz) = z := fun z h => (Option.some.inj h).symm
  unfold fX10_isBeside at h
  have hj33 : ∀ (v2 : Int32) (v3 : Int32) (v4 : Int32) (v5 : Int32) (x6 : bq_S) (H : Heap) (locs : List Loc) (ls : Array Slot), fX10_isBeside_j33  v2 v3 v4 v5 x6 = some (rz, xz) → va_P D bq_cl (bq_wM a k x6) H → va_S A s.heap H locs → lv_has ls 6 [(0, .ref (a 0)), (1, .int v2), (3, .int v3), (4, .int v4)] → W p l e { frames := 1, cells := 0, slots := 0, locals := 25 } s m [.ref (a 0), .int p1, .int p2, .int p3, .int p4].toArray below meth c H locs 0 0 Q (F0 m 33 ls [.int v5]) := by
    intro v2 v3 v4 v5 x6 H locs ls h hP hS hl
    unfold fX10_isBeside_j33 at h
    refine lv_istore (lv' := [(5, .int v5), (0, .ref (a 0)), (1, .int v2), (3, .int v3), (4, .int v4)]) hx hb dX10_isBeside_33 hl (by decide) rfl (fun ls hl => ?_)
    refine lv_iload hx hb dX10_isBeside_35 (lv_at hl 0 rfl) ?_
    refine lv_if_lt (tgt := 78) hx hb dX10_isBeside_37 (by decide) (fun c7 => ?_) (fun c7 => ?_)
    · replace h := (if_pos c7).symm.trans h
      refine lv_iconst (v := (1 : Int32)) hx hb dX10_isBeside_78 (by decide) ?_
      refine lv_goto (tgt := 83) hx hb dX10_isBeside_79 (by decide) ?_
      obtain ⟨e1, e2⟩ := Prod.mk.inj (hret _ h)
      exact hR _ _ _ _ _ (congrArg some e1) rfl (by rw [e2]; exact hP) hS dX10_isBeside_83
    · replace h := (if_neg c7).symm.trans h
      refine lv_iload hx hb dX10_isBeside_40 (lv_at hl 0 rfl) ?_
      refine lv_aload_n hx hb dX10_isBeside_42 rfl (lv_at hl 1 rfl) ?_
      refine bq_get (q0 := 0) S hK hP fl_X10_126_X10_6 rfl rfl rfl dX10_isBeside_43 ?_
      refine lv_icmp_ge (tgt := 78) hx hb dX10_isBeside_46 (by decide) (fun c8 => ?_) (fun c8 => ?_)
      · replace h := (if_pos c8).symm.trans h
        refine lv_iconst (v := (1 : Int32)) hx hb dX10_isBeside_78 (by decide) ?_
        refine lv_goto (tgt := 83) hx hb dX10_isBeside_79 (by decide) ?_
        obtain ⟨e1, e2⟩ := Prod.mk.inj (hret _ h)
        exact hR _ _ _ _ _ (congrArg some e1) rfl (by rw [e2]; exact hP) hS dX10_isBeside_83
      · replace h := (if_neg c8).symm.trans h
        refine lv_iload hx hb dX10_isBeside_49 (lv_at hl 0 rfl) ?_
        refine lv_i2l hx hb dX10_isBeside_51 rfl ?_
        refine lv_iload_n hx hb dX10_isBeside_52 rfl (lv_at hl 3 rfl) ?_
        refine lv_i2l hx hb dX10_isBeside_53 rfl ?_
        refine lv_iload hx hb dX10_isBeside_54 (lv_at hl 4 rfl) ?_
        refine lv_i2l hx hb dX10_isBeside_56 rfl ?_
        obtain ⟨o9, ho9, h⟩ := Option.bind_eq_some_iff.mp h
        obtain ⟨v11, x10⟩ := o9
        replace h := un2_e h
        refine bq_callSi (As := [.long _, .long _, .long _]) S hK hD hA hP hS (cX10_in_k ho9) hd_yX10_in ml_X10_66 st_yX10_in ⟨rfl, rfl⟩ ⟨by decide, by decide⟩ rfl hl.1 rfl (Nat.le_of_ble_eq_true rfl) ⟨Nat.zero_le _, Nat.zero_le _⟩ dX10_isBeside_57 (fun H locs hP hS => ?_)
        refine lv_if_ne (tgt := 78) hx hb dX10_isBeside_60 (by decide) (fun c12 => ?_) (fun c12 => ?_)
        · replace h := (if_neg c12).symm.trans h
          refine lv_iconst (v := (1 : Int32)) hx hb dX10_isBeside_78 (by decide) ?_
          refine lv_goto (tgt := 83) hx hb dX10_isBeside_79 (by decide) ?_
          obtain ⟨e1, e2⟩ := Prod.mk.inj (hret _ h)
          exact hR _ _ _ _ _ (congrArg some e1) rfl (by rw [e2]; exact hP) hS dX10_isBeside_83
        · replace h := (if_pos c12).symm.trans h
          refine lv_aload_n hx hb dX10_isBeside_63 rfl (lv_at hl 1 rfl) ?_
          refine lv_iload_n hx hb dX10_isBeside_64 rfl (lv_at hl 2 rfl) ?_
          refine lv_aload_n hx hb dX10_isBeside_65 rfl (lv_at hl 1 rfl) ?_
          refine bq_get (q0 := 0) S hK hP fl_X10_22_X10_7 rfl rfl rfl dX10_isBeside_66 ?_
          refine lv_iload hx hb dX10_isBeside_69 (lv_at hl 0 rfl) ?_
          obtain ⟨g13, h⟩ := bq_gd h
          refine va_iald (D := D) hx hb hK hP 5 0 rfl rfl g13 dX10_isBeside_71 ?_
          obtain ⟨o14, ho14, h⟩ := Option.bind_eq_some_iff.mp h
          obtain ⟨v16, x15⟩ := o14
          replace h := un2_e h
          refine bq_callVi (q0 := 0) (As := [.int _, .int _]) S hK hD hA hP hS (cX10_mayTouch_k_0 ho14) hd_yX10_mayTouch ml_X10_83 in_yX10_mayTouch (hts _ sl_X10_X10_yX10_mayTouch) ⟨rfl, rfl⟩ ⟨by decide, by decide⟩ rfl rfl rfl hl.1 rfl (Nat.le_of_ble_eq_true rfl) ⟨Nat.zero_le _, Nat.zero_le _⟩ dX10_isBeside_72 (fun H locs hP hS => ?_)
          refine lv_if_eq (tgt := 82) hx hb dX10_isBeside_75 (by decide) (fun c17 => ?_) (fun c17 => ?_)
          · replace h := (if_pos c17).symm.trans h
            refine lv_iconst (v := (0 : Int32)) hx hb dX10_isBeside_82 (by decide) ?_
            obtain ⟨e1, e2⟩ := Prod.mk.inj (hret _ h)
            exact hR _ _ _ _ _ (congrArg some e1) rfl (by rw [e2]; exact hP) hS dX10_isBeside_83
          · replace h := (if_neg c17).symm.trans h
            refine lv_iconst (v := (1 : Int32)) hx hb dX10_isBeside_78 (by decide) ?_
            refine lv_goto (tgt := 83) hx hb dX10_isBeside_79 (by decide) ?_
            obtain ⟨e1, e2⟩ := Prod.mk.inj (hret _ h)
            exact hR _ _ _ _ _ (congrArg some e1) rfl (by rw [e2]; exact hP) hS dX10_isBeside_83
  refine lv_aload_n hx hb dX10_isBeside_0 rfl (lv_at hl 0 rfl) ?_
  refine bq_get (q0 := 0) S hK hP fl_X10_19_X10_5 rfl rfl rfl dX10_isBeside_1 ?_
  refine lv_iconst (v := (0 : Int32)) hx hb dX10_isBeside_4 (by decide) ?_
  refine va_iald (D := D) hx hb hK hP 4 0 rfl rfl (bq_inl rfl) dX10_isBeside_5 ?_
  refine lv_iconst (v := (1 : Int32)) hx hb dX10_isBeside_6 (by decide) ?_
  refine lv_icmp_ne (tgt := 32) hx hb dX10_isBeside_7 (by decide) (fun c1 => ?_) (fun c1 => ?_)
  · replace h := (if_neg c1).symm.trans h
    refine lv_iload_n hx hb dX10_isBeside_32 rfl (lv_at hl 2 rfl) ?_
    exact hj33 _ _ _ _ _ _ _ _ h hP hS (lv_sub hl [0, 1, 3, 4] rfl)
  · replace h := (if_pos c1).symm.trans h
    refine lv_aload_n hx hb dX10_isBeside_10 rfl (lv_at hl 0 rfl) ?_
    refine bq_get (q0 := 0) S hK hP fl_X10_126_X10_6 rfl rfl rfl dX10_isBeside_11 ?_
    refine lv_iconst (v := (2 : Int32)) hx hb dX10_isBeside_14 (by decide) ?_
    refine lv_icmp_le (tgt := 32) hx hb dX10_isBeside_15 (by decide) (fun c18 => ?_) (fun c18 => ?_)
    · replace h := (if_pos c18).symm.trans h
      refine lv_iload_n hx hb dX10_isBeside_32 rfl (lv_at hl 2 rfl) ?_
      exact hj33 _ _ _ _ _ _ _ _ h hP hS (lv_sub hl [0, 1, 3, 4] rfl)
    · replace h := (if_neg c18).symm.trans h
      refine lv_iload_n hx hb dX10_isBeside_18 rfl (lv_at hl 2 rfl) ?_
      refine lv_aload_n hx hb dX10_isBeside_19 rfl (lv_at hl 0 rfl) ?_
      refine bq_get (q0 := 0) S hK hP fl_X10_126_X10_6 rfl rfl rfl dX10_isBeside_20 ?_
      refine lv_iadd hx hb dX10_isBeside_23 ?_
      refine lv_aload_n hx hb dX10_isBeside_24 rfl (lv_at hl 0 rfl) ?_
      refine bq_get (q0 := 0) S hK hP fl_X10_126_X10_6 rfl rfl rfl dX10_isBeside_25 ?_
      obtain ⟨g19, h⟩ := bq_gp h
      refine lv_irem hx hb dX10_isBeside_28 g19 ?_
      refine lv_goto (tgt := 33) hx hb dX10_isBeside_29 (by decide) ?_
      exact hj33 _ _ _ _ _ _ _ _ h hP hS (lv_sub hl [0, 1, 3, 4] rfl)
def fX10_fits_b9 (n : Nat) (v1 : Int32) (v2 : Int32) (v3 : Int32) (v : Int32 × Int32 × Int32 × bq_S) : Option ((Int32 × Int32 × Int32 × bq_S) ⊕ (Int32 × Int32 × Int32 × bq_S)) :=
  un4 v (fun v4 v5 v6 x7 =>
  if (x7.1 0 17) ≤ v6 then
  some (.inr (v4, v5, v6, x7))
  else
  if ok_i v6 8 then
  if ok_i (x7.1 10 v6.toNatClampNeg) 8 then
  bd (v4 + (x7.1 1 (x7.1 10 v6.toNatClampNeg).toNatClampNeg)) (fun v11 =>
  if v5 = 0 then
  bd (v6 + (1 : Int32)) (fun v13 =>
  some (.inl (v11, (0 : Int32), v13, x7)))
  else
  if (v6 + (1 : Int32)) = (x7.1 0 17) then
  bd (v6 + (1 : Int32)) (fun v15 =>
  some (.inl (v11, (1 : Int32), v15, x7)))
  else
  if ok_i v6 8 then
  if ok_i (v6 + (1 : Int32)) 8 then
  (fX10_mayTouch (x7.1 10 v6.toNatClampNeg) (x7.1 10 (v6 + (1 : Int32)).toNatClampNeg) x7).bind (fun o18 => un2 o18 (fun v20 x19 =>
  if v20 = 0 then
  bd (v6 + (1 : Int32)) (fun v22 =>
  some (.inl (v11, (0 : Int32), v22, x19)))
  else
  bd (v6 + (1 : Int32)) (fun v23 =>
  some (.inl (v11, (1 : Int32), v23, x19)))))
  else none
  else none)
  else none
  else none)
def fX10_fits_j180 (n : Nat) (v33 : Int32) (v34 : Int32) (x35 : bq_S) : Option (Int32 × bq_S) :=
  if v33 = 0 then
  some ((0 : Int32), x35)
  else
  if v34 = 0 then
  some ((1 : Int32), x35)
  else
  if ok_i ((x35.1 0 17) - (1 : Int32)) 8 then
  (fX10_mayTouch (x35.1 10 ((x35.1 0 17) - (1 : Int32)).toNatClampNeg) (x35.1 10 (0 : Int32).toNatClampNeg) x35).bind (fun o39 => un2 o39 (fun v41 x40 =>
  if v41 = 0 then
  some ((0 : Int32), x40)
  else
  some ((1 : Int32), x40)))
  else none
def fX10_fits_j144 (n : Nat) (v30 : Int32) (x31 : bq_S) : Option (Int32 × bq_S) :=
  if (x31.1 4 (0 : Int32).toNatClampNeg) = (1 : Int32) then
  if (x31.1 0 6) ≤ (2 : Int32) then
  fX10_fits_j180 n v30 (0 : Int32) x31
  else
  if (x31.1 0 17) = (x31.1 0 6) then
  fX10_fits_j180 n v30 (1 : Int32) x31
  else
  fX10_fits_j180 n v30 (0 : Int32) x31
  else
  fX10_fits_j180 n v30 (0 : Int32) x31
def fX10_fits (n : Nat) (p1 : Int32) (p2 : Int32) (p3 : Int32) (x0 : bq_S) : Option (Int32 × bq_S) :=
  (wh n (fX10_fits_b9 n p1 p2 p3) ((0 : Int32), (1 : Int32), (0 : Int32), x0)).bind (fun e24 => un4 e24 (fun v25 v26 v27 x28 =>
  if v26 = 0 then
  fX10_fits_j144 n (0 : Int32) x28
  else
  if v25 = p3 then
  (fX10_isBeside (x28.1 10 (0 : Int32).toNatClampNeg) (p1 - (1 : Int32)) p1 p2 x28).bind (fun o46 => un2 o46 (fun v48 x47 =>
  if v48 = 0 then
  fX10_fits_j144 n (0 : Int32) x47
  else
  if ok_i ((x47.1 0 17) - (1 : Int32)) 8 then
  (fX10_isBeside (x47.1 10 ((x47.1 0 17) - (1 : Int32)).toNatClampNeg) (p2 + (1 : Int32)) p1 p2 x47).bind (fun o51 => un2 o51 (fun v53 x52 =>
  if v53 = 0 then
  fX10_fits_j144 n (0 : Int32) x52
  else
  fX10_fits_j144 n (1 : Int32) x52))
  else none))
  else
  fX10_fits_j144 n (0 : Int32) x28))
theorem dX10_fits_0 : decode cX10_fits 0 = .ok (.iconst 0, 1) := by decide +kernel
theorem dX10_fits_1 : decode cX10_fits 1 = .ok (.istore 4, 2) := by decide +kernel
theorem dX10_fits_3 : decode cX10_fits 3 = .ok (.iconst 1, 1) := by decide +kernel
theorem dX10_fits_4 : decode cX10_fits 4 = .ok (.istore 5, 2) := by decide +kernel
theorem dX10_fits_6 : decode cX10_fits 6 = .ok (.iconst 0, 1) := by decide +kernel
theorem dX10_fits_7 : decode cX10_fits 7 = .ok (.istore 6, 2) := by decide +kernel
theorem dX10_fits_9 : decode cX10_fits 9 = .ok (.iload 6, 2) := by decide +kernel
theorem dX10_fits_11 : decode cX10_fits 11 = .ok (.aload_n 0, 1) := by decide +kernel
theorem dX10_fits_12 : decode cX10_fits 12 = .ok (.getfield 133, 3) := by decide +kernel
theorem dX10_fits_15 : decode cX10_fits 15 = .ok (.if_icmp .ge 72, 3) := by decide +kernel
theorem dX10_fits_18 : decode cX10_fits 18 = .ok (.iload 4, 2) := by decide +kernel
theorem dX10_fits_20 : decode cX10_fits 20 = .ok (.aload_n 0, 1) := by decide +kernel
theorem dX10_fits_21 : decode cX10_fits 21 = .ok (.getfield 7, 3) := by decide +kernel
theorem dX10_fits_24 : decode cX10_fits 24 = .ok (.aload_n 0, 1) := by decide +kernel
theorem dX10_fits_25 : decode cX10_fits 25 = .ok (.getfield 37, 3) := by decide +kernel
theorem dX10_fits_28 : decode cX10_fits 28 = .ok (.iload 6, 2) := by decide +kernel
theorem dX10_fits_30 : decode cX10_fits 30 = .ok (.iaload, 1) := by decide +kernel
theorem dX10_fits_31 : decode cX10_fits 31 = .ok (.iaload, 1) := by decide +kernel
theorem dX10_fits_32 : decode cX10_fits 32 = .ok (.iadd, 1) := by decide +kernel
theorem dX10_fits_33 : decode cX10_fits 33 = .ok (.istore 4, 2) := by decide +kernel
theorem dX10_fits_35 : decode cX10_fits 35 = .ok (.iload 5, 2) := by decide +kernel
theorem dX10_fits_37 : decode cX10_fits 37 = .ok (.ifCond .eq 41, 3) := by decide +kernel
theorem dX10_fits_40 : decode cX10_fits 40 = .ok (.iload 6, 2) := by decide +kernel
theorem dX10_fits_42 : decode cX10_fits 42 = .ok (.iconst 1, 1) := by decide +kernel
theorem dX10_fits_43 : decode cX10_fits 43 = .ok (.iadd, 1) := by decide +kernel
theorem dX10_fits_44 : decode cX10_fits 44 = .ok (.aload_n 0, 1) := by decide +kernel
theorem dX10_fits_45 : decode cX10_fits 45 = .ok (.getfield 133, 3) := by decide +kernel
theorem dX10_fits_48 : decode cX10_fits 48 = .ok (.if_icmp .eq 26, 3) := by decide +kernel
theorem dX10_fits_51 : decode cX10_fits 51 = .ok (.aload_n 0, 1) := by decide +kernel
theorem dX10_fits_52 : decode cX10_fits 52 = .ok (.aload_n 0, 1) := by decide +kernel
theorem dX10_fits_53 : decode cX10_fits 53 = .ok (.getfield 37, 3) := by decide +kernel
theorem dX10_fits_56 : decode cX10_fits 56 = .ok (.iload 6, 2) := by decide +kernel
theorem dX10_fits_58 : decode cX10_fits 58 = .ok (.iaload, 1) := by decide +kernel
theorem dX10_fits_59 : decode cX10_fits 59 = .ok (.aload_n 0, 1) := by decide +kernel
theorem dX10_fits_60 : decode cX10_fits 60 = .ok (.getfield 37, 3) := by decide +kernel
theorem dX10_fits_63 : decode cX10_fits 63 = .ok (.iload 6, 2) := by decide +kernel
theorem dX10_fits_65 : decode cX10_fits 65 = .ok (.iconst 1, 1) := by decide +kernel
theorem dX10_fits_66 : decode cX10_fits 66 = .ok (.iadd, 1) := by decide +kernel
theorem dX10_fits_67 : decode cX10_fits 67 = .ok (.iaload, 1) := by decide +kernel
theorem dX10_fits_68 : decode cX10_fits 68 = .ok (.invokevirtual 83, 3) := by decide +kernel
theorem dX10_fits_71 : decode cX10_fits 71 = .ok (.ifCond .eq 7, 3) := by decide +kernel
theorem dX10_fits_74 : decode cX10_fits 74 = .ok (.iconst 1, 1) := by decide +kernel
theorem dX10_fits_75 : decode cX10_fits 75 = .ok (.goto 4, 3) := by decide +kernel
theorem dX10_fits_78 : decode cX10_fits 78 = .ok (.iconst 0, 1) := by decide +kernel
theorem dX10_fits_79 : decode cX10_fits 79 = .ok (.istore 5, 2) := by decide +kernel
theorem dX10_fits_81 : decode cX10_fits 81 = .ok (.iinc 6 1, 3) := by decide +kernel
theorem dX10_fits_84 : decode cX10_fits 84 = .ok (.goto (-75), 3) := by decide +kernel
theorem dX10_fits_87 : decode cX10_fits 87 = .ok (.iload 5, 2) := by decide +kernel
theorem dX10_fits_89 : decode cX10_fits 89 = .ok (.ifCond .eq 54, 3) := by decide +kernel
theorem dX10_fits_92 : decode cX10_fits 92 = .ok (.iload 4, 2) := by decide +kernel
theorem dX10_fits_94 : decode cX10_fits 94 = .ok (.iload_n 3, 1) := by decide +kernel
theorem dX10_fits_95 : decode cX10_fits 95 = .ok (.if_icmp .ne 48, 3) := by decide +kernel
theorem dX10_fits_98 : decode cX10_fits 98 = .ok (.aload_n 0, 1) := by decide +kernel
theorem dX10_fits_99 : decode cX10_fits 99 = .ok (.aload_n 0, 1) := by decide +kernel
theorem dX10_fits_100 : decode cX10_fits 100 = .ok (.getfield 37, 3) := by decide +kernel
theorem dX10_fits_103 : decode cX10_fits 103 = .ok (.iconst 0, 1) := by decide +kernel
theorem dX10_fits_104 : decode cX10_fits 104 = .ok (.iaload, 1) := by decide +kernel
theorem dX10_fits_105 : decode cX10_fits 105 = .ok (.iload_n 1, 1) := by decide +kernel
theorem dX10_fits_106 : decode cX10_fits 106 = .ok (.iconst 1, 1) := by decide +kernel
theorem dX10_fits_107 : decode cX10_fits 107 = .ok (.isub, 1) := by decide +kernel
theorem dX10_fits_108 : decode cX10_fits 108 = .ok (.iload_n 1, 1) := by decide +kernel
theorem dX10_fits_109 : decode cX10_fits 109 = .ok (.iload_n 2, 1) := by decide +kernel
theorem dX10_fits_110 : decode cX10_fits 110 = .ok (.invokevirtual 170, 3) := by decide +kernel
theorem dX10_fits_113 : decode cX10_fits 113 = .ok (.ifCond .eq 30, 3) := by decide +kernel
theorem dX10_fits_116 : decode cX10_fits 116 = .ok (.aload_n 0, 1) := by decide +kernel
theorem dX10_fits_117 : decode cX10_fits 117 = .ok (.aload_n 0, 1) := by decide +kernel
theorem dX10_fits_118 : decode cX10_fits 118 = .ok (.getfield 37, 3) := by decide +kernel
theorem dX10_fits_121 : decode cX10_fits 121 = .ok (.aload_n 0, 1) := by decide +kernel
theorem dX10_fits_122 : decode cX10_fits 122 = .ok (.getfield 133, 3) := by decide +kernel
theorem dX10_fits_125 : decode cX10_fits 125 = .ok (.iconst 1, 1) := by decide +kernel
theorem dX10_fits_126 : decode cX10_fits 126 = .ok (.isub, 1) := by decide +kernel
theorem dX10_fits_127 : decode cX10_fits 127 = .ok (.iaload, 1) := by decide +kernel
theorem dX10_fits_128 : decode cX10_fits 128 = .ok (.iload_n 2, 1) := by decide +kernel
theorem dX10_fits_129 : decode cX10_fits 129 = .ok (.iconst 1, 1) := by decide +kernel
theorem dX10_fits_130 : decode cX10_fits 130 = .ok (.iadd, 1) := by decide +kernel
theorem dX10_fits_131 : decode cX10_fits 131 = .ok (.iload_n 1, 1) := by decide +kernel
theorem dX10_fits_132 : decode cX10_fits 132 = .ok (.iload_n 2, 1) := by decide +kernel
theorem dX10_fits_133 : decode cX10_fits 133 = .ok (.invokevirtual 170, 3) := by decide +kernel
theorem dX10_fits_136 : decode cX10_fits 136 = .ok (.ifCond .eq 7, 3) := by decide +kernel
theorem dX10_fits_139 : decode cX10_fits 139 = .ok (.iconst 1, 1) := by decide +kernel
theorem dX10_fits_140 : decode cX10_fits 140 = .ok (.goto 4, 3) := by decide +kernel
theorem dX10_fits_143 : decode cX10_fits 143 = .ok (.iconst 0, 1) := by decide +kernel
theorem dX10_fits_144 : decode cX10_fits 144 = .ok (.istore 5, 2) := by decide +kernel
theorem dX10_fits_146 : decode cX10_fits 146 = .ok (.aload_n 0, 1) := by decide +kernel
theorem dX10_fits_147 : decode cX10_fits 147 = .ok (.getfield 19, 3) := by decide +kernel
theorem dX10_fits_150 : decode cX10_fits 150 = .ok (.iconst 0, 1) := by decide +kernel
theorem dX10_fits_151 : decode cX10_fits 151 = .ok (.iaload, 1) := by decide +kernel
theorem dX10_fits_152 : decode cX10_fits 152 = .ok (.iconst 1, 1) := by decide +kernel
theorem dX10_fits_153 : decode cX10_fits 153 = .ok (.if_icmp .ne 26, 3) := by decide +kernel
theorem dX10_fits_156 : decode cX10_fits 156 = .ok (.aload_n 0, 1) := by decide +kernel
theorem dX10_fits_157 : decode cX10_fits 157 = .ok (.getfield 126, 3) := by decide +kernel
theorem dX10_fits_160 : decode cX10_fits 160 = .ok (.iconst 2, 1) := by decide +kernel
theorem dX10_fits_161 : decode cX10_fits 161 = .ok (.if_icmp .le 18, 3) := by decide +kernel
theorem dX10_fits_164 : decode cX10_fits 164 = .ok (.aload_n 0, 1) := by decide +kernel
theorem dX10_fits_165 : decode cX10_fits 165 = .ok (.getfield 133, 3) := by decide +kernel
theorem dX10_fits_168 : decode cX10_fits 168 = .ok (.aload_n 0, 1) := by decide +kernel
theorem dX10_fits_169 : decode cX10_fits 169 = .ok (.getfield 126, 3) := by decide +kernel
theorem dX10_fits_172 : decode cX10_fits 172 = .ok (.if_icmp .ne 7, 3) := by decide +kernel
theorem dX10_fits_175 : decode cX10_fits 175 = .ok (.iconst 1, 1) := by decide +kernel
theorem dX10_fits_176 : decode cX10_fits 176 = .ok (.goto 4, 3) := by decide +kernel
theorem dX10_fits_179 : decode cX10_fits 179 = .ok (.iconst 0, 1) := by decide +kernel
theorem dX10_fits_180 : decode cX10_fits 180 = .ok (.istore 6, 2) := by decide +kernel
theorem dX10_fits_182 : decode cX10_fits 182 = .ok (.iload 5, 2) := by decide +kernel
theorem dX10_fits_184 : decode cX10_fits 184 = .ok (.ifCond .eq 36, 3) := by decide +kernel
theorem dX10_fits_187 : decode cX10_fits 187 = .ok (.iload 6, 2) := by decide +kernel
theorem dX10_fits_189 : decode cX10_fits 189 = .ok (.ifCond .eq 27, 3) := by decide +kernel
theorem dX10_fits_192 : decode cX10_fits 192 = .ok (.aload_n 0, 1) := by decide +kernel
theorem dX10_fits_193 : decode cX10_fits 193 = .ok (.aload_n 0, 1) := by decide +kernel
theorem dX10_fits_194 : decode cX10_fits 194 = .ok (.getfield 37, 3) := by decide +kernel
theorem dX10_fits_197 : decode cX10_fits 197 = .ok (.aload_n 0, 1) := by decide +kernel
theorem dX10_fits_198 : decode cX10_fits 198 = .ok (.getfield 133, 3) := by decide +kernel
theorem dX10_fits_201 : decode cX10_fits 201 = .ok (.iconst 1, 1) := by decide +kernel
theorem dX10_fits_202 : decode cX10_fits 202 = .ok (.isub, 1) := by decide +kernel
theorem dX10_fits_203 : decode cX10_fits 203 = .ok (.iaload, 1) := by decide +kernel
theorem dX10_fits_204 : decode cX10_fits 204 = .ok (.aload_n 0, 1) := by decide +kernel
theorem dX10_fits_205 : decode cX10_fits 205 = .ok (.getfield 37, 3) := by decide +kernel
theorem dX10_fits_208 : decode cX10_fits 208 = .ok (.iconst 0, 1) := by decide +kernel
theorem dX10_fits_209 : decode cX10_fits 209 = .ok (.iaload, 1) := by decide +kernel
theorem dX10_fits_210 : decode cX10_fits 210 = .ok (.invokevirtual 83, 3) := by decide +kernel
theorem dX10_fits_213 : decode cX10_fits 213 = .ok (.ifCond .eq 7, 3) := by decide +kernel
theorem dX10_fits_216 : decode cX10_fits 216 = .ok (.iconst 1, 1) := by decide +kernel
theorem dX10_fits_217 : decode cX10_fits 217 = .ok (.goto 4, 3) := by decide +kernel
theorem dX10_fits_220 : decode cX10_fits 220 = .ok (.iconst 0, 1) := by decide +kernel
theorem dX10_fits_221 : decode cX10_fits 221 = .ok (.ireturn, 1) := by decide +kernel
set_option maxHeartbeats 4000000 in
set_option maxRecDepth 100000 in
theorem cX10_fits_k_0 {l : Launch} {D : va_G} {a : Nat → Nat} {k : Nat → ClassId} {n : Nat} {p1 : Int32} {p2 : Int32} {p3 : Int32} {x0 xz : bq_S} {rz : Int32} (h : fX10_fits n p1 p2 p3 x0 = some (rz, xz)) : bq_M l D bq_cl (bq_ty k) (bq_wM a k) yX10_fits cX10_fits 7 (some .boolean) { frames := 2, cells := 0, slots := 0, locals := 50 } [.ref (a 0), .int p1, .int p2, .int p3] x0 (some rz) xz := by
  refine bq_ofW RX10 [(0, .ref (a 0)), (1, .int p1), (2, .int p2), (3, .int p3)] (by decide +kernel) rfl (Nat.le_of_ble_eq_true rfl) rfl (bq_adM a k) ?_
  intro p e s m below meth c A Q ls S hK hD hA hR hS hP hl
  have hx := S.1; have hb := S.2.1; have hml := S.2.2.1; have hown := S.2.2.2.1; have hts := S.2.2.2.2
  have hret : ∀ z, some z = some (rz, xz) → (rz, xz) = z := fun z h => (Option.some.inj h).symm
  unfold fX10_fits at h
  have hj180 : ∀ (v33 : Int32) (v34 : Int32) (x35 : bq_S) (H : Heap) (locs : List Loc) (ls : Array Slot), fX10_fits_j180 n v33 v34 x35 = some (rz, xz) → va_P D bq_cl (bq_wM a k x35) H → va_S A s.heap H locs → lv_has ls 7 [(0, .ref (a 0)), (5, .int v33)] → W p l e { frames := 2, cells := 0, slots := 0, locals := 50 } s m [.ref (a 0), .int p1, .int p2, .int p3].toArray below meth c H locs 0 0 Q (F0 m 180 ls [.int v34]) := by
    intro v33 v34 x35 H locs ls h hP hS hl
    unfold fX10_fits_j180 at h
    refine lv_istore (lv' := [(6, .int v34), (0, .ref (a 0)), (5, .int v33)]) hx hb dX10_fits_180 hl (by decide) rfl (fun ls hl => ?_)
    refine lv_iload hx hb dX10_fits_182 (lv_at hl 2 rfl) ?_
    refine lv_if_eq (tgt := 220) hx hb dX10_fits_184 (by decide) (fun c36 => ?_) (fun c36 => ?_)
    · replace h := (if_pos c36).symm.trans h
      refine lv_iconst (v := (0 : Int32)) hx hb dX10_fits_220 (by decide) ?_
      obtain ⟨e1, e2⟩ := Prod.mk.inj (hret _ h)
      exact hR _ _ _ _ _ (congrArg some e1) rfl (by rw [e2]; exact hP) hS dX10_fits_221
    · replace h := (if_neg c36).symm.trans h
      refine lv_iload hx hb dX10_fits_187 (lv_at hl 0 rfl) ?_
      refine lv_if_eq (tgt := 216) hx hb dX10_fits_189 (by decide) (fun c37 => ?_) (fun c37 => ?_)
      · replace h := (if_pos c37).symm.trans h
        refine lv_iconst (v := (1 : Int32)) hx hb dX10_fits_216 (by decide) ?_
        refine lv_goto (tgt := 221) hx hb dX10_fits_217 (by decide) ?_
        obtain ⟨e1, e2⟩ := Prod.mk.inj (hret _ h)
        exact hR _ _ _ _ _ (congrArg some e1) rfl (by rw [e2]; exact hP) hS dX10_fits_221
      · replace h := (if_neg c37).symm.trans h
        refine lv_aload_n hx hb dX10_fits_192 rfl (lv_at hl 1 rfl) ?_
        refine lv_aload_n hx hb dX10_fits_193 rfl (lv_at hl 1 rfl) ?_
        refine bq_get (q0 := 0) S hK hP fl_X10_37_X10_16 rfl rfl rfl dX10_fits_194 ?_
        refine lv_aload_n hx hb dX10_fits_197 rfl (lv_at hl 1 rfl) ?_
        refine bq_get (q0 := 0) S hK hP fl_X10_133_X10_17 rfl rfl rfl dX10_fits_198 ?_
        refine lv_iconst (v := (1 : Int32)) hx hb dX10_fits_201 (by decide) ?_
        refine lv_isub hx hb dX10_fits_202 ?_
        obtain ⟨g38, h⟩ := bq_gd h
        refine va_iald (D := D) hx hb hK hP 10 0 rfl rfl g38 dX10_fits_203 ?_
        refine lv_aload_n hx hb dX10_fits_204 rfl (lv_at hl 1 rfl) ?_
        refine bq_get (q0 := 0) S hK hP fl_X10_37_X10_16 rfl rfl rfl dX10_fits_205 ?_
        refine lv_iconst (v := (0 : Int32)) hx hb dX10_fits_208 (by decide) ?_
        refine va_iald (D := D) hx hb hK hP 10 0 rfl rfl (bq_inl rfl) dX10_fits_209 ?_
        obtain ⟨o39, ho39, h⟩ := Option.bind_eq_some_iff.mp h
        obtain ⟨v41, x40⟩ := o39
        replace h := un2_e h
        refine bq_callVi (q0 := 0) (As := [.int _, .int _]) S hK hD hA hP hS (cX10_mayTouch_k_0 ho39) hd_yX10_mayTouch ml_X10_83 in_yX10_mayTouch (hts _ sl_X10_X10_yX10_mayTouch) ⟨rfl, rfl⟩ ⟨by decide, by decide⟩ rfl rfl rfl hl.1 rfl (Nat.le_of_ble_eq_true rfl) ⟨Nat.zero_le _, Nat.zero_le _⟩ dX10_fits_210 (fun H locs hP hS => ?_)
        refine lv_if_eq (tgt := 220) hx hb dX10_fits_213 (by decide) (fun c42 => ?_) (fun c42 => ?_)
        · replace h := (if_pos c42).symm.trans h
          refine lv_iconst (v := (0 : Int32)) hx hb dX10_fits_220 (by decide) ?_
          obtain ⟨e1, e2⟩ := Prod.mk.inj (hret _ h)
          exact hR _ _ _ _ _ (congrArg some e1) rfl (by rw [e2]; exact hP) hS dX10_fits_221
        · replace h := (if_neg c42).symm.trans h
          refine lv_iconst (v := (1 : Int32)) hx hb dX10_fits_216 (by decide) ?_
          refine lv_goto (tgt := 221) hx hb dX10_fits_217 (by decide) ?_
          obtain ⟨e1, e2⟩ := Prod.mk.inj (hret _ h)
          exact hR _ _ _ _ _ (congrArg some e1) rfl (by rw [e2]; exact hP) hS dX10_fits_221
  have hj144 : ∀ (v30 : Int32) (x31 : bq_S) (H : Heap) (locs : List Loc) (ls : Array Slot), fX10_fits_j144 n v30 x31 = some (rz, xz) → va_P D bq_cl (bq_wM a k x31) H → va_S A s.heap H locs → lv_has ls 7 [(0, .ref (a 0))] → W p l e { frames := 2, cells := 0, slots := 0, locals := 50 } s m [.ref (a 0), .int p1, .int p2, .int p3].toArray below meth c H locs 0 0 Q (F0 m 144 ls [.int v30]) := by
    intro v30 x31 H locs ls h hP hS hl
    unfold fX10_fits_j144 at h
    refine lv_istore (lv' := [(5, .int v30), (0, .ref (a 0))]) hx hb dX10_fits_144 hl (by decide) rfl (fun ls hl => ?_)
    refine lv_aload_n hx hb dX10_fits_146 rfl (lv_at hl 1 rfl) ?_
    refine bq_get (q0 := 0) S hK hP fl_X10_19_X10_5 rfl rfl rfl dX10_fits_147 ?_
    refine lv_iconst (v := (0 : Int32)) hx hb dX10_fits_150 (by decide) ?_
    refine va_iald (D := D) hx hb hK hP 4 0 rfl rfl (bq_inl rfl) dX10_fits_151 ?_
    refine lv_iconst (v := (1 : Int32)) hx hb dX10_fits_152 (by decide) ?_
    refine lv_icmp_ne (tgt := 179) hx hb dX10_fits_153 (by decide) (fun c32 => ?_) (fun c32 => ?_)
    · replace h := (if_neg c32).symm.trans h
      refine lv_iconst (v := (0 : Int32)) hx hb dX10_fits_179 (by decide) ?_
      exact hj180 _ _ _ _ _ _ h hP hS (lv_sub hl [1, 0] rfl)
    · replace h := (if_pos c32).symm.trans h
      refine lv_aload_n hx hb dX10_fits_156 rfl (lv_at hl 1 rfl) ?_
      refine bq_get (q0 := 0) S hK hP fl_X10_126_X10_6 rfl rfl rfl dX10_fits_157 ?_
      refine lv_iconst (v := (2 : Int32)) hx hb dX10_fits_160 (by decide) ?_
      refine lv_icmp_le (tgt := 179) hx hb dX10_fits_161 (by decide) (fun c43 => ?_) (fun c43 => ?_)
      · replace h := (if_pos c43).symm.trans h
        refine lv_iconst (v := (0 : Int32)) hx hb dX10_fits_179 (by decide) ?_
        exact hj180 _ _ _ _ _ _ h hP hS (lv_sub hl [1, 0] rfl)
      · replace h := (if_neg c43).symm.trans h
        refine lv_aload_n hx hb dX10_fits_164 rfl (lv_at hl 1 rfl) ?_
        refine bq_get (q0 := 0) S hK hP fl_X10_133_X10_17 rfl rfl rfl dX10_fits_165 ?_
        refine lv_aload_n hx hb dX10_fits_168 rfl (lv_at hl 1 rfl) ?_
        refine bq_get (q0 := 0) S hK hP fl_X10_126_X10_6 rfl rfl rfl dX10_fits_169 ?_
        refine lv_icmp_ne (tgt := 179) hx hb dX10_fits_172 (by decide) (fun c44 => ?_) (fun c44 => ?_)
        · replace h := (if_neg c44).symm.trans h
          refine lv_iconst (v := (0 : Int32)) hx hb dX10_fits_179 (by decide) ?_
          exact hj180 _ _ _ _ _ _ h hP hS (lv_sub hl [1, 0] rfl)
        · replace h := (if_pos c44).symm.trans h
          refine lv_iconst (v := (1 : Int32)) hx hb dX10_fits_175 (by decide) ?_
          refine lv_goto (tgt := 180) hx hb dX10_fits_176 (by decide) ?_
          exact hj180 _ _ _ _ _ _ h hP hS (lv_sub hl [1, 0] rfl)
  refine lv_iconst (v := (0 : Int32)) hx hb dX10_fits_0 (by decide) ?_
  refine lv_istore (lv' := [(4, .int (0 : Int32)), (0, .ref (a 0)), (1, .int p1), (2, .int p2), (3, .int p3)]) hx hb dX10_fits_1 hl (by decide) rfl (fun ls hl => ?_)
  refine lv_iconst (v := (1 : Int32)) hx hb dX10_fits_3 (by decide) ?_
  refine lv_istore (lv' := [(5, .int (1 : Int32)), (4, .int (0 : Int32)), (0, .ref (a 0)), (1, .int p1), (2, .int p2), (3, .int p3)]) hx hb dX10_fits_4 hl (by decide) rfl (fun ls hl => ?_)
  refine lv_iconst (v := (0 : Int32)) hx hb dX10_fits_6 (by decide) ?_
  refine lv_istore (lv' := [(6, .int (0 : Int32)), (5, .int (1 : Int32)), (4, .int (0 : Int32)), (0, .ref (a 0)), (1, .int p1), (2, .int p2), (3, .int p3)]) hx hb dX10_fits_7 hl (by decide) rfl (fun ls hl => ?_)
  have hl9 : ∀ (v1 : Int32) (v2 : Int32) (v3 : Int32) (kf : Nat) (v4 : Int32) (v5 : Int32) (v6 : Int32) (x7 : bq_S) (eo : Int32 × Int32 × Int32 × bq_S) (H : Heap) (locs : List Loc) (ls : Array Slot), wh kf (fX10_fits_b9 n v1 v2 v3) (v4, v5, v6, x7) = some eo → va_P D bq_cl (bq_wM a k x7) H → va_S A s.heap H locs → lv_has ls 7 [(0, .ref (a 0)), (1, .int v1), (2, .int v2), (3, .int v3), (4, .int v4), (5, .int v5), (6, .int v6)] → (∀ (H : Heap) (locs : List Loc) (ls : Array Slot) (v25 : Int32) (v26 : Int32) (v27 : Int32) (x28 : bq_S), eo = (v25, v26, v27, x28) → va_P D bq_cl (bq_wM a k x28) H → va_S A s.heap H locs → lv_has ls 7 [(0, .ref (a 0)), (1, .int v1), (2, .int v2), (3, .int v3), (4, .int v25), (5, .int v26)] → W p l e { frames := 2, cells := 0, slots := 0, locals := 50 } s m [.ref (a 0), .int p1, .int p2, .int p3].toArray below meth c H locs 0 0 Q (F0 m 87 ls [])) → W p l e { frames := 2, cells := 0, slots := 0, locals := 50 } s m [.ref (a 0), .int p1, .int p2, .int p3].toArray below meth c H locs 0 0 Q (F0 m 9 ls []) := by
    intro v1 v2 v3 kf
    induction kf with
    | zero => intro v4 v5 v6 x7 eo H locs ls h; cases h
    | succ kf ih =>
      intro v4 v5 v6 x7 eo H locs ls h hP hS hl kx
      obtain ⟨out, h, hw⟩ := wh_s h
      unfold fX10_fits_b9 at h
      replace h := un4_e h
      refine lv_iload hx hb dX10_fits_9 (lv_at hl 6 rfl) ?_
      refine lv_aload_n hx hb dX10_fits_11 rfl (lv_at hl 0 rfl) ?_
      refine bq_get (q0 := 0) S hK hP fl_X10_133_X10_17 rfl rfl rfl dX10_fits_12 ?_
      refine lv_icmp_ge (tgt := 87) hx hb dX10_fits_15 (by decide) (fun c8 => ?_) (fun c8 => ?_)
      · replace h := (if_pos c8).symm.trans h
        cases h
        exact kx _ _ _ _ _ _ _ (Option.some.inj hw).symm hP hS (lv_sub hl [0, 1, 2, 3, 4, 5] rfl)
      · replace h := (if_neg c8).symm.trans h
        refine lv_iload hx hb dX10_fits_18 (lv_at hl 4 rfl) ?_
        refine lv_aload_n hx hb dX10_fits_20 rfl (lv_at hl 0 rfl) ?_
        refine bq_get (q0 := 0) S hK hP fl_X10_7_X10_1 rfl rfl rfl dX10_fits_21 ?_
        refine lv_aload_n hx hb dX10_fits_24 rfl (lv_at hl 0 rfl) ?_
        refine bq_get (q0 := 0) S hK hP fl_X10_37_X10_16 rfl rfl rfl dX10_fits_25 ?_
        refine lv_iload hx hb dX10_fits_28 (lv_at hl 6 rfl) ?_
        obtain ⟨g9, h⟩ := bq_gd h
        refine va_iald (D := D) hx hb hK hP 10 0 rfl rfl g9 dX10_fits_30 ?_
        obtain ⟨g10, h⟩ := bq_gd h
        refine va_iald (D := D) hx hb hK hP 1 0 rfl rfl g10 dX10_fits_31 ?_
        refine lv_iadd hx hb dX10_fits_32 ?_
        refine lv_topi (fun v11 hv11 => ?_)
        replace h := bq_bv h hv11
        refine lv_istore (lv' := [(4, .int v11), (0, .ref (a 0)), (1, .int v1), (2, .int v2), (3, .int v3), (5, .int v5), (6, .int v6)]) hx hb dX10_fits_33 hl (by decide) rfl (fun ls hl => ?_)
        refine lv_iload hx hb dX10_fits_35 (lv_at hl 5 rfl) ?_
        refine lv_if_eq (tgt := 78) hx hb dX10_fits_37 (by decide) (fun c12 => ?_) (fun c12 => ?_)
        · replace h := (if_pos c12).symm.trans h
          refine lv_iconst (v := (0 : Int32)) hx hb dX10_fits_78 (by decide) ?_
          refine lv_istore (lv' := [(5, .int (0 : Int32)), (4, .int v11), (0, .ref (a 0)), (1, .int v1), (2, .int v2), (3, .int v3), (6, .int v6)]) hx hb dX10_fits_79 hl (by decide) rfl (fun ls hl => ?_)
          obtain ⟨v13, hv13, h⟩ := bq_b h
          refine lv_iinc (v := v13) (lv' := [(6, .int v13), (5, .int (0 : Int32)), (4, .int v11), (0, .ref (a 0)), (1, .int v1), (2, .int v2), (3, .int v3)]) hx hb dX10_fits_81 hl (k := 6) rfl (by rw [hv13]; rfl) (by decide) rfl (fun ls hl => ?_)
          refine lv_goto (tgt := 9) hx hb dX10_fits_84 (by decide) ?_
          cases h
          exact ih _ _ _ _ _ _ _ _ hw hP hS (lv_sub hl [3, 4, 5, 6, 2, 1, 0] rfl) kx
        · replace h := (if_neg c12).symm.trans h
          refine lv_iload hx hb dX10_fits_40 (lv_at hl 6 rfl) ?_
          refine lv_iconst (v := (1 : Int32)) hx hb dX10_fits_42 (by decide) ?_
          refine lv_iadd hx hb dX10_fits_43 ?_
          refine lv_aload_n hx hb dX10_fits_44 rfl (lv_at hl 1 rfl) ?_
          refine bq_get (q0 := 0) S hK hP fl_X10_133_X10_17 rfl rfl rfl dX10_fits_45 ?_
          refine lv_icmp_eq (tgt := 74) hx hb dX10_fits_48 (by decide) (fun c14 => ?_) (fun c14 => ?_)
          · replace h := (if_pos c14).symm.trans h
            refine lv_iconst (v := (1 : Int32)) hx hb dX10_fits_74 (by decide) ?_
            refine lv_goto (tgt := 79) hx hb dX10_fits_75 (by decide) ?_
            refine lv_istore (lv' := [(5, .int (1 : Int32)), (4, .int v11), (0, .ref (a 0)), (1, .int v1), (2, .int v2), (3, .int v3), (6, .int v6)]) hx hb dX10_fits_79 hl (by decide) rfl (fun ls hl => ?_)
            obtain ⟨v15, hv15, h⟩ := bq_b h
            refine lv_iinc (v := v15) (lv' := [(6, .int v15), (5, .int (1 : Int32)), (4, .int v11), (0, .ref (a 0)), (1, .int v1), (2, .int v2), (3, .int v3)]) hx hb dX10_fits_81 hl (k := 6) rfl (by rw [hv15]; rfl) (by decide) rfl (fun ls hl => ?_)
            refine lv_goto (tgt := 9) hx hb dX10_fits_84 (by decide) ?_
            cases h
            exact ih _ _ _ _ _ _ _ _ hw hP hS (lv_sub hl [3, 4, 5, 6, 2, 1, 0] rfl) kx
          · replace h := (if_neg c14).symm.trans h
            refine lv_aload_n hx hb dX10_fits_51 rfl (lv_at hl 1 rfl) ?_
            refine lv_aload_n hx hb dX10_fits_52 rfl (lv_at hl 1 rfl) ?_
            refine bq_get (q0 := 0) S hK hP fl_X10_37_X10_16 rfl rfl rfl dX10_fits_53 ?_
            refine lv_iload hx hb dX10_fits_56 (lv_at hl 6 rfl) ?_
            obtain ⟨g16, h⟩ := bq_gd h
            refine va_iald (D := D) hx hb hK hP 10 0 rfl rfl g16 dX10_fits_58 ?_
            refine lv_aload_n hx hb dX10_fits_59 rfl (lv_at hl 1 rfl) ?_
            refine bq_get (q0 := 0) S hK hP fl_X10_37_X10_16 rfl rfl rfl dX10_fits_60 ?_
            refine lv_iload hx hb dX10_fits_63 (lv_at hl 6 rfl) ?_
            refine lv_iconst (v := (1 : Int32)) hx hb dX10_fits_65 (by decide) ?_
            refine lv_iadd hx hb dX10_fits_66 ?_
            obtain ⟨g17, h⟩ := bq_gd h
            refine va_iald (D := D) hx hb hK hP 10 0 rfl rfl g17 dX10_fits_67 ?_
            obtain ⟨o18, ho18, h⟩ := Option.bind_eq_some_iff.mp h
            obtain ⟨v20, x19⟩ := o18
            replace h := un2_e h
            refine bq_callVi (q0 := 0) (As := [.int _, .int _]) S hK hD hA hP hS (cX10_mayTouch_k_0 ho18) hd_yX10_mayTouch ml_X10_83 in_yX10_mayTouch (hts _ sl_X10_X10_yX10_mayTouch) ⟨rfl, rfl⟩ ⟨by decide, by decide⟩ rfl rfl rfl hl.1 rfl (Nat.le_of_ble_eq_true rfl) ⟨Nat.zero_le _, Nat.zero_le _⟩ dX10_fits_68 (fun H locs hP hS => ?_)
            refine lv_if_eq (tgt := 78) hx hb dX10_fits_71 (by decide) (fun c21 => ?_) (fun c21 => ?_)
            · replace h := (if_pos c21).symm.trans h
              refine lv_iconst (v := (0 : Int32)) hx hb dX10_fits_78 (by decide) ?_
              refine lv_istore (lv' := [(5, .int (0 : Int32)), (4, .int v11), (0, .ref (a 0)), (1, .int v1), (2, .int v2), (3, .int v3), (6, .int v6)]) hx hb dX10_fits_79 hl (by decide) rfl (fun ls hl => ?_)
              obtain ⟨v22, hv22, h⟩ := bq_b h
              refine lv_iinc (v := v22) (lv' := [(6, .int v22), (5, .int (0 : Int32)), (4, .int v11), (0, .ref (a 0)), (1, .int v1), (2, .int v2), (3, .int v3)]) hx hb dX10_fits_81 hl (k := 6) rfl (by rw [hv22]; rfl) (by decide) rfl (fun ls hl => ?_)
              refine lv_goto (tgt := 9) hx hb dX10_fits_84 (by decide) ?_
              cases h
              exact ih _ _ _ _ _ _ _ _ hw hP hS (lv_sub hl [3, 4, 5, 6, 2, 1, 0] rfl) kx
            · replace h := (if_neg c21).symm.trans h
              refine lv_iconst (v := (1 : Int32)) hx hb dX10_fits_74 (by decide) ?_
              refine lv_goto (tgt := 79) hx hb dX10_fits_75 (by decide) ?_
              refine lv_istore (lv' := [(5, .int (1 : Int32)), (4, .int v11), (0, .ref (a 0)), (1, .int v1), (2, .int v2), (3, .int v3), (6, .int v6)]) hx hb dX10_fits_79 hl (by decide) rfl (fun ls hl => ?_)
              obtain ⟨v23, hv23, h⟩ := bq_b h
              refine lv_iinc (v := v23) (lv' := [(6, .int v23), (5, .int (1 : Int32)), (4, .int v11), (0, .ref (a 0)), (1, .int v1), (2, .int v2), (3, .int v3)]) hx hb dX10_fits_81 hl (k := 6) rfl (by rw [hv23]; rfl) (by decide) rfl (fun ls hl => ?_)
              refine lv_goto (tgt := 9) hx hb dX10_fits_84 (by decide) ?_
              cases h
              exact ih _ _ _ _ _ _ _ _ hw hP hS (lv_sub hl [3, 4, 5, 6, 2, 1, 0] rfl) kx
  obtain ⟨e24, he24, h⟩ := Option.bind_eq_some_iff.mp h
  refine hl9 _ _ _ n _ _ _ _ e24 _ _ _ he24 hP hS (lv_sub hl [3, 4, 5, 6, 2, 1, 0] rfl) (fun H locs ls v25 v26 v27 x28 hz hP hS hl => ?_)
  subst hz
  replace h := un4_e h
  refine lv_iload hx hb dX10_fits_87 (lv_at hl 5 rfl) ?_
  refine lv_if_eq (tgt := 143) hx hb dX10_fits_89 (by decide) (fun c29 => ?_) (fun c29 => ?_)
  · replace h := (if_pos c29).symm.trans h
    refine lv_iconst (v := (0 : Int32)) hx hb dX10_fits_143 (by decide) ?_
    exact hj144 _ _ _ _ _ h hP hS (lv_sub hl [0] rfl)
  · replace h := (if_neg c29).symm.trans h
    refine lv_iload hx hb dX10_fits_92 (lv_at hl 4 rfl) ?_
    refine lv_iload_n hx hb dX10_fits_94 rfl (lv_at hl 3 rfl) ?_
    refine lv_icmp_ne (tgt := 143) hx hb dX10_fits_95 (by decide) (fun c45 => ?_) (fun c45 => ?_)
    · replace h := (if_neg c45).symm.trans h
      refine lv_iconst (v := (0 : Int32)) hx hb dX10_fits_143 (by decide) ?_
      exact hj144 _ _ _ _ _ h hP hS (lv_sub hl [0] rfl)
    · replace h := (if_pos c45).symm.trans h
      refine lv_aload_n hx hb dX10_fits_98 rfl (lv_at hl 0 rfl) ?_
      refine lv_aload_n hx hb dX10_fits_99 rfl (lv_at hl 0 rfl) ?_
      refine bq_get (q0 := 0) S hK hP fl_X10_37_X10_16 rfl rfl rfl dX10_fits_100 ?_
      refine lv_iconst (v := (0 : Int32)) hx hb dX10_fits_103 (by decide) ?_
      refine va_iald (D := D) hx hb hK hP 10 0 rfl rfl (bq_inl rfl) dX10_fits_104 ?_
      refine lv_iload_n hx hb dX10_fits_105 rfl (lv_at hl 1 rfl) ?_
      refine lv_iconst (v := (1 : Int32)) hx hb dX10_fits_106 (by decide) ?_
      refine lv_isub hx hb dX10_fits_107 ?_
      refine lv_iload_n hx hb dX10_fits_108 rfl (lv_at hl 1 rfl) ?_
      refine lv_iload_n hx hb dX10_fits_109 rfl (lv_at hl 2 rfl) ?_
      obtain ⟨o46, ho46, h⟩ := Option.bind_eq_some_iff.mp h
      obtain ⟨v48, x47⟩ := o46
      replace h := un2_e h
      refine bq_callVi (q0 := 0) (As := [.int _, .int _, .int _, .int _]) S hK hD hA hP hS (cX10_isBeside_k_0 ho46) hd_yX10_isBeside ml_X10_170 in_yX10_isBeside (hts _ sl_X10_X10_yX10_isBeside) ⟨rfl, rfl⟩ ⟨by decide, by decide⟩ rfl rfl rfl hl.1 rfl (Nat.le_of_ble_eq_true rfl) ⟨Nat.zero_le _, Nat.zero_le _⟩ dX10_fits_110 (fun H locs hP hS => ?_)
      refine lv_if_eq (tgt := 143) hx hb dX10_fits_113 (by decide) (fun c49 => ?_) (fun c49 => ?_)
      · replace h := (if_pos c49).symm.trans h
        refine lv_iconst (v := (0 : Int32)) hx hb dX10_fits_143 (by decide) ?_
        exact hj144 _ _ _ _ _ h hP hS (lv_sub hl [0] rfl)
      · replace h := (if_neg c49).symm.trans h
        refine lv_aload_n hx hb dX10_fits_116 rfl (lv_at hl 0 rfl) ?_
        refine lv_aload_n hx hb dX10_fits_117 rfl (lv_at hl 0 rfl) ?_
        refine bq_get (q0 := 0) S hK hP fl_X10_37_X10_16 rfl rfl rfl dX10_fits_118 ?_
        refine lv_aload_n hx hb dX10_fits_121 rfl (lv_at hl 0 rfl) ?_
        refine bq_get (q0 := 0) S hK hP fl_X10_133_X10_17 rfl rfl rfl dX10_fits_122 ?_
        refine lv_iconst (v := (1 : Int32)) hx hb dX10_fits_125 (by decide) ?_
        refine lv_isub hx hb dX10_fits_126 ?_
        obtain ⟨g50, h⟩ := bq_gd h
        refine va_iald (D := D) hx hb hK hP 10 0 rfl rfl g50 dX10_fits_127 ?_
        refine lv_iload_n hx hb dX10_fits_128 rfl (lv_at hl 2 rfl) ?_
        refine lv_iconst (v := (1 : Int32)) hx hb dX10_fits_129 (by decide) ?_
        refine lv_iadd hx hb dX10_fits_130 ?_
        refine lv_iload_n hx hb dX10_fits_131 rfl (lv_at hl 1 rfl) ?_
        refine lv_iload_n hx hb dX10_fits_132 rfl (lv_at hl 2 rfl) ?_
        obtain ⟨o51, ho51, h⟩ := Option.bind_eq_some_iff.mp h
        obtain ⟨v53, x52⟩ := o51
        replace h := un2_e h
        refine bq_callVi (q0 := 0) (As := [.int _, .int _, .int _, .int _]) S hK hD hA hP hS (cX10_isBeside_k_0 ho51) hd_yX10_isBeside ml_X10_170 in_yX10_isBeside (hts _ sl_X10_X10_yX10_isBeside) ⟨rfl, rfl⟩ ⟨by decide, by decide⟩ rfl rfl rfl hl.1 rfl (Nat.le_of_ble_eq_true rfl) ⟨Nat.zero_le _, Nat.zero_le _⟩ dX10_fits_133 (fun H locs hP hS => ?_)
        refine lv_if_eq (tgt := 143) hx hb dX10_fits_136 (by decide) (fun c54 => ?_) (fun c54 => ?_)
        · replace h := (if_pos c54).symm.trans h
          refine lv_iconst (v := (0 : Int32)) hx hb dX10_fits_143 (by decide) ?_
          exact hj144 _ _ _ _ _ h hP hS (lv_sub hl [0] rfl)
        · replace h := (if_neg c54).symm.trans h
          refine lv_iconst (v := (1 : Int32)) hx hb dX10_fits_139 (by decide) ?_
          refine lv_goto (tgt := 144) hx hb dX10_fits_140 (by decide) ?_
          exact hj144 _ _ _ _ _ h hP hS (lv_sub hl [0] rfl)
