def fX10_moved_j159 (n : Nat) (v6 : Int32) (v7 : Int32) (v8 : Int32) (v13 : Int32) (v14 : Int32) (x15 : bq_S) : Option ((Int32 × bq_S) ⊕ (Int32 × bq_S)) :=
  if ok_i (((9 : Int32) * v8) + v13) 81 then
  bd (bq_sI x15 12 (((9 : Int32) * v8) + v13).toNatClampNeg v14) (fun x16 =>
  bd (v13 + (1 : Int32)) (fun v18 =>
  some (.inl (v18, x16))))
  else none
def fX10_moved_j100 (n : Nat) (v6 : Int32) (v7 : Int32) (v8 : Int32) (v24 : Int32) (v25 : Int32) (x26 : bq_S) : Option ((Int32 × bq_S) ⊕ (Int32 × bq_S)) :=
  if ok_i (((((9 : Int32) * v8) - (9 : Int32)) + v24) - (1 : Int32)) 81 then
  bd ((x26.1 12 (((((9 : Int32) * v8) - (9 : Int32)) + v24) - (1 : Int32)).toNatClampNeg) + (1 : Int32)) (fun v28 =>
  if ok_i (v8 - (1 : Int32)) 8 then
  if ok_i (v24 - (1 : Int32)) 8 then
  if (x26.1 5 (v8 - (1 : Int32)).toNatClampNeg) = (x26.1 10 (v24 - (1 : Int32)).toNatClampNeg) then
  if v28 ≤ v25 then
  fX10_moved_j159 n v6 v7 v8 v24 v25 x26
  else
  fX10_moved_j159 n v6 v7 v8 v24 v28 x26
  else
  fX10_moved_j159 n v6 v7 v8 v24 v25 x26
  else none
  else none)
  else none
def fX10_moved_b15 (n : Nat) (v6 : Int32) (v7 : Int32) (v8 : Int32) (v : Int32 × bq_S) : Option ((Int32 × bq_S) ⊕ (Int32 × bq_S)) :=
  un2 v (fun v9 x10 =>
  if (x10.1 0 17) < v9 then
  some (.inr (v9, x10))
  else
  if v8 ≤ 0 then
  fX10_moved_j159 n v6 v7 v8 v9 (0 : Int32) x10
  else
  if v9 ≤ 0 then
  fX10_moved_j159 n v6 v7 v8 v9 (0 : Int32) x10
  else
  if ok_i ((((9 : Int32) * v8) - (9 : Int32)) + v9) 81 then
  if ok_i ((((9 : Int32) * v8) + v9) - (1 : Int32)) 81 then
  if (x10.1 12 ((((9 : Int32) * v8) - (9 : Int32)) + v9).toNatClampNeg) ≤ (x10.1 12 ((((9 : Int32) * v8) + v9) - (1 : Int32)).toNatClampNeg) then
  if ok_i ((((9 : Int32) * v8) + v9) - (1 : Int32)) 81 then
  fX10_moved_j100 n v6 v7 v8 v9 (x10.1 12 ((((9 : Int32) * v8) + v9) - (1 : Int32)).toNatClampNeg) x10
  else none
  else
  if ok_i ((((9 : Int32) * v8) - (9 : Int32)) + v9) 81 then
  fX10_moved_j100 n v6 v7 v8 v9 (x10.1 12 ((((9 : Int32) * v8) - (9 : Int32)) + v9).toNatClampNeg) x10
  else none
  else none
  else none)
def fX10_moved_b4 (n : Nat) (v1 : Int32) (v2 : Int32) (v : Int32 × bq_S) : Option ((Int32 × bq_S) ⊕ (Int32 × bq_S)) :=
  un2 v (fun v3 x4 =>
  if (x4.1 0 6) < v3 then
  some (.inr (v3, x4))
  else
  (wh n (fX10_moved_b15 n v1 v2 v3) ((0 : Int32), x4)).bind (fun e34 => un2 e34 (fun v35 x36 =>
  bd (v3 + (1 : Int32)) (fun v37 =>
  some (.inl (v37, x36))))))
def fX10_moved_b187 (n : Nat) (v41 : Int32) (v : Int32 × Int32 × bq_S) : Option ((Int32 × Int32 × bq_S) ⊕ (Int32 × Int32 × bq_S)) :=
  un3 v (fun v42 v43 x44 =>
  if (x44.1 0 6) ≤ v43 then
  some (.inr (v42, v43, x44))
  else
  if ok_i v43 8 then
  if (x44.1 5 v43.toNatClampNeg) = v41 then
  bd (v42 + (0 : Int32)) (fun v50 =>
  bd (v43 + (1 : Int32)) (fun v51 =>
  some (.inl (v50, v51, x44))))
  else
  bd (v42 + (1 : Int32)) (fun v48 =>
  bd (v43 + (1 : Int32)) (fun v49 =>
  some (.inl (v48, v49, x44))))
  else none)
def fX10_moved (n : Nat) (p1 : Int32) (x0 : bq_S) : Option (Int32 × bq_S) :=
  (wh n (fX10_moved_b4 n p1 (0 : Int32)) ((0 : Int32), x0)).bind (fun e38 => un2 e38 (fun v39 x40 =>
  (wh n (fX10_moved_b187 n p1) ((0 : Int32), (0 : Int32), x40)).bind (fun e52 => un3 e52 (fun v53 v54 x55 =>
  if ok_i (((9 : Int32) * (x55.1 0 6)) + (x55.1 0 17)) 81 then
  some ((v53 - (x55.1 12 (((9 : Int32) * (x55.1 0 6)) + (x55.1 0 17)).toNatClampNeg)), x55)
  else none))))
theorem dX10_moved_0 : decode cX10_moved 0 = .ok (.iconst 0, 1) := by decide +kernel
theorem dX10_moved_1 : decode cX10_moved 1 = .ok (.istore_n 2, 1) := by decide +kernel
theorem dX10_moved_2 : decode cX10_moved 2 = .ok (.iconst 0, 1) := by decide +kernel
theorem dX10_moved_3 : decode cX10_moved 3 = .ok (.istore_n 3, 1) := by decide +kernel
theorem dX10_moved_4 : decode cX10_moved 4 = .ok (.iload_n 3, 1) := by decide +kernel
theorem dX10_moved_5 : decode cX10_moved 5 = .ok (.aload_n 0, 1) := by decide +kernel
theorem dX10_moved_6 : decode cX10_moved 6 = .ok (.getfield 126, 3) := by decide +kernel
theorem dX10_moved_9 : decode cX10_moved 9 = .ok (.if_icmp .gt 176, 3) := by decide +kernel
theorem dX10_moved_12 : decode cX10_moved 12 = .ok (.iconst 0, 1) := by decide +kernel
theorem dX10_moved_13 : decode cX10_moved 13 = .ok (.istore 4, 2) := by decide +kernel
theorem dX10_moved_15 : decode cX10_moved 15 = .ok (.iload 4, 2) := by decide +kernel
theorem dX10_moved_17 : decode cX10_moved 17 = .ok (.aload_n 0, 1) := by decide +kernel
theorem dX10_moved_18 : decode cX10_moved 18 = .ok (.getfield 133, 3) := by decide +kernel
theorem dX10_moved_21 : decode cX10_moved 21 = .ok (.if_icmp .gt 158, 3) := by decide +kernel
theorem dX10_moved_24 : decode cX10_moved 24 = .ok (.iconst 0, 1) := by decide +kernel
theorem dX10_moved_25 : decode cX10_moved 25 = .ok (.istore 5, 2) := by decide +kernel
theorem dX10_moved_27 : decode cX10_moved 27 = .ok (.iload_n 3, 1) := by decide +kernel
theorem dX10_moved_28 : decode cX10_moved 28 = .ok (.ifCond .le 131, 3) := by decide +kernel
theorem dX10_moved_31 : decode cX10_moved 31 = .ok (.iload 4, 2) := by decide +kernel
theorem dX10_moved_33 : decode cX10_moved 33 = .ok (.ifCond .le 126, 3) := by decide +kernel
theorem dX10_moved_36 : decode cX10_moved 36 = .ok (.aload_n 0, 1) := by decide +kernel
theorem dX10_moved_37 : decode cX10_moved 37 = .ok (.getfield 43, 3) := by decide +kernel
theorem dX10_moved_40 : decode cX10_moved 40 = .ok (.bipush 9, 2) := by decide +kernel
theorem dX10_moved_42 : decode cX10_moved 42 = .ok (.iload_n 3, 1) := by decide +kernel
theorem dX10_moved_43 : decode cX10_moved 43 = .ok (.imul, 1) := by decide +kernel
theorem dX10_moved_44 : decode cX10_moved 44 = .ok (.bipush 9, 2) := by decide +kernel
theorem dX10_moved_46 : decode cX10_moved 46 = .ok (.isub, 1) := by decide +kernel
theorem dX10_moved_47 : decode cX10_moved 47 = .ok (.iload 4, 2) := by decide +kernel
theorem dX10_moved_49 : decode cX10_moved 49 = .ok (.iadd, 1) := by decide +kernel
theorem dX10_moved_50 : decode cX10_moved 50 = .ok (.iaload, 1) := by decide +kernel
theorem dX10_moved_51 : decode cX10_moved 51 = .ok (.aload_n 0, 1) := by decide +kernel
theorem dX10_moved_52 : decode cX10_moved 52 = .ok (.getfield 43, 3) := by decide +kernel
theorem dX10_moved_55 : decode cX10_moved 55 = .ok (.bipush 9, 2) := by decide +kernel
theorem dX10_moved_57 : decode cX10_moved 57 = .ok (.iload_n 3, 1) := by decide +kernel
theorem dX10_moved_58 : decode cX10_moved 58 = .ok (.imul, 1) := by decide +kernel
theorem dX10_moved_59 : decode cX10_moved 59 = .ok (.iload 4, 2) := by decide +kernel
theorem dX10_moved_61 : decode cX10_moved 61 = .ok (.iadd, 1) := by decide +kernel
theorem dX10_moved_62 : decode cX10_moved 62 = .ok (.iconst 1, 1) := by decide +kernel
theorem dX10_moved_63 : decode cX10_moved 63 = .ok (.isub, 1) := by decide +kernel
theorem dX10_moved_64 : decode cX10_moved 64 = .ok (.iaload, 1) := by decide +kernel
theorem dX10_moved_65 : decode cX10_moved 65 = .ok (.if_icmp .le 21, 3) := by decide +kernel
theorem dX10_moved_68 : decode cX10_moved 68 = .ok (.aload_n 0, 1) := by decide +kernel
theorem dX10_moved_69 : decode cX10_moved 69 = .ok (.getfield 43, 3) := by decide +kernel
theorem dX10_moved_72 : decode cX10_moved 72 = .ok (.bipush 9, 2) := by decide +kernel
theorem dX10_moved_74 : decode cX10_moved 74 = .ok (.iload_n 3, 1) := by decide +kernel
theorem dX10_moved_75 : decode cX10_moved 75 = .ok (.imul, 1) := by decide +kernel
theorem dX10_moved_76 : decode cX10_moved 76 = .ok (.bipush 9, 2) := by decide +kernel
theorem dX10_moved_78 : decode cX10_moved 78 = .ok (.isub, 1) := by decide +kernel
theorem dX10_moved_79 : decode cX10_moved 79 = .ok (.iload 4, 2) := by decide +kernel
theorem dX10_moved_81 : decode cX10_moved 81 = .ok (.iadd, 1) := by decide +kernel
theorem dX10_moved_82 : decode cX10_moved 82 = .ok (.iaload, 1) := by decide +kernel
theorem dX10_moved_83 : decode cX10_moved 83 = .ok (.goto 17, 3) := by decide +kernel
theorem dX10_moved_86 : decode cX10_moved 86 = .ok (.aload_n 0, 1) := by decide +kernel
theorem dX10_moved_87 : decode cX10_moved 87 = .ok (.getfield 43, 3) := by decide +kernel
theorem dX10_moved_90 : decode cX10_moved 90 = .ok (.bipush 9, 2) := by decide +kernel
theorem dX10_moved_92 : decode cX10_moved 92 = .ok (.iload_n 3, 1) := by decide +kernel
theorem dX10_moved_93 : decode cX10_moved 93 = .ok (.imul, 1) := by decide +kernel
theorem dX10_moved_94 : decode cX10_moved 94 = .ok (.iload 4, 2) := by decide +kernel
theorem dX10_moved_96 : decode cX10_moved 96 = .ok (.iadd, 1) := by decide +kernel
theorem dX10_moved_97 : decode cX10_moved 97 = .ok (.iconst 1, 1) := by decide +kernel
theorem dX10_moved_98 : decode cX10_moved 98 = .ok (.isub, 1) := by decide +kernel
theorem dX10_moved_99 : decode cX10_moved 99 = .ok (.iaload, 1) := by decide +kernel
theorem dX10_moved_100 : decode cX10_moved 100 = .ok (.istore 5, 2) := by decide +kernel
theorem dX10_moved_102 : decode cX10_moved 102 = .ok (.aload_n 0, 1) := by decide +kernel
theorem dX10_moved_103 : decode cX10_moved 103 = .ok (.getfield 43, 3) := by decide +kernel
theorem dX10_moved_106 : decode cX10_moved 106 = .ok (.bipush 9, 2) := by decide +kernel
theorem dX10_moved_108 : decode cX10_moved 108 = .ok (.iload_n 3, 1) := by decide +kernel
theorem dX10_moved_109 : decode cX10_moved 109 = .ok (.imul, 1) := by decide +kernel
theorem dX10_moved_110 : decode cX10_moved 110 = .ok (.bipush 9, 2) := by decide +kernel
theorem dX10_moved_112 : decode cX10_moved 112 = .ok (.isub, 1) := by decide +kernel
theorem dX10_moved_113 : decode cX10_moved 113 = .ok (.iload 4, 2) := by decide +kernel
theorem dX10_moved_115 : decode cX10_moved 115 = .ok (.iadd, 1) := by decide +kernel
theorem dX10_moved_116 : decode cX10_moved 116 = .ok (.iconst 1, 1) := by decide +kernel
theorem dX10_moved_117 : decode cX10_moved 117 = .ok (.isub, 1) := by decide +kernel
theorem dX10_moved_118 : decode cX10_moved 118 = .ok (.iaload, 1) := by decide +kernel
theorem dX10_moved_119 : decode cX10_moved 119 = .ok (.iconst 1, 1) := by decide +kernel
theorem dX10_moved_120 : decode cX10_moved 120 = .ok (.iadd, 1) := by decide +kernel
theorem dX10_moved_121 : decode cX10_moved 121 = .ok (.istore 6, 2) := by decide +kernel
theorem dX10_moved_123 : decode cX10_moved 123 = .ok (.aload_n 0, 1) := by decide +kernel
theorem dX10_moved_124 : decode cX10_moved 124 = .ok (.getfield 22, 3) := by decide +kernel
theorem dX10_moved_127 : decode cX10_moved 127 = .ok (.iload_n 3, 1) := by decide +kernel
theorem dX10_moved_128 : decode cX10_moved 128 = .ok (.iconst 1, 1) := by decide +kernel
theorem dX10_moved_129 : decode cX10_moved 129 = .ok (.isub, 1) := by decide +kernel
theorem dX10_moved_130 : decode cX10_moved 130 = .ok (.iaload, 1) := by decide +kernel
theorem dX10_moved_131 : decode cX10_moved 131 = .ok (.aload_n 0, 1) := by decide +kernel
theorem dX10_moved_132 : decode cX10_moved 132 = .ok (.getfield 37, 3) := by decide +kernel
theorem dX10_moved_135 : decode cX10_moved 135 = .ok (.iload 4, 2) := by decide +kernel
theorem dX10_moved_137 : decode cX10_moved 137 = .ok (.iconst 1, 1) := by decide +kernel
theorem dX10_moved_138 : decode cX10_moved 138 = .ok (.isub, 1) := by decide +kernel
theorem dX10_moved_139 : decode cX10_moved 139 = .ok (.iaload, 1) := by decide +kernel
theorem dX10_moved_140 : decode cX10_moved 140 = .ok (.if_icmp .ne 15, 3) := by decide +kernel
theorem dX10_moved_143 : decode cX10_moved 143 = .ok (.iload 6, 2) := by decide +kernel
theorem dX10_moved_145 : decode cX10_moved 145 = .ok (.iload 5, 2) := by decide +kernel
theorem dX10_moved_147 : decode cX10_moved 147 = .ok (.if_icmp .le 8, 3) := by decide +kernel
theorem dX10_moved_150 : decode cX10_moved 150 = .ok (.iload 6, 2) := by decide +kernel
theorem dX10_moved_152 : decode cX10_moved 152 = .ok (.goto 5, 3) := by decide +kernel
theorem dX10_moved_155 : decode cX10_moved 155 = .ok (.iload 5, 2) := by decide +kernel
theorem dX10_moved_157 : decode cX10_moved 157 = .ok (.istore 5, 2) := by decide +kernel
theorem dX10_moved_159 : decode cX10_moved 159 = .ok (.aload_n 0, 1) := by decide +kernel
theorem dX10_moved_160 : decode cX10_moved 160 = .ok (.getfield 43, 3) := by decide +kernel
theorem dX10_moved_163 : decode cX10_moved 163 = .ok (.bipush 9, 2) := by decide +kernel
theorem dX10_moved_165 : decode cX10_moved 165 = .ok (.iload_n 3, 1) := by decide +kernel
theorem dX10_moved_166 : decode cX10_moved 166 = .ok (.imul, 1) := by decide +kernel
theorem dX10_moved_167 : decode cX10_moved 167 = .ok (.iload 4, 2) := by decide +kernel
theorem dX10_moved_169 : decode cX10_moved 169 = .ok (.iadd, 1) := by decide +kernel
theorem dX10_moved_170 : decode cX10_moved 170 = .ok (.iload 5, 2) := by decide +kernel
theorem dX10_moved_172 : decode cX10_moved 172 = .ok (.iastore, 1) := by decide +kernel
theorem dX10_moved_173 : decode cX10_moved 173 = .ok (.iinc 4 1, 3) := by decide +kernel
theorem dX10_moved_176 : decode cX10_moved 176 = .ok (.goto (-161), 3) := by decide +kernel
theorem dX10_moved_179 : decode cX10_moved 179 = .ok (.iinc 3 1, 3) := by decide +kernel
theorem dX10_moved_182 : decode cX10_moved 182 = .ok (.goto (-178), 3) := by decide +kernel
theorem dX10_moved_185 : decode cX10_moved 185 = .ok (.iconst 0, 1) := by decide +kernel
theorem dX10_moved_186 : decode cX10_moved 186 = .ok (.istore_n 3, 1) := by decide +kernel
theorem dX10_moved_187 : decode cX10_moved 187 = .ok (.iload_n 3, 1) := by decide +kernel
theorem dX10_moved_188 : decode cX10_moved 188 = .ok (.aload_n 0, 1) := by decide +kernel
theorem dX10_moved_189 : decode cX10_moved 189 = .ok (.getfield 126, 3) := by decide +kernel
theorem dX10_moved_192 : decode cX10_moved 192 = .ok (.if_icmp .ge 27, 3) := by decide +kernel
theorem dX10_moved_195 : decode cX10_moved 195 = .ok (.iload_n 2, 1) := by decide +kernel
theorem dX10_moved_196 : decode cX10_moved 196 = .ok (.aload_n 0, 1) := by decide +kernel
theorem dX10_moved_197 : decode cX10_moved 197 = .ok (.getfield 22, 3) := by decide +kernel
theorem dX10_moved_200 : decode cX10_moved 200 = .ok (.iload_n 3, 1) := by decide +kernel
theorem dX10_moved_201 : decode cX10_moved 201 = .ok (.iaload, 1) := by decide +kernel
theorem dX10_moved_202 : decode cX10_moved 202 = .ok (.iload_n 1, 1) := by decide +kernel
theorem dX10_moved_203 : decode cX10_moved 203 = .ok (.if_icmp .ne 7, 3) := by decide +kernel
theorem dX10_moved_206 : decode cX10_moved 206 = .ok (.iconst 0, 1) := by decide +kernel
theorem dX10_moved_207 : decode cX10_moved 207 = .ok (.goto 4, 3) := by decide +kernel
theorem dX10_moved_210 : decode cX10_moved 210 = .ok (.iconst 1, 1) := by decide +kernel
theorem dX10_moved_211 : decode cX10_moved 211 = .ok (.iadd, 1) := by decide +kernel
theorem dX10_moved_212 : decode cX10_moved 212 = .ok (.istore_n 2, 1) := by decide +kernel
theorem dX10_moved_213 : decode cX10_moved 213 = .ok (.iinc 3 1, 3) := by decide +kernel
theorem dX10_moved_216 : decode cX10_moved 216 = .ok (.goto (-29), 3) := by decide +kernel
theorem dX10_moved_219 : decode cX10_moved 219 = .ok (.iload_n 2, 1) := by decide +kernel
theorem dX10_moved_220 : decode cX10_moved 220 = .ok (.aload_n 0, 1) := by decide +kernel
theorem dX10_moved_221 : decode cX10_moved 221 = .ok (.getfield 43, 3) := by decide +kernel
theorem dX10_moved_224 : decode cX10_moved 224 = .ok (.bipush 9, 2) := by decide +kernel
theorem dX10_moved_226 : decode cX10_moved 226 = .ok (.aload_n 0, 1) := by decide +kernel
theorem dX10_moved_227 : decode cX10_moved 227 = .ok (.getfield 126, 3) := by decide +kernel
theorem dX10_moved_230 : decode cX10_moved 230 = .ok (.imul, 1) := by decide +kernel
theorem dX10_moved_231 : decode cX10_moved 231 = .ok (.aload_n 0, 1) := by decide +kernel
theorem dX10_moved_232 : decode cX10_moved 232 = .ok (.getfield 133, 3) := by decide +kernel
theorem dX10_moved_235 : decode cX10_moved 235 = .ok (.iadd, 1) := by decide +kernel
theorem dX10_moved_236 : decode cX10_moved 236 = .ok (.iaload, 1) := by decide +kernel
theorem dX10_moved_237 : decode cX10_moved 237 = .ok (.isub, 1) := by decide +kernel
theorem dX10_moved_238 : decode cX10_moved 238 = .ok (.ireturn, 1) := by decide +kernel
set_option maxHeartbeats 4000000 in
set_option maxRecDepth 100000 in
theorem cX10_moved_k_0 {l : Launch} {D : va_G} {a : Nat → Nat} {k : Nat → ClassId} {n : Nat} {p1 : Int32} {x0 xz : bq_S} {rz : Int32} (h : fX10_moved n p1 x0 = some (rz, xz)) : bq_M l D bq_cl (bq_ty k) (bq_wM a k) yX10_moved cX10_moved 7 (some .int) { frames := 0, cells := 0, slots := 0, locals := 0 } [.ref (a 0), .int p1] x0 (some rz) xz := by
  refine bq_ofW RX10 [(0, .ref (a 0)), (1, .int p1)] (by decide +kernel) rfl (Nat.le_of_ble_eq_true rfl) rfl (bq_adM a k) ?_
  intro p e s m below meth c A Q ls S hK hD hA hR hS hP hl
  have hx := S.1; have hb := S.2.1; have hml := S.2.2.1; have hown := S.2.2.2.1; have hts := S.2.2.2.2
  have hret : ∀ z, some z = some (rz, xz) → (rz, xz) = z := fun z h => (Option.some.inj h).symm
  unfold fX10_moved at h
  refine lv_iconst (v := (0 : Int32)) hx hb dX10_moved_0 (by decide) ?_
  refine lv_istore_n (lv' := [(2, .int (0 : Int32)), (0, .ref (a 0)), (1, .int p1)]) hx hb dX10_moved_1 rfl hl (by decide) rfl (fun ls hl => ?_)
  refine lv_iconst (v := (0 : Int32)) hx hb dX10_moved_2 (by decide) ?_
  refine lv_istore_n (lv' := [(3, .int (0 : Int32)), (2, .int (0 : Int32)), (0, .ref (a 0)), (1, .int p1)]) hx hb dX10_moved_3 rfl hl (by decide) rfl (fun ls hl => ?_)
  have hl4 : ∀ (v1 : Int32) (v2 : Int32) (kf : Nat) (v3 : Int32) (x4 : bq_S) (eo : Int32 × bq_S) (H : Heap) (locs : List Loc) (ls : Array Slot), wh kf (fX10_moved_b4 n v1 v2) (v3, x4) = some eo → va_P D bq_cl (bq_wM a k x4) H → va_S A s.heap H locs → lv_has ls 7 [(0, .ref (a 0)), (1, .int v1), (2, .int v2), (3, .int v3)] → (∀ (H : Heap) (locs : List Loc) (ls : Array Slot) (v39 : Int32) (x40 : bq_S), eo = (v39, x40) → va_P D bq_cl (bq_wM a k x40) H → va_S A s.heap H locs → lv_has ls 7 [(0, .ref (a 0)), (1, .int v1), (2, .int v2)] → W p l e { frames := 0, cells := 0, slots := 0, locals := 0 } s m [.ref (a 0), .int p1].toArray below meth c H locs 0 0 Q (F0 m 185 ls [])) → W p l e { frames := 0, cells := 0, slots := 0, locals := 0 } s m [.ref (a 0), .int p1].toArray below meth c H locs 0 0 Q (F0 m 4 ls []) := by
    intro v1 v2 kf
    induction kf with
    | zero => intro v3 x4 eo H locs ls h; cases h
    | succ kf ih =>
      intro v3 x4 eo H locs ls h hP hS hl kx
      obtain ⟨out, h, hw⟩ := wh_s h
      unfold fX10_moved_b4 at h
      replace h := un2_e h
      refine lv_iload_n hx hb dX10_moved_4 rfl (lv_at hl 3 rfl) ?_
      refine lv_aload_n hx hb dX10_moved_5 rfl (lv_at hl 0 rfl) ?_
      refine bq_get (q0 := 0) S hK hP fl_X10_126_X10_6 rfl rfl rfl dX10_moved_6 ?_
      refine lv_icmp_gt (tgt := 185) hx hb dX10_moved_9 (by decide) (fun c5 => ?_) (fun c5 => ?_)
      · replace h := (if_pos c5).symm.trans h
        cases h
        exact kx _ _ _ _ _ (Option.some.inj hw).symm hP hS (lv_sub hl [0, 1, 2] rfl)
      · replace h := (if_neg c5).symm.trans h
        refine lv_iconst (v := (0 : Int32)) hx hb dX10_moved_12 (by decide) ?_
        refine lv_istore (lv' := [(4, .int (0 : Int32)), (0, .ref (a 0)), (1, .int v1), (2, .int v2), (3, .int v3)]) hx hb dX10_moved_13 hl (by decide) rfl (fun ls hl => ?_)
        have hl15 : ∀ (v6 : Int32) (v7 : Int32) (v8 : Int32) (kf : Nat) (v9 : Int32) (x10 : bq_S) (eo : Int32 × bq_S) (H : Heap) (locs : List Loc) (ls : Array Slot), wh kf (fX10_moved_b15 n v6 v7 v8) (v9, x10) = some eo → va_P D bq_cl (bq_wM a k x10) H → va_S A s.heap H locs → lv_has ls 7 [(0, .ref (a 0)), (1, .int v6), (2, .int v7), (3, .int v8), (4, .int v9)] → (∀ (H : Heap) (locs : List Loc) (ls : Array Slot) (v35 : Int32) (x36 : bq_S), eo = (v35, x36) → va_P D bq_cl (bq_wM a k x36) H → va_S A s.heap H locs → lv_has ls 7 [(0, .ref (a 0)), (1, .int v6), (2, .int v7), (3, .int v8)] → W p l e { frames := 0, cells := 0, slots := 0, locals := 0 } s m [.ref (a 0), .int p1].toArray below meth c H locs 0 0 Q (F0 m 179 ls [])) → W p l e { frames := 0, cells := 0, slots := 0, locals := 0 } s m [.ref (a 0), .int p1].toArray below meth c H locs 0 0 Q (F0 m 15 ls []) := by
          intro v6 v7 v8 kf
          induction kf with
          | zero => intro v9 x10 eo H locs ls h; cases h
          | succ kf ih =>
            intro v9 x10 eo H locs ls h hP hS hl kx
            obtain ⟨out, h, hw⟩ := wh_s h
            unfold fX10_moved_b15 at h
            replace h := un2_e h
            have hj159 : ∀ (v13 : Int32) (v14 : Int32) (x15 : bq_S) (H : Heap) (locs : List Loc) (ls : Array Slot), fX10_moved_j159 n v6 v7 v8 v13 v14 x15 = some out → va_P D bq_cl (bq_wM a k x15) H → va_S A s.heap H locs → lv_has ls 7 [(0, .ref (a 0)), (1, .int v6), (2, .int v7), (3, .int v8), (4, .int v13), (5, .int v14)] → W p l e { frames := 0, cells := 0, slots := 0, locals := 0 } s m [.ref (a 0), .int p1].toArray below meth c H locs 0 0 Q (F0 m 159 ls []) := by
              intro v13 v14 x15 H locs ls h hP hS hl
              unfold fX10_moved_j159 at h
              refine lv_aload_n hx hb dX10_moved_159 rfl (lv_at hl 0 rfl) ?_
              refine bq_get (q0 := 0) S hK hP fl_X10_43_X10_19 rfl rfl rfl dX10_moved_160 ?_
              refine lv_bipush (v := (9 : Int32)) hx hb dX10_moved_163 (by decide) ?_
              refine lv_iload_n hx hb dX10_moved_165 rfl (lv_at hl 3 rfl) ?_
              refine lv_imul hx hb dX10_moved_166 ?_
              refine lv_iload hx hb dX10_moved_167 (lv_at hl 4 rfl) ?_
              refine lv_iadd hx hb dX10_moved_169 ?_
              refine lv_iload hx hb dX10_moved_170 (lv_at hl 5 rfl) ?_
              obtain ⟨g17, h⟩ := bq_gd h
              obtain ⟨x16, hx16, h⟩ := bq_b h
              refine bq_iast (x1 := x16) (q0 := 12) (t0 := 0) S hK hD hP hS rfl rfl g17 (by rw [hx16]; rfl) dX10_moved_172 (fun H locs hP hS => ?_)
              obtain ⟨v18, hv18, h⟩ := bq_b h
              refine lv_iinc (v := v18) (lv' := [(4, .int v18), (0, .ref (a 0)), (1, .int v6), (2, .int v7), (3, .int v8), (5, .int v14)]) hx hb dX10_moved_173 hl (k := 4) rfl (by rw [hv18]; rfl) (by decide) rfl (fun ls hl => ?_)
              refine lv_goto (tgt := 15) hx hb dX10_moved_176 (by decide) ?_
              cases h
              exact ih _ _ _ _ _ _ hw hP hS (lv_sub hl [1, 2, 3, 4, 0] rfl) kx
            have hj100 : ∀ (v24 : Int32) (v25 : Int32) (x26 : bq_S) (H : Heap) (locs : List Loc) (ls : Array Slot), fX10_moved_j100 n v6 v7 v8 v24 v25 x26 = some out → va_P D bq_cl (bq_wM a k x26) H → va_S A s.heap H locs → lv_has ls 7 [(0, .ref (a 0)), (1, .int v6), (2, .int v7), (3, .int v8), (4, .int v24)] → W p l e { frames := 0, cells := 0, slots := 0, locals := 0 } s m [.ref (a 0), .int p1].toArray below meth c H locs 0 0 Q (F0 m 100 ls [.int v25]) := by
              intro v24 v25 x26 H locs ls h hP hS hl
              unfold fX10_moved_j100 at h
              refine lv_istore (lv' := [(5, .int v25), (0, .ref (a 0)), (1, .int v6), (2, .int v7), (3, .int v8), (4, .int v24)]) hx hb dX10_moved_100 hl (by decide) rfl (fun ls hl => ?_)
              refine lv_aload_n hx hb dX10_moved_102 rfl (lv_at hl 1 rfl) ?_
              refine bq_get (q0 := 0) S hK hP fl_X10_43_X10_19 rfl rfl rfl dX10_moved_103 ?_
              refine lv_bipush (v := (9 : Int32)) hx hb dX10_moved_106 (by decide) ?_
              refine lv_iload_n hx hb dX10_moved_108 rfl (lv_at hl 4 rfl) ?_
              refine lv_imul hx hb dX10_moved_109 ?_
              refine lv_bipush (v := (9 : Int32)) hx hb dX10_moved_110 (by decide) ?_
              refine lv_isub hx hb dX10_moved_112 ?_
              refine lv_iload hx hb dX10_moved_113 (lv_at hl 5 rfl) ?_
              refine lv_iadd hx hb dX10_moved_115 ?_
              refine lv_iconst (v := (1 : Int32)) hx hb dX10_moved_116 (by decide) ?_
              refine lv_isub hx hb dX10_moved_117 ?_
              obtain ⟨g27, h⟩ := bq_gd h
              refine va_iald (D := D) hx hb hK hP 12 0 rfl rfl g27 dX10_moved_118 ?_
              refine lv_iconst (v := (1 : Int32)) hx hb dX10_moved_119 (by decide) ?_
              refine lv_iadd hx hb dX10_moved_120 ?_
              refine lv_topi (fun v28 hv28 => ?_)
              replace h := bq_bv h hv28
              refine lv_istore (lv' := [(6, .int v28), (5, .int v25), (0, .ref (a 0)), (1, .int v6), (2, .int v7), (3, .int v8), (4, .int v24)]) hx hb dX10_moved_121 hl (by decide) rfl (fun ls hl => ?_)
              refine lv_aload_n hx hb dX10_moved_123 rfl (lv_at hl 2 rfl) ?_
              refine bq_get (q0 := 0) S hK hP fl_X10_22_X10_7 rfl rfl rfl dX10_moved_124 ?_
              refine lv_iload_n hx hb dX10_moved_127 rfl (lv_at hl 5 rfl) ?_
              refine lv_iconst (v := (1 : Int32)) hx hb dX10_moved_128 (by decide) ?_
              refine lv_isub hx hb dX10_moved_129 ?_
              obtain ⟨g29, h⟩ := bq_gd h
              refine va_iald (D := D) hx hb hK hP 5 0 rfl rfl g29 dX10_moved_130 ?_
              refine lv_aload_n hx hb dX10_moved_131 rfl (lv_at hl 2 rfl) ?_
              refine bq_get (q0 := 0) S hK hP fl_X10_37_X10_16 rfl rfl rfl dX10_moved_132 ?_
              refine lv_iload hx hb dX10_moved_135 (lv_at hl 6 rfl) ?_
              refine lv_iconst (v := (1 : Int32)) hx hb dX10_moved_137 (by decide) ?_
              refine lv_isub hx hb dX10_moved_138 ?_
              obtain ⟨g30, h⟩ := bq_gd h
              refine va_iald (D := D) hx hb hK hP 10 0 rfl rfl g30 dX10_moved_139 ?_
              refine lv_icmp_ne (tgt := 155) hx hb dX10_moved_140 (by decide) (fun c31 => ?_) (fun c31 => ?_)
              · replace h := (if_neg c31).symm.trans h
                refine lv_iload hx hb dX10_moved_155 (lv_at hl 1 rfl) ?_
                refine lv_istore (lv' := [(5, .int v25), (6, .int v28), (0, .ref (a 0)), (1, .int v6), (2, .int v7), (3, .int v8), (4, .int v24)]) hx hb dX10_moved_157 hl (by decide) rfl (fun ls hl => ?_)
                exact hj159 _ _ _ _ _ _ h hP hS (lv_sub hl [2, 3, 4, 5, 6, 0] rfl)
              · replace h := (if_pos c31).symm.trans h
                refine lv_iload hx hb dX10_moved_143 (lv_at hl 0 rfl) ?_
                refine lv_iload hx hb dX10_moved_145 (lv_at hl 1 rfl) ?_
                refine lv_icmp_le (tgt := 155) hx hb dX10_moved_147 (by decide) (fun c32 => ?_) (fun c32 => ?_)
                · replace h := (if_pos c32).symm.trans h
                  refine lv_iload hx hb dX10_moved_155 (lv_at hl 1 rfl) ?_
                  refine lv_istore (lv' := [(5, .int v25), (6, .int v28), (0, .ref (a 0)), (1, .int v6), (2, .int v7), (3, .int v8), (4, .int v24)]) hx hb dX10_moved_157 hl (by decide) rfl (fun ls hl => ?_)
                  exact hj159 _ _ _ _ _ _ h hP hS (lv_sub hl [2, 3, 4, 5, 6, 0] rfl)
                · replace h := (if_neg c32).symm.trans h
                  refine lv_iload hx hb dX10_moved_150 (lv_at hl 0 rfl) ?_
                  refine lv_goto (tgt := 157) hx hb dX10_moved_152 (by decide) ?_
                  refine lv_istore (lv' := [(5, .int v28), (6, .int v28), (0, .ref (a 0)), (1, .int v6), (2, .int v7), (3, .int v8), (4, .int v24)]) hx hb dX10_moved_157 hl (by decide) rfl (fun ls hl => ?_)
                  exact hj159 _ _ _ _ _ _ h hP hS (lv_sub hl [2, 3, 4, 5, 6, 0] rfl)
            refine lv_iload hx hb dX10_moved_15 (lv_at hl 4 rfl) ?_
            refine lv_aload_n hx hb dX10_moved_17 rfl (lv_at hl 0 rfl) ?_
            refine bq_get (q0 := 0) S hK hP fl_X10_133_X10_17 rfl rfl rfl dX10_moved_18 ?_
            refine lv_icmp_gt (tgt := 179) hx hb dX10_moved_21 (by decide) (fun c11 => ?_) (fun c11 => ?_)
            · replace h := (if_pos c11).symm.trans h
              cases h
              exact kx _ _ _ _ _ (Option.some.inj hw).symm hP hS (lv_sub hl [0, 1, 2, 3] rfl)
            · replace h := (if_neg c11).symm.trans h
              refine lv_iconst (v := (0 : Int32)) hx hb dX10_moved_24 (by decide) ?_
              refine lv_istore (lv' := [(5, .int (0 : Int32)), (0, .ref (a 0)), (1, .int v6), (2, .int v7), (3, .int v8), (4, .int v9)]) hx hb dX10_moved_25 hl (by decide) rfl (fun ls hl => ?_)
              refine lv_iload_n hx hb dX10_moved_27 rfl (lv_at hl 4 rfl) ?_
              refine lv_if_le (tgt := 159) hx hb dX10_moved_28 (by decide) (fun c12 => ?_) (fun c12 => ?_)
              · replace h := (if_pos c12).symm.trans h
                exact hj159 _ _ _ _ _ _ h hP hS (lv_sub hl [1, 2, 3, 4, 5, 0] rfl)
              · replace h := (if_neg c12).symm.trans h
                refine lv_iload hx hb dX10_moved_31 (lv_at hl 5 rfl) ?_
                refine lv_if_le (tgt := 159) hx hb dX10_moved_33 (by decide) (fun c19 => ?_) (fun c19 => ?_)
                · replace h := (if_pos c19).symm.trans h
                  exact hj159 _ _ _ _ _ _ h hP hS (lv_sub hl [1, 2, 3, 4, 5, 0] rfl)
                · replace h := (if_neg c19).symm.trans h
                  refine lv_aload_n hx hb dX10_moved_36 rfl (lv_at hl 1 rfl) ?_
                  refine bq_get (q0 := 0) S hK hP fl_X10_43_X10_19 rfl rfl rfl dX10_moved_37 ?_
                  refine lv_bipush (v := (9 : Int32)) hx hb dX10_moved_40 (by decide) ?_
                  refine lv_iload_n hx hb dX10_moved_42 rfl (lv_at hl 4 rfl) ?_
                  refine lv_imul hx hb dX10_moved_43 ?_
                  refine lv_bipush (v := (9 : Int32)) hx hb dX10_moved_44 (by decide) ?_
                  refine lv_isub hx hb dX10_moved_46 ?_
                  refine lv_iload hx hb dX10_moved_47 (lv_at hl 5 rfl) ?_
                  refine lv_iadd hx hb dX10_moved_49 ?_
                  obtain ⟨g20, h⟩ := bq_gd h
                  refine va_iald (D := D) hx hb hK hP 12 0 rfl rfl g20 dX10_moved_50 ?_
                  refine lv_aload_n hx hb dX10_moved_51 rfl (lv_at hl 1 rfl) ?_
                  refine bq_get (q0 := 0) S hK hP fl_X10_43_X10_19 rfl rfl rfl dX10_moved_52 ?_
                  refine lv_bipush (v := (9 : Int32)) hx hb dX10_moved_55 (by decide) ?_
                  refine lv_iload_n hx hb dX10_moved_57 rfl (lv_at hl 4 rfl) ?_
                  refine lv_imul hx hb dX10_moved_58 ?_
                  refine lv_iload hx hb dX10_moved_59 (lv_at hl 5 rfl) ?_
                  refine lv_iadd hx hb dX10_moved_61 ?_
                  refine lv_iconst (v := (1 : Int32)) hx hb dX10_moved_62 (by decide) ?_
                  refine lv_isub hx hb dX10_moved_63 ?_
                  obtain ⟨g21, h⟩ := bq_gd h
                  refine va_iald (D := D) hx hb hK hP 12 0 rfl rfl g21 dX10_moved_64 ?_
                  refine lv_icmp_le (tgt := 86) hx hb dX10_moved_65 (by decide) (fun c22 => ?_) (fun c22 => ?_)
                  · replace h := (if_pos c22).symm.trans h
                    refine lv_aload_n hx hb dX10_moved_86 rfl (lv_at hl 1 rfl) ?_
                    refine bq_get (q0 := 0) S hK hP fl_X10_43_X10_19 rfl rfl rfl dX10_moved_87 ?_
                    refine lv_bipush (v := (9 : Int32)) hx hb dX10_moved_90 (by decide) ?_
                    refine lv_iload_n hx hb dX10_moved_92 rfl (lv_at hl 4 rfl) ?_
                    refine lv_imul hx hb dX10_moved_93 ?_
                    refine lv_iload hx hb dX10_moved_94 (lv_at hl 5 rfl) ?_
                    refine lv_iadd hx hb dX10_moved_96 ?_
                    refine lv_iconst (v := (1 : Int32)) hx hb dX10_moved_97 (by decide) ?_
                    refine lv_isub hx hb dX10_moved_98 ?_
                    obtain ⟨g23, h⟩ := bq_gd h
                    refine va_iald (D := D) hx hb hK hP 12 0 rfl rfl g23 dX10_moved_99 ?_
                    exact hj100 _ _ _ _ _ _ h hP hS (lv_sub hl [1, 2, 3, 4, 5] rfl)
                  · replace h := (if_neg c22).symm.trans h
                    refine lv_aload_n hx hb dX10_moved_68 rfl (lv_at hl 1 rfl) ?_
                    refine bq_get (q0 := 0) S hK hP fl_X10_43_X10_19 rfl rfl rfl dX10_moved_69 ?_
                    refine lv_bipush (v := (9 : Int32)) hx hb dX10_moved_72 (by decide) ?_
                    refine lv_iload_n hx hb dX10_moved_74 rfl (lv_at hl 4 rfl) ?_
                    refine lv_imul hx hb dX10_moved_75 ?_
                    refine lv_bipush (v := (9 : Int32)) hx hb dX10_moved_76 (by decide) ?_
                    refine lv_isub hx hb dX10_moved_78 ?_
                    refine lv_iload hx hb dX10_moved_79 (lv_at hl 5 rfl) ?_
                    refine lv_iadd hx hb dX10_moved_81 ?_
                    obtain ⟨g33, h⟩ := bq_gd h
                    refine va_iald (D := D) hx hb hK hP 12 0 rfl rfl g33 dX10_moved_82 ?_
                    refine lv_goto (tgt := 100) hx hb dX10_moved_83 (by decide) ?_
                    exact hj100 _ _ _ _ _ _ h hP hS (lv_sub hl [1, 2, 3, 4, 5] rfl)
        obtain ⟨e34, he34, h⟩ := Option.bind_eq_some_iff.mp h
        refine hl15 _ _ _ n _ _ e34 _ _ _ he34 hP hS (lv_sub hl [1, 2, 3, 4, 0] rfl) (fun H locs ls v35 x36 hz hP hS hl => ?_)
        subst hz
        replace h := un2_e h
        obtain ⟨v37, hv37, h⟩ := bq_b h
        refine lv_iinc (v := v37) (lv' := [(3, .int v37), (0, .ref (a 0)), (1, .int v1), (2, .int v2)]) hx hb dX10_moved_179 hl (k := 3) rfl (by rw [hv37]; rfl) (by decide) rfl (fun ls hl => ?_)
        refine lv_goto (tgt := 4) hx hb dX10_moved_182 (by decide) ?_
        cases h
        exact ih _ _ _ _ _ _ hw hP hS (lv_sub hl [1, 2, 3, 0] rfl) kx
  obtain ⟨e38, he38, h⟩ := Option.bind_eq_some_iff.mp h
  refine hl4 _ _ n _ _ e38 _ _ _ he38 hP hS (lv_sub hl [2, 3, 1, 0] rfl) (fun H locs ls v39 x40 hz hP hS hl => ?_)
  subst hz
  replace h := un2_e h
  refine lv_iconst (v := (0 : Int32)) hx hb dX10_moved_185 (by decide) ?_
  refine lv_istore_n (lv' := [(3, .int (0 : Int32)), (0, .ref (a 0)), (1, .int p1), (2, .int (0 : Int32))]) hx hb dX10_moved_186 rfl hl (by decide) rfl (fun ls hl => ?_)
  have hl187 : ∀ (v41 : Int32) (kf : Nat) (v42 : Int32) (v43 : Int32) (x44 : bq_S) (eo : Int32 × Int32 × bq_S) (H : Heap) (locs : List Loc) (ls : Array Slot), wh kf (fX10_moved_b187 n v41) (v42, v43, x44) = some eo → va_P D bq_cl (bq_wM a k x44) H → va_S A s.heap H locs → lv_has ls 7 [(0, .ref (a 0)), (1, .int v41), (2, .int v42), (3, .int v43)] → (∀ (H : Heap) (locs : List Loc) (ls : Array Slot) (v53 : Int32) (v54 : Int32) (x55 : bq_S), eo = (v53, v54, x55) → va_P D bq_cl (bq_wM a k x55) H → va_S A s.heap H locs → lv_has ls 7 [(0, .ref (a 0)), (2, .int v53)] → W p l e { frames := 0, cells := 0, slots := 0, locals := 0 } s m [.ref (a 0), .int p1].toArray below meth c H locs 0 0 Q (F0 m 219 ls [])) → W p l e { frames := 0, cells := 0, slots := 0, locals := 0 } s m [.ref (a 0), .int p1].toArray below meth c H locs 0 0 Q (F0 m 187 ls []) := by
    intro v41 kf
    induction kf with
    | zero => intro v42 v43 x44 eo H locs ls h; cases h
    | succ kf ih =>
      intro v42 v43 x44 eo H locs ls h hP hS hl kx
      obtain ⟨out, h, hw⟩ := wh_s h
      unfold fX10_moved_b187 at h
      replace h := un3_e h
      refine lv_iload_n hx hb dX10_moved_187 rfl (lv_at hl 3 rfl) ?_
      refine lv_aload_n hx hb dX10_moved_188 rfl (lv_at hl 0 rfl) ?_
      refine bq_get (q0 := 0) S hK hP fl_X10_126_X10_6 rfl rfl rfl dX10_moved_189 ?_
      refine lv_icmp_ge (tgt := 219) hx hb dX10_moved_192 (by decide) (fun c45 => ?_) (fun c45 => ?_)
      · replace h := (if_pos c45).symm.trans h
        cases h
        exact kx _ _ _ _ _ _ (Option.some.inj hw).symm hP hS (lv_sub hl [0, 2] rfl)
      · replace h := (if_neg c45).symm.trans h
        refine lv_iload_n hx hb dX10_moved_195 rfl (lv_at hl 2 rfl) ?_
        refine lv_aload_n hx hb dX10_moved_196 rfl (lv_at hl 0 rfl) ?_
        refine bq_get (q0 := 0) S hK hP fl_X10_22_X10_7 rfl rfl rfl dX10_moved_197 ?_
        refine lv_iload_n hx hb dX10_moved_200 rfl (lv_at hl 3 rfl) ?_
        obtain ⟨g46, h⟩ := bq_gd h
        refine va_iald (D := D) hx hb hK hP 5 0 rfl rfl g46 dX10_moved_201 ?_
        refine lv_iload_n hx hb dX10_moved_202 rfl (lv_at hl 1 rfl) ?_
        refine lv_icmp_ne (tgt := 210) hx hb dX10_moved_203 (by decide) (fun c47 => ?_) (fun c47 => ?_)
        · replace h := (if_neg c47).symm.trans h
          refine lv_iconst (v := (1 : Int32)) hx hb dX10_moved_210 (by decide) ?_
          refine lv_iadd hx hb dX10_moved_211 ?_
          refine lv_topi (fun v48 hv48 => ?_)
          replace h := bq_bv h hv48
          refine lv_istore_n (lv' := [(2, .int v48), (0, .ref (a 0)), (1, .int v41), (3, .int v43)]) hx hb dX10_moved_212 rfl hl (by decide) rfl (fun ls hl => ?_)
          obtain ⟨v49, hv49, h⟩ := bq_b h
          refine lv_iinc (v := v49) (lv' := [(3, .int v49), (2, .int v48), (0, .ref (a 0)), (1, .int v41)]) hx hb dX10_moved_213 hl (k := 3) rfl (by rw [hv49]; rfl) (by decide) rfl (fun ls hl => ?_)
          refine lv_goto (tgt := 187) hx hb dX10_moved_216 (by decide) ?_
          cases h
          exact ih _ _ _ _ _ _ _ hw hP hS (lv_sub hl [2, 3, 1, 0] rfl) kx
        · replace h := (if_pos c47).symm.trans h
          refine lv_iconst (v := (0 : Int32)) hx hb dX10_moved_206 (by decide) ?_
          refine lv_goto (tgt := 211) hx hb dX10_moved_207 (by decide) ?_
          refine lv_iadd hx hb dX10_moved_211 ?_
          refine lv_topi (fun v50 hv50 => ?_)
          replace h := bq_bv h hv50
          refine lv_istore_n (lv' := [(2, .int v50), (0, .ref (a 0)), (1, .int v41), (3, .int v43)]) hx hb dX10_moved_212 rfl hl (by decide) rfl (fun ls hl => ?_)
          obtain ⟨v51, hv51, h⟩ := bq_b h
          refine lv_iinc (v := v51) (lv' := [(3, .int v51), (2, .int v50), (0, .ref (a 0)), (1, .int v41)]) hx hb dX10_moved_213 hl (k := 3) rfl (by rw [hv51]; rfl) (by decide) rfl (fun ls hl => ?_)
          refine lv_goto (tgt := 187) hx hb dX10_moved_216 (by decide) ?_
          cases h
          exact ih _ _ _ _ _ _ _ hw hP hS (lv_sub hl [2, 3, 1, 0] rfl) kx
  obtain ⟨e52, he52, h⟩ := Option.bind_eq_some_iff.mp h
  refine hl187 _ n _ _ _ e52 _ _ _ he52 hP hS (lv_sub hl [1, 2, 3, 0] rfl) (fun H locs ls v53 v54 x55 hz hP hS hl => ?_)
  subst hz
  replace h := un3_e h
  refine lv_iload_n hx hb dX10_moved_219 rfl (lv_at hl 1 rfl) ?_
  refine lv_aload_n hx hb dX10_moved_220 rfl (lv_at hl 0 rfl) ?_
  refine bq_get (q0 := 0) S hK hP fl_X10_43_X10_19 rfl rfl rfl dX10_moved_221 ?_
  refine lv_bipush (v := (9 : Int32)) hx hb dX10_moved_224 (by decide) ?_
  refine lv_aload_n hx hb dX10_moved_226 rfl (lv_at hl 0 rfl) ?_
  refine bq_get (q0 := 0) S hK hP fl_X10_126_X10_6 rfl rfl rfl dX10_moved_227 ?_
  refine lv_imul hx hb dX10_moved_230 ?_
  refine lv_aload_n hx hb dX10_moved_231 rfl (lv_at hl 0 rfl) ?_
  refine bq_get (q0 := 0) S hK hP fl_X10_133_X10_17 rfl rfl rfl dX10_moved_232 ?_
  refine lv_iadd hx hb dX10_moved_235 ?_
  obtain ⟨g56, h⟩ := bq_gd h
  refine va_iald (D := D) hx hb hK hP 12 0 rfl rfl g56 dX10_moved_236 ?_
  refine lv_isub hx hb dX10_moved_237 ?_
  obtain ⟨e1, e2⟩ := Prod.mk.inj (hret _ h)
  exact hR _ _ _ _ _ (congrArg some e1) rfl (by rw [e2]; exact hP) hS dX10_moved_238
def fX10_becomes_j91 (n : Nat) (v6 : Int32) (v20 : Int32) (v8 : Int32) (x21 : bq_S) : Option ((Int32 × Int32 × bq_S) ⊕ (Int32 × Int32 × bq_S)) :=
  (fX10_next n  x21).bind (fun o22 => un2 o22 (fun v24 x23 =>
  some (.inl (v20, v24, x23))))
def fX10_becomes_b64 (n : Nat) (v28 : Int32) (v29 : Int32) (v30 : Int32) (v : Int32 × bq_S) : Option ((Int32 × bq_S) ⊕ (Int32 × bq_S)) :=
  un2 v (fun v31 x32 =>
  if v30 ≤ v31 then
  some (.inr (v31, x32))
  else
  if ok_i v31 8 then
  if ok_i v31 8 then
  bd (bq_sI x32 11 v31.toNatClampNeg (x32.1 10 v31.toNatClampNeg)) (fun x35 =>
  bd (v31 + (1 : Int32)) (fun v37 =>
  some (.inl (v37, x35))))
  else none
  else none)
def fX10_becomes_j58 (n : Nat) (v6 : Int32) (v8 : Int32) (v26 : Int32) (x27 : bq_S) : Option ((Int32 × Int32 × bq_S) ⊕ (Int32 × Int32 × bq_S)) :=
  (wh n (fX10_becomes_b64 n v6 v26 v8) ((0 : Int32), x27)).bind (fun e38 => un2 e38 (fun v39 x40 =>
  fX10_becomes_j91 n v6 v26 v8 x40))
def fX10_becomes_j39 (n : Nat) (v6 : Int32) (v16 : Int32) (v8 : Int32) (v17 : Int32) (x18 : bq_S) : Option ((Int32 × Int32 × bq_S) ⊕ (Int32 × Int32 × bq_S)) :=
  if (99 : Int32) ≤ v17 then
  fX10_becomes_j91 n v6 v16 v8 x18
  else
  if v16 < 0 then
  fX10_becomes_j58 n v6 v8 v17 x18
  else
  if v16 ≤ v17 then
  fX10_becomes_j91 n v6 v16 v8 x18
  else
  fX10_becomes_j58 n v6 v8 v17 x18
def fX10_becomes_b17 (n : Nat) (v6 : Int32) (v8 : Int32) (v : Int32 × Int32 × bq_S) : Option ((Int32 × Int32 × bq_S) ⊕ (Int32 × Int32 × bq_S)) :=
  un3 v (fun v7 v9 x10 =>
  if v9 = 0 then
  some (.inr (v7, v9, x10))
  else
  (fX10_wrongAt n  x10).bind (fun o12 => un2 o12 (fun v14 x13 =>
  if 0 ≤ v14 then
  fX10_becomes_j39 n v6 v7 v8 (99 : Int32) x13
  else
  (fX10_moved n v6 x13).bind (fun o42 => un2 o42 (fun v44 x43 =>
  fX10_becomes_j39 n v6 v7 v8 v44 x43)))))
def fX10_becomes_b113 (n : Nat) (v51 : Int32) (v52 : Int32) (v : Int32 × bq_S) : Option ((Int32 × bq_S) ⊕ (Int32 × bq_S)) :=
  un2 v (fun v53 x54 =>
  if v52 ≤ v53 then
  some (.inr (v53, x54))
  else
  if ok_i v53 8 then
  if ok_i v53 8 then
  bd (bq_sI x54 5 v53.toNatClampNeg (x54.1 11 v53.toNatClampNeg)) (fun x57 =>
  bd (v53 + (1 : Int32)) (fun v59 =>
  some (.inl (v59, x57))))
  else none
  else none)
def fX10_becomes (n : Nat) (p1 : Int32) (p2 : Int32) (x0 : bq_S) : Option (Int32 × bq_S) :=
  (fX10_size n p1 x0).bind (fun o1 => un2 o1 (fun v3 x2 =>
  (fX10_first n p1 x2).bind (fun x5 =>
  (wh n (fX10_becomes_b17 n p2 v3) ((-4 : Int32), (1 : Int32), x5)).bind (fun e45 => un3 e45 (fun v46 v47 x48 =>
  if v46 < 0 then
  some (v46, x48)
  else
  bd (bq_sI x48 0 6 v3) (fun x50 =>
  (wh n (fX10_becomes_b113 n v46 v3) ((0 : Int32), x50)).bind (fun e60 => un2 e60 (fun v61 x62 =>
  some (v46, x62)))))))))
theorem dX10_becomes_0 : decode cX10_becomes 0 = .ok (.bipush (-4), 2) := by decide +kernel
theorem dX10_becomes_2 : decode cX10_becomes 2 = .ok (.istore_n 3, 1) := by decide +kernel
theorem dX10_becomes_3 : decode cX10_becomes 3 = .ok (.iload_n 1, 1) := by decide +kernel
theorem dX10_becomes_4 : decode cX10_becomes 4 = .ok (.invokestatic 129, 3) := by decide +kernel
theorem dX10_becomes_7 : decode cX10_becomes 7 = .ok (.istore 4, 2) := by decide +kernel
theorem dX10_becomes_9 : decode cX10_becomes 9 = .ok (.aload_n 0, 1) := by decide +kernel
theorem dX10_becomes_10 : decode cX10_becomes 10 = .ok (.iload_n 1, 1) := by decide +kernel
theorem dX10_becomes_11 : decode cX10_becomes 11 = .ok (.invokevirtual 145, 3) := by decide +kernel
theorem dX10_becomes_14 : decode cX10_becomes 14 = .ok (.iconst 1, 1) := by decide +kernel
theorem dX10_becomes_15 : decode cX10_becomes 15 = .ok (.istore 5, 2) := by decide +kernel
theorem dX10_becomes_17 : decode cX10_becomes 17 = .ok (.iload 5, 2) := by decide +kernel
theorem dX10_becomes_19 : decode cX10_becomes 19 = .ok (.ifCond .eq 81, 3) := by decide +kernel
theorem dX10_becomes_22 : decode cX10_becomes 22 = .ok (.aload_n 0, 1) := by decide +kernel
theorem dX10_becomes_23 : decode cX10_becomes 23 = .ok (.invokevirtual 139, 3) := by decide +kernel
theorem dX10_becomes_26 : decode cX10_becomes 26 = .ok (.ifCond .ge 11, 3) := by decide +kernel
theorem dX10_becomes_29 : decode cX10_becomes 29 = .ok (.aload_n 0, 1) := by decide +kernel
theorem dX10_becomes_30 : decode cX10_becomes 30 = .ok (.iload_n 2, 1) := by decide +kernel
theorem dX10_becomes_31 : decode cX10_becomes 31 = .ok (.invokevirtual 155, 3) := by decide +kernel
theorem dX10_becomes_34 : decode cX10_becomes 34 = .ok (.goto 5, 3) := by decide +kernel
theorem dX10_becomes_37 : decode cX10_becomes 37 = .ok (.bipush 99, 2) := by decide +kernel
theorem dX10_becomes_39 : decode cX10_becomes 39 = .ok (.istore 6, 2) := by decide +kernel
theorem dX10_becomes_41 : decode cX10_becomes 41 = .ok (.iload 6, 2) := by decide +kernel
theorem dX10_becomes_43 : decode cX10_becomes 43 = .ok (.bipush 99, 2) := by decide +kernel
theorem dX10_becomes_45 : decode cX10_becomes 45 = .ok (.if_icmp .ge 46, 3) := by decide +kernel
theorem dX10_becomes_48 : decode cX10_becomes 48 = .ok (.iload_n 3, 1) := by decide +kernel
theorem dX10_becomes_49 : decode cX10_becomes 49 = .ok (.ifCond .lt 9, 3) := by decide +kernel
theorem dX10_becomes_52 : decode cX10_becomes 52 = .ok (.iload 6, 2) := by decide +kernel
theorem dX10_becomes_54 : decode cX10_becomes 54 = .ok (.iload_n 3, 1) := by decide +kernel
theorem dX10_becomes_55 : decode cX10_becomes 55 = .ok (.if_icmp .ge 36, 3) := by decide +kernel
theorem dX10_becomes_58 : decode cX10_becomes 58 = .ok (.iload 6, 2) := by decide +kernel
theorem dX10_becomes_60 : decode cX10_becomes 60 = .ok (.istore_n 3, 1) := by decide +kernel
theorem dX10_becomes_61 : decode cX10_becomes 61 = .ok (.iconst 0, 1) := by decide +kernel
theorem dX10_becomes_62 : decode cX10_becomes 62 = .ok (.istore 7, 2) := by decide +kernel
theorem dX10_becomes_64 : decode cX10_becomes 64 = .ok (.iload 7, 2) := by decide +kernel
theorem dX10_becomes_66 : decode cX10_becomes 66 = .ok (.iload 4, 2) := by decide +kernel
theorem dX10_becomes_68 : decode cX10_becomes 68 = .ok (.if_icmp .ge 23, 3) := by decide +kernel
theorem dX10_becomes_71 : decode cX10_becomes 71 = .ok (.aload_n 0, 1) := by decide +kernel
theorem dX10_becomes_72 : decode cX10_becomes 72 = .ok (.getfield 40, 3) := by decide +kernel
theorem dX10_becomes_75 : decode cX10_becomes 75 = .ok (.iload 7, 2) := by decide +kernel
theorem dX10_becomes_77 : decode cX10_becomes 77 = .ok (.aload_n 0, 1) := by decide +kernel
theorem dX10_becomes_78 : decode cX10_becomes 78 = .ok (.getfield 37, 3) := by decide +kernel
theorem dX10_becomes_81 : decode cX10_becomes 81 = .ok (.iload 7, 2) := by decide +kernel
theorem dX10_becomes_83 : decode cX10_becomes 83 = .ok (.iaload, 1) := by decide +kernel
theorem dX10_becomes_84 : decode cX10_becomes 84 = .ok (.iastore, 1) := by decide +kernel
theorem dX10_becomes_85 : decode cX10_becomes 85 = .ok (.iinc 7 1, 3) := by decide +kernel
theorem dX10_becomes_88 : decode cX10_becomes 88 = .ok (.goto (-24), 3) := by decide +kernel
theorem dX10_becomes_91 : decode cX10_becomes 91 = .ok (.aload_n 0, 1) := by decide +kernel
theorem dX10_becomes_92 : decode cX10_becomes 92 = .ok (.invokevirtual 148, 3) := by decide +kernel
theorem dX10_becomes_95 : decode cX10_becomes 95 = .ok (.istore 5, 2) := by decide +kernel
theorem dX10_becomes_97 : decode cX10_becomes 97 = .ok (.goto (-80), 3) := by decide +kernel
theorem dX10_becomes_100 : decode cX10_becomes 100 = .ok (.iload_n 3, 1) := by decide +kernel
theorem dX10_becomes_101 : decode cX10_becomes 101 = .ok (.ifCond .lt 39, 3) := by decide +kernel
theorem dX10_becomes_104 : decode cX10_becomes 104 = .ok (.aload_n 0, 1) := by decide +kernel
theorem dX10_becomes_105 : decode cX10_becomes 105 = .ok (.iload 4, 2) := by decide +kernel
theorem dX10_becomes_107 : decode cX10_becomes 107 = .ok (.putfield 126, 3) := by decide +kernel
theorem dX10_becomes_110 : decode cX10_becomes 110 = .ok (.iconst 0, 1) := by decide +kernel
theorem dX10_becomes_111 : decode cX10_becomes 111 = .ok (.istore 6, 2) := by decide +kernel
theorem dX10_becomes_113 : decode cX10_becomes 113 = .ok (.iload 6, 2) := by decide +kernel
theorem dX10_becomes_115 : decode cX10_becomes 115 = .ok (.iload 4, 2) := by decide +kernel
theorem dX10_becomes_117 : decode cX10_becomes 117 = .ok (.if_icmp .ge 23, 3) := by decide +kernel
theorem dX10_becomes_120 : decode cX10_becomes 120 = .ok (.aload_n 0, 1) := by decide +kernel
theorem dX10_becomes_121 : decode cX10_becomes 121 = .ok (.getfield 22, 3) := by decide +kernel
theorem dX10_becomes_124 : decode cX10_becomes 124 = .ok (.iload 6, 2) := by decide +kernel
theorem dX10_becomes_126 : decode cX10_becomes 126 = .ok (.aload_n 0, 1) := by decide +kernel
theorem dX10_becomes_127 : decode cX10_becomes 127 = .ok (.getfield 40, 3) := by decide +kernel
theorem dX10_becomes_130 : decode cX10_becomes 130 = .ok (.iload 6, 2) := by decide +kernel
theorem dX10_becomes_132 : decode cX10_becomes 132 = .ok (.iaload, 1) := by decide +kernel
theorem dX10_becomes_133 : decode cX10_becomes 133 = .ok (.iastore, 1) := by decide +kernel
theorem dX10_becomes_134 : decode cX10_becomes 134 = .ok (.iinc 6 1, 3) := by decide +kernel
theorem dX10_becomes_137 : decode cX10_becomes 137 = .ok (.goto (-24), 3) := by decide +kernel
theorem dX10_becomes_140 : decode cX10_becomes 140 = .ok (.iload_n 3, 1) := by decide +kernel
theorem dX10_becomes_141 : decode cX10_becomes 141 = .ok (.ireturn, 1) := by decide +kernel
set_option maxHeartbeats 4000000 in
set_option maxRecDepth 100000 in
theorem cX10_becomes_k_0 {l : Launch} {D : va_G} {a : Nat → Nat} {k : Nat → ClassId} {n : Nat} {p1 : Int32} {p2 : Int32} {x0 xz : bq_S} {rz : Int32} (h : fX10_becomes n p1 p2 x0 = some (rz, xz)) : bq_M l D bq_cl (bq_ty k) (bq_wM a k) yX10_becomes cX10_becomes 8 (some .int) { frames := 2, cells := 0, slots := 0, locals := 46 } [.ref (a 0), .int p1, .int p2] x0 (some rz) xz := by
  refine bq_ofW RX10 [(0, .ref (a 0)), (1, .int p1), (2, .int p2)] (by decide +kernel) rfl (Nat.le_of_ble_eq_true rfl) rfl (bq_adM a k) ?_
  intro p e s m below meth c A Q ls S hK hD hA hR hS hP hl
  have hx := S.1; have hb := S.2.1; have hml := S.2.2.1; have hown := S.2.2.2.1; have hts := S.2.2.2.2
  have hret : ∀ z, some z = some (rz, xz) → (rz, xz) = z := fun z h => (Option.some.inj h).symm
  unfold fX10_becomes at h
  refine lv_bipush (v := (-4 : Int32)) hx hb dX10_becomes_0 (by decide) ?_
  refine lv_istore_n (lv' := [(3, .int (-4 : Int32)), (0, .ref (a 0)), (1, .int p1), (2, .int p2)]) hx hb dX10_becomes_2 rfl hl (by decide) rfl (fun ls hl => ?_)
  refine lv_iload_n hx hb dX10_becomes_3 rfl (lv_at hl 2 rfl) ?_
  obtain ⟨o1, ho1, h⟩ := Option.bind_eq_some_iff.mp h
  obtain ⟨v3, x2⟩ := o1
  replace h := un2_e h
  refine bq_callSi (As := [.int _]) S hK hD hA hP hS (cX10_size_k ho1) hd_yX10_size ml_X10_129 st_yX10_size ⟨rfl, rfl⟩ ⟨by decide, by decide⟩ rfl hl.1 rfl (Nat.le_of_ble_eq_true rfl) ⟨Nat.zero_le _, Nat.zero_le _⟩ dX10_becomes_4 (fun H locs hP hS => ?_)
  refine lv_istore (lv' := [(4, .int v3), (3, .int (-4 : Int32)), (0, .ref (a 0)), (1, .int p1), (2, .int p2)]) hx hb dX10_becomes_7 hl (by decide) rfl (fun ls hl => ?_)
  refine lv_aload_n hx hb dX10_becomes_9 rfl (lv_at hl 2 rfl) ?_
  refine lv_iload_n hx hb dX10_becomes_10 rfl (lv_at hl 3 rfl) ?_
  obtain ⟨x5, ho4, h⟩ := Option.bind_eq_some_iff.mp h
  refine bq_callVv (q0 := 0) (As := [.int _]) S hK hD hA hP hS (cX10_first_k_0 ho4) hd_yX10_first ml_X10_145 in_yX10_first (hts _ sl_X10_X10_yX10_first) ⟨rfl, rfl⟩ ⟨by decide, by decide⟩ rfl rfl rfl hl.1 rfl (Nat.le_of_ble_eq_true rfl) ⟨Nat.zero_le _, Nat.zero_le _⟩ dX10_becomes_11 (fun H locs hP hS => ?_)
  refine lv_iconst (v := (1 : Int32)) hx hb dX10_becomes_14 (by decide) ?_
  refine lv_istore (lv' := [(5, .int (1 : Int32)), (4, .int v3), (3, .int (-4 : Int32)), (0, .ref (a 0)), (1, .int p1), (2, .int p2)]) hx hb dX10_becomes_15 hl (by decide) rfl (fun ls hl => ?_)
  have hl17 : ∀ (v6 : Int32) (v8 : Int32) (kf : Nat) (v7 : Int32) (v9 : Int32) (x10 : bq_S) (eo : Int32 × Int32 × bq_S) (H : Heap) (locs : List Loc) (ls : Array Slot), wh kf (fX10_becomes_b17 n v6 v8) (v7, v9, x10) = some eo → va_P D bq_cl (bq_wM a k x10) H → va_S A s.heap H locs → lv_has ls 8 [(0, .ref (a 0)), (2, .int v6), (3, .int v7), (4, .int v8), (5, .int v9)] → (∀ (H : Heap) (locs : List Loc) (ls : Array Slot) (v46 : Int32) (v47 : Int32) (x48 : bq_S), eo = (v46, v47, x48) → va_P D bq_cl (bq_wM a k x48) H → va_S A s.heap H locs → lv_has ls 8 [(0, .ref (a 0)), (3, .int v46), (4, .int v8)] → W p l e { frames := 2, cells := 0, slots := 0, locals := 46 } s m [.ref (a 0), .int p1, .int p2].toArray below meth c H locs 0 0 Q (F0 m 100 ls [])) → W p l e { frames := 2, cells := 0, slots := 0, locals := 46 } s m [.ref (a 0), .int p1, .int p2].toArray below meth c H locs 0 0 Q (F0 m 17 ls []) := by
    intro v6 v8 kf
    induction kf with
    | zero => intro v7 v9 x10 eo H locs ls h; cases h
    | succ kf ih =>
      intro v7 v9 x10 eo H locs ls h hP hS hl kx
      obtain ⟨out, h, hw⟩ := wh_s h
      unfold fX10_becomes_b17 at h
      replace h := un3_e h
      have hj91 : ∀ (v20 : Int32) (x21 : bq_S) (H : Heap) (locs : List Loc) (ls : Array Slot), fX10_becomes_j91 n v6 v20 v8 x21 = some out → va_P D bq_cl (bq_wM a k x21) H → va_S A s.heap H locs → lv_has ls 8 [(0, .ref (a 0)), (2, .int v6), (3, .int v20), (4, .int v8)] → W p l e { frames := 2, cells := 0, slots := 0, locals := 46 } s m [.ref (a 0), .int p1, .int p2].toArray below meth c H locs 0 0 Q (F0 m 91 ls []) := by
        intro v20 x21 H locs ls h hP hS hl
        unfold fX10_becomes_j91 at h
        refine lv_aload_n hx hb dX10_becomes_91 rfl (lv_at hl 0 rfl) ?_
        obtain ⟨o22, ho22, h⟩ := Option.bind_eq_some_iff.mp h
        obtain ⟨v24, x23⟩ := o22
        replace h := un2_e h
        refine bq_callVi (q0 := 0) (As := []) S hK hD hA hP hS (cX10_next_k_0 ho22) hd_yX10_next ml_X10_148 in_yX10_next (hts _ sl_X10_X10_yX10_next) ⟨rfl, rfl⟩ ⟨by decide, by decide⟩ rfl rfl rfl hl.1 rfl (Nat.le_of_ble_eq_true rfl) ⟨Nat.zero_le _, Nat.zero_le _⟩ dX10_becomes_92 (fun H locs hP hS => ?_)
        refine lv_istore (lv' := [(5, .int v24), (0, .ref (a 0)), (2, .int v6), (3, .int v20), (4, .int v8)]) hx hb dX10_becomes_95 hl (by decide) rfl (fun ls hl => ?_)
        refine lv_goto (tgt := 17) hx hb dX10_becomes_97 (by decide) ?_
        cases h
        exact ih _ _ _ _ _ _ _ hw hP hS (lv_sub hl [1, 2, 3, 4, 0] rfl) kx
      have hj58 : ∀ (v26 : Int32) (x27 : bq_S) (H : Heap) (locs : List Loc) (ls : Array Slot), fX10_becomes_j58 n v6 v8 v26 x27 = some out → va_P D bq_cl (bq_wM a k x27) H → va_S A s.heap H locs → lv_has ls 8 [(0, .ref (a 0)), (2, .int v6), (4, .int v8), (6, .int v26)] → W p l e { frames := 2, cells := 0, slots := 0, locals := 46 } s m [.ref (a 0), .int p1, .int p2].toArray below meth c H locs 0 0 Q (F0 m 58 ls []) := by
        intro v26 x27 H locs ls h hP hS hl
        unfold fX10_becomes_j58 at h
        refine lv_iload hx hb dX10_becomes_58 (lv_at hl 3 rfl) ?_
        refine lv_istore_n (lv' := [(3, .int v26), (0, .ref (a 0)), (2, .int v6), (4, .int v8), (6, .int v26)]) hx hb dX10_becomes_60 rfl hl (by decide) rfl (fun ls hl => ?_)
        refine lv_iconst (v := (0 : Int32)) hx hb dX10_becomes_61 (by decide) ?_
        refine lv_istore (lv' := [(7, .int (0 : Int32)), (3, .int v26), (0, .ref (a 0)), (2, .int v6), (4, .int v8), (6, .int v26)]) hx hb dX10_becomes_62 hl (by decide) rfl (fun ls hl => ?_)
        have hl64 : ∀ (v28 : Int32) (v29 : Int32) (v30 : Int32) (kf : Nat) (v31 : Int32) (x32 : bq_S) (eo : Int32 × bq_S) (H : Heap) (locs : List Loc) (ls : Array Slot), wh kf (fX10_becomes_b64 n v28 v29 v30) (v31, x32) = some eo → va_P D bq_cl (bq_wM a k x32) H → va_S A s.heap H locs → lv_has ls 8 [(0, .ref (a 0)), (2, .int v28), (3, .int v29), (4, .int v30), (7, .int v31)] → (∀ (H : Heap) (locs : List Loc) (ls : Array Slot) (v39 : Int32) (x40 : bq_S), eo = (v39, x40) → va_P D bq_cl (bq_wM a k x40) H → va_S A s.heap H locs → lv_has ls 8 [(0, .ref (a 0)), (2, .int v28), (3, .int v29), (4, .int v30)] → W p l e { frames := 2, cells := 0, slots := 0, locals := 46 } s m [.ref (a 0), .int p1, .int p2].toArray below meth c H locs 0 0 Q (F0 m 91 ls [])) → W p l e { frames := 2, cells := 0, slots := 0, locals := 46 } s m [.ref (a 0), .int p1, .int p2].toArray below meth c H locs 0 0 Q (F0 m 64 ls []) := by
          intro v28 v29 v30 kf
          induction kf with
          | zero => intro v31 x32 eo H locs ls h; cases h
          | succ kf ih =>
            intro v31 x32 eo H locs ls h hP hS hl kx
            obtain ⟨out, h, hw⟩ := wh_s h
            unfold fX10_becomes_b64 at h
            replace h := un2_e h
            refine lv_iload hx hb dX10_becomes_64 (lv_at hl 4 rfl) ?_
            refine lv_iload hx hb dX10_becomes_66 (lv_at hl 3 rfl) ?_
            refine lv_icmp_ge (tgt := 91) hx hb dX10_becomes_68 (by decide) (fun c33 => ?_) (fun c33 => ?_)
            · replace h := (if_pos c33).symm.trans h
              cases h
              exact kx _ _ _ _ _ (Option.some.inj hw).symm hP hS (lv_sub hl [0, 1, 2, 3] rfl)
            · replace h := (if_neg c33).symm.trans h
              refine lv_aload_n hx hb dX10_becomes_71 rfl (lv_at hl 0 rfl) ?_
              refine bq_get (q0 := 0) S hK hP fl_X10_40_X10_18 rfl rfl rfl dX10_becomes_72 ?_
              refine lv_iload hx hb dX10_becomes_75 (lv_at hl 4 rfl) ?_
              refine lv_aload_n hx hb dX10_becomes_77 rfl (lv_at hl 0 rfl) ?_
              refine bq_get (q0 := 0) S hK hP fl_X10_37_X10_16 rfl rfl rfl dX10_becomes_78 ?_
              refine lv_iload hx hb dX10_becomes_81 (lv_at hl 4 rfl) ?_
              obtain ⟨g34, h⟩ := bq_gd h
              refine va_iald (D := D) hx hb hK hP 10 0 rfl rfl g34 dX10_becomes_83 ?_
              obtain ⟨g36, h⟩ := bq_gd h
              obtain ⟨x35, hx35, h⟩ := bq_b h
              refine bq_iast (x1 := x35) (q0 := 11) (t0 := 0) S hK hD hP hS rfl rfl g36 (by rw [hx35]; rfl) dX10_becomes_84 (fun H locs hP hS => ?_)
              obtain ⟨v37, hv37, h⟩ := bq_b h
              refine lv_iinc (v := v37) (lv' := [(7, .int v37), (0, .ref (a 0)), (2, .int v28), (3, .int v29), (4, .int v30)]) hx hb dX10_becomes_85 hl (k := 4) rfl (by rw [hv37]; rfl) (by decide) rfl (fun ls hl => ?_)
              refine lv_goto (tgt := 64) hx hb dX10_becomes_88 (by decide) ?_
              cases h
              exact ih _ _ _ _ _ _ hw hP hS (lv_sub hl [1, 2, 3, 4, 0] rfl) kx
        obtain ⟨e38, he38, h⟩ := Option.bind_eq_some_iff.mp h
        refine hl64 _ _ _ n _ _ e38 _ _ _ he38 hP hS (lv_sub hl [2, 3, 1, 4, 0] rfl) (fun H locs ls v39 x40 hz hP hS hl => ?_)
        subst hz
        replace h := un2_e h
        exact hj91 _ _ _ _ _ h hP hS (lv_sub hl [0, 1, 2, 3] rfl)
      have hj39 : ∀ (v16 : Int32) (v17 : Int32) (x18 : bq_S) (H : Heap) (locs : List Loc) (ls : Array Slot), fX10_becomes_j39 n v6 v16 v8 v17 x18 = some out → va_P D bq_cl (bq_wM a k x18) H → va_S A s.heap H locs → lv_has ls 8 [(0, .ref (a 0)), (2, .int v6), (3, .int v16), (4, .int v8)] → W p l e { frames := 2, cells := 0, slots := 0, locals := 46 } s m [.ref (a 0), .int p1, .int p2].toArray below meth c H locs 0 0 Q (F0 m 39 ls [.int v17]) := by
        intro v16 v17 x18 H locs ls h hP hS hl
        unfold fX10_becomes_j39 at h
        refine lv_istore (lv' := [(6, .int v17), (0, .ref (a 0)), (2, .int v6), (3, .int v16), (4, .int v8)]) hx hb dX10_becomes_39 hl (by decide) rfl (fun ls hl => ?_)
        refine lv_iload hx hb dX10_becomes_41 (lv_at hl 0 rfl) ?_
        refine lv_bipush (v := (99 : Int32)) hx hb dX10_becomes_43 (by decide) ?_
        refine lv_icmp_ge (tgt := 91) hx hb dX10_becomes_45 (by decide) (fun c19 => ?_) (fun c19 => ?_)
        · replace h := (if_pos c19).symm.trans h
          exact hj91 _ _ _ _ _ h hP hS (lv_sub hl [1, 2, 3, 4] rfl)
        · replace h := (if_neg c19).symm.trans h
          refine lv_iload_n hx hb dX10_becomes_48 rfl (lv_at hl 3 rfl) ?_
          refine lv_if_lt (tgt := 58) hx hb dX10_becomes_49 (by decide) (fun c25 => ?_) (fun c25 => ?_)
          · replace h := (if_pos c25).symm.trans h
            exact hj58 _ _ _ _ _ h hP hS (lv_sub hl [1, 2, 4, 0] rfl)
          · replace h := (if_neg c25).symm.trans h
            refine lv_iload hx hb dX10_becomes_52 (lv_at hl 0 rfl) ?_
            refine lv_iload_n hx hb dX10_becomes_54 rfl (lv_at hl 3 rfl) ?_
            refine lv_icmp_ge (tgt := 91) hx hb dX10_becomes_55 (by decide) (fun c41 => ?_) (fun c41 => ?_)
            · replace h := (if_pos c41).symm.trans h
              exact hj91 _ _ _ _ _ h hP hS (lv_sub hl [1, 2, 3, 4] rfl)
            · replace h := (if_neg c41).symm.trans h
              exact hj58 _ _ _ _ _ h hP hS (lv_sub hl [1, 2, 4, 0] rfl)
      refine lv_iload hx hb dX10_becomes_17 (lv_at hl 4 rfl) ?_
      refine lv_if_eq (tgt := 100) hx hb dX10_becomes_19 (by decide) (fun c11 => ?_) (fun c11 => ?_)
      · replace h := (if_pos c11).symm.trans h
        cases h
        exact kx _ _ _ _ _ _ (Option.some.inj hw).symm hP hS (lv_sub hl [0, 2, 3] rfl)
      · replace h := (if_neg c11).symm.trans h
        refine lv_aload_n hx hb dX10_becomes_22 rfl (lv_at hl 0 rfl) ?_
        obtain ⟨o12, ho12, h⟩ := Option.bind_eq_some_iff.mp h
        obtain ⟨v14, x13⟩ := o12
        replace h := un2_e h
        refine bq_callVi (q0 := 0) (As := []) S hK hD hA hP hS (cX10_wrongAt_k_0 ho12) hd_yX10_wrongAt ml_X10_139 in_yX10_wrongAt (hts _ sl_X10_X10_yX10_wrongAt) ⟨rfl, rfl⟩ ⟨by decide, by decide⟩ rfl rfl rfl hl.1 rfl (Nat.le_of_ble_eq_true rfl) ⟨Nat.zero_le _, Nat.zero_le _⟩ dX10_becomes_23 (fun H locs hP hS => ?_)
        refine lv_if_ge (tgt := 37) hx hb dX10_becomes_26 (by decide) (fun c15 => ?_) (fun c15 => ?_)
        · replace h := (if_pos c15).symm.trans h
          refine lv_bipush (v := (99 : Int32)) hx hb dX10_becomes_37 (by decide) ?_
          exact hj39 _ _ _ _ _ _ h hP hS (lv_sub hl [0, 1, 2, 3] rfl)
        · replace h := (if_neg c15).symm.trans h
          refine lv_aload_n hx hb dX10_becomes_29 rfl (lv_at hl 0 rfl) ?_
          refine lv_iload_n hx hb dX10_becomes_30 rfl (lv_at hl 1 rfl) ?_
          obtain ⟨o42, ho42, h⟩ := Option.bind_eq_some_iff.mp h
          obtain ⟨v44, x43⟩ := o42
          replace h := un2_e h
          refine bq_callVi (q0 := 0) (As := [.int _]) S hK hD hA hP hS (cX10_moved_k_0 ho42) hd_yX10_moved ml_X10_155 in_yX10_moved (hts _ sl_X10_X10_yX10_moved) ⟨rfl, rfl⟩ ⟨by decide, by decide⟩ rfl rfl rfl hl.1 rfl (Nat.le_of_ble_eq_true rfl) ⟨Nat.zero_le _, Nat.zero_le _⟩ dX10_becomes_31 (fun H locs hP hS => ?_)
          refine lv_goto (tgt := 39) hx hb dX10_becomes_34 (by decide) ?_
          exact hj39 _ _ _ _ _ _ h hP hS (lv_sub hl [0, 1, 2, 3] rfl)
  obtain ⟨e45, he45, h⟩ := Option.bind_eq_some_iff.mp h
  refine hl17 _ _ n _ _ _ e45 _ _ _ he45 hP hS (lv_sub hl [3, 5, 2, 1, 0] rfl) (fun H locs ls v46 v47 x48 hz hP hS hl => ?_)
  subst hz
  replace h := un3_e h
  refine lv_iload_n hx hb dX10_becomes_100 rfl (lv_at hl 1 rfl) ?_
  refine lv_if_lt (tgt := 140) hx hb dX10_becomes_101 (by decide) (fun c49 => ?_) (fun c49 => ?_)
  · replace h := (if_pos c49).symm.trans h
    refine lv_iload_n hx hb dX10_becomes_140 rfl (lv_at hl 1 rfl) ?_
    obtain ⟨e1, e2⟩ := Prod.mk.inj (hret _ h)
    exact hR _ _ _ _ _ (congrArg some e1) rfl (by rw [e2]; exact hP) hS dX10_becomes_141
  · replace h := (if_neg c49).symm.trans h
    refine lv_aload_n hx hb dX10_becomes_104 rfl (lv_at hl 0 rfl) ?_
    refine lv_iload hx hb dX10_becomes_105 (lv_at hl 2 rfl) ?_
    obtain ⟨x50, hx50, h⟩ := bq_b h
    refine bq_put (x1 := x50) (q0 := 0) (ty := .int) S hK hD hP hS fl_X10_126_X10_6 bt_X10 rfl (by decide +kernel) rfl rfl (Nat.le_of_ble_eq_true rfl) rfl rfl (by rw [hx50]; rfl) dX10_becomes_107 (fun H locs hP hS => ?_)
    refine lv_iconst (v := (0 : Int32)) hx hb dX10_becomes_110 (by decide) ?_
    refine lv_istore (lv' := [(6, .int (0 : Int32)), (0, .ref (a 0)), (3, .int v46), (4, .int v3)]) hx hb dX10_becomes_111 hl (by decide) rfl (fun ls hl => ?_)
    have hl113 : ∀ (v51 : Int32) (v52 : Int32) (kf : Nat) (v53 : Int32) (x54 : bq_S) (eo : Int32 × bq_S) (H : Heap) (locs : List Loc) (ls : Array Slot), wh kf (fX10_becomes_b113 n v51 v52) (v53, x54) = some eo → va_P D bq_cl (bq_wM a k x54) H → va_S A s.heap H locs → lv_has ls 8 [(0, .ref (a 0)), (3, .int v51), (4, .int v52), (6, .int v53)] → (∀ (H : Heap) (locs : List Loc) (ls : Array Slot) (v61 : Int32) (x62 : bq_S), eo = (v61, x62) → va_P D bq_cl (bq_wM a k x62) H → va_S A s.heap H locs → lv_has ls 8 [(3, .int v51)] → W p l e { frames := 2, cells := 0, slots := 0, locals := 46 } s m [.ref (a 0), .int p1, .int p2].toArray below meth c H locs 0 0 Q (F0 m 140 ls [])) → W p l e { frames := 2, cells := 0, slots := 0, locals := 46 } s m [.ref (a 0), .int p1, .int p2].toArray below meth c H locs 0 0 Q (F0 m 113 ls []) := by
      intro v51 v52 kf
      induction kf with
      | zero => intro v53 x54 eo H locs ls h; cases h
      | succ kf ih =>
        intro v53 x54 eo H locs ls h hP hS hl kx
        obtain ⟨out, h, hw⟩ := wh_s h
        unfold fX10_becomes_b113 at h
        replace h := un2_e h
        refine lv_iload hx hb dX10_becomes_113 (lv_at hl 3 rfl) ?_
        refine lv_iload hx hb dX10_becomes_115 (lv_at hl 2 rfl) ?_
        refine lv_icmp_ge (tgt := 140) hx hb dX10_becomes_117 (by decide) (fun c55 => ?_) (fun c55 => ?_)
        · replace h := (if_pos c55).symm.trans h
          cases h
          exact kx _ _ _ _ _ (Option.some.inj hw).symm hP hS (lv_sub hl [1] rfl)
        · replace h := (if_neg c55).symm.trans h
          refine lv_aload_n hx hb dX10_becomes_120 rfl (lv_at hl 0 rfl) ?_
          refine bq_get (q0 := 0) S hK hP fl_X10_22_X10_7 rfl rfl rfl dX10_becomes_121 ?_
          refine lv_iload hx hb dX10_becomes_124 (lv_at hl 3 rfl) ?_
          refine lv_aload_n hx hb dX10_becomes_126 rfl (lv_at hl 0 rfl) ?_
          refine bq_get (q0 := 0) S hK hP fl_X10_40_X10_18 rfl rfl rfl dX10_becomes_127 ?_
          refine lv_iload hx hb dX10_becomes_130 (lv_at hl 3 rfl) ?_
          obtain ⟨g56, h⟩ := bq_gd h
          refine va_iald (D := D) hx hb hK hP 11 0 rfl rfl g56 dX10_becomes_132 ?_
          obtain ⟨g58, h⟩ := bq_gd h
          obtain ⟨x57, hx57, h⟩ := bq_b h
          refine bq_iast (x1 := x57) (q0 := 5) (t0 := 0) S hK hD hP hS rfl rfl g58 (by rw [hx57]; rfl) dX10_becomes_133 (fun H locs hP hS => ?_)
          obtain ⟨v59, hv59, h⟩ := bq_b h
          refine lv_iinc (v := v59) (lv' := [(6, .int v59), (0, .ref (a 0)), (3, .int v51), (4, .int v52)]) hx hb dX10_becomes_134 hl (k := 3) rfl (by rw [hv59]; rfl) (by decide) rfl (fun ls hl => ?_)
          refine lv_goto (tgt := 113) hx hb dX10_becomes_137 (by decide) ?_
          cases h
          exact ih _ _ _ _ _ _ hw hP hS (lv_sub hl [1, 2, 3, 0] rfl) kx
    obtain ⟨e60, he60, h⟩ := Option.bind_eq_some_iff.mp h
    refine hl113 _ _ n _ _ e60 _ _ _ he60 hP hS (lv_sub hl [1, 2, 3, 0] rfl) (fun H locs ls v61 x62 hz hP hS hl => ?_)
    subst hz
    replace h := un2_e h
    refine lv_iload_n hx hb dX10_becomes_140 rfl (lv_at hl 0 rfl) ?_
    obtain ⟨e1, e2⟩ := Prod.mk.inj (hret _ h)
    exact hR _ _ _ _ _ (congrArg some e1) rfl (by rw [e2]; exact hP) hS dX10_becomes_141
def fX10_put (n : Nat) (p1 : Int32) (x0 : bq_S) : Option (Int32 × bq_S) :=
  (fX10_isBook p1 x0).bind (fun o1 => un2 o1 (fun v3 x2 =>
  if v3 = 0 then
  some ((-1 : Int32), x2)
  else
  (fX10_standingSet n  x2).bind (fun o5 => un2 o5 (fun v7 x6 =>
  if ((v7 >>> (p1 &&& 31)) &&& (1 : Int32)) = (1 : Int32) then
  some ((-2 : Int32), x6)
  else
  (fX10_standingSet n  x6).bind (fun o9 => un2 o9 (fun v11 x10 =>
  (fX10_becomes n (v11 ||| ((1 : Int32) <<< (p1 &&& 31))) (-4 : Int32) x10).bind (fun o12 => un2 o12 (fun v14 x13 =>
  some (v14, x13)))))))))
theorem dX10_put_0 : decode cX10_put 0 = .ok (.aload_n 0, 1) := by decide +kernel
theorem dX10_put_1 : decode cX10_put 1 = .ok (.iload_n 1, 1) := by decide +kernel
theorem dX10_put_2 : decode cX10_put 2 = .ok (.invokevirtual 70, 3) := by decide +kernel
theorem dX10_put_5 : decode cX10_put 5 = .ok (.ifCond .ne 5, 3) := by decide +kernel
theorem dX10_put_8 : decode cX10_put 8 = .ok (.iconst (-1), 1) := by decide +kernel
theorem dX10_put_9 : decode cX10_put 9 = .ok (.ireturn, 1) := by decide +kernel
theorem dX10_put_10 : decode cX10_put 10 = .ok (.aload_n 0, 1) := by decide +kernel
theorem dX10_put_11 : decode cX10_put 11 = .ok (.invokevirtual 158, 3) := by decide +kernel
theorem dX10_put_14 : decode cX10_put 14 = .ok (.iload_n 1, 1) := by decide +kernel
theorem dX10_put_15 : decode cX10_put 15 = .ok (.ishr, 1) := by decide +kernel
theorem dX10_put_16 : decode cX10_put 16 = .ok (.iconst 1, 1) := by decide +kernel
theorem dX10_put_17 : decode cX10_put 17 = .ok (.iand, 1) := by decide +kernel
theorem dX10_put_18 : decode cX10_put 18 = .ok (.iconst 1, 1) := by decide +kernel
theorem dX10_put_19 : decode cX10_put 19 = .ok (.if_icmp .ne 8, 3) := by decide +kernel
theorem dX10_put_22 : decode cX10_put 22 = .ok (.bipush (-2), 2) := by decide +kernel
theorem dX10_put_24 : decode cX10_put 24 = .ok (.goto 17, 3) := by decide +kernel
theorem dX10_put_27 : decode cX10_put 27 = .ok (.aload_n 0, 1) := by decide +kernel
theorem dX10_put_28 : decode cX10_put 28 = .ok (.aload_n 0, 1) := by decide +kernel
theorem dX10_put_29 : decode cX10_put 29 = .ok (.invokevirtual 158, 3) := by decide +kernel
theorem dX10_put_32 : decode cX10_put 32 = .ok (.iconst 1, 1) := by decide +kernel
theorem dX10_put_33 : decode cX10_put 33 = .ok (.iload_n 1, 1) := by decide +kernel
theorem dX10_put_34 : decode cX10_put 34 = .ok (.ishl, 1) := by decide +kernel
theorem dX10_put_35 : decode cX10_put 35 = .ok (.ior, 1) := by decide +kernel
theorem dX10_put_36 : decode cX10_put 36 = .ok (.bipush (-4), 2) := by decide +kernel
theorem dX10_put_38 : decode cX10_put 38 = .ok (.invokevirtual 161, 3) := by decide +kernel
theorem dX10_put_41 : decode cX10_put 41 = .ok (.ireturn, 1) := by decide +kernel
set_option maxHeartbeats 4000000 in
set_option maxRecDepth 100000 in
theorem cX10_put_k_0 {l : Launch} {D : va_G} {a : Nat → Nat} {k : Nat → ClassId} {n : Nat} {p1 : Int32} {x0 xz : bq_S} {rz : Int32} (h : fX10_put n p1 x0 = some (rz, xz)) : bq_M l D bq_cl (bq_ty k) (bq_wM a k) yX10_put cX10_put 2 (some .int) { frames := 3, cells := 0, slots := 0, locals := 73 } [.ref (a 0), .int p1] x0 (some rz) xz := by
  refine bq_ofW RX10 [(0, .ref (a 0)), (1, .int p1)] (by decide +kernel) rfl (Nat.le_of_ble_eq_true rfl) rfl (bq_adM a k) ?_
  intro p e s m below meth c A Q ls S hK hD hA hR hS hP hl
  have hx := S.1; have hb := S.2.1; have hml := S.2.2.1; have hown := S.2.2.2.1; have hts := S.2.2.2.2
  have hret : ∀ z, some z = some (rz, xz) → (rz, xz) = z := fun z h => (Option.some.inj h).symm
  unfold fX10_put at h
  refine lv_aload_n hx hb dX10_put_0 rfl (lv_at hl 0 rfl) ?_
  refine lv_iload_n hx hb dX10_put_1 rfl (lv_at hl 1 rfl) ?_
  obtain ⟨o1, ho1, h⟩ := Option.bind_eq_some_iff.mp h
  obtain ⟨v3, x2⟩ := o1
  replace h := un2_e h
  refine bq_callVi (q0 := 0) (As := [.int _]) S hK hD hA hP hS (cX10_isBook_k_0 ho1) hd_yX10_isBook ml_X10_70 in_yX10_isBook (hts _ sl_X10_X10_yX10_isBook) ⟨rfl, rfl⟩ ⟨by decide, by decide⟩ rfl rfl rfl hl.1 rfl (Nat.le_of_ble_eq_true rfl) ⟨Nat.zero_le _, Nat.zero_le _⟩ dX10_put_2 (fun H locs hP hS => ?_)
  refine lv_if_ne (tgt := 10) hx hb dX10_put_5 (by decide) (fun c4 => ?_) (fun c4 => ?_)
  · replace h := (if_neg c4).symm.trans h
    refine lv_aload_n hx hb dX10_put_10 rfl (lv_at hl 0 rfl) ?_
    obtain ⟨o5, ho5, h⟩ := Option.bind_eq_some_iff.mp h
    obtain ⟨v7, x6⟩ := o5
    replace h := un2_e h
    refine bq_callVi (q0 := 0) (As := []) S hK hD hA hP hS (cX10_standingSet_k_0 ho5) hd_yX10_standingSet ml_X10_158 in_yX10_standingSet (hts _ sl_X10_X10_yX10_standingSet) ⟨rfl, rfl⟩ ⟨by decide, by decide⟩ rfl rfl rfl hl.1 rfl (Nat.le_of_ble_eq_true rfl) ⟨Nat.zero_le _, Nat.zero_le _⟩ dX10_put_11 (fun H locs hP hS => ?_)
    refine lv_iload_n hx hb dX10_put_14 rfl (lv_at hl 1 rfl) ?_
    refine lv_ishr hx hb dX10_put_15 ?_
    refine lv_iconst (v := (1 : Int32)) hx hb dX10_put_16 (by decide) ?_
    refine lv_iand hx hb dX10_put_17 ?_
    refine lv_iconst (v := (1 : Int32)) hx hb dX10_put_18 (by decide) ?_
    refine lv_icmp_ne (tgt := 27) hx hb dX10_put_19 (by decide) (fun c8 => ?_) (fun c8 => ?_)
    · replace h := (if_neg c8).symm.trans h
      refine lv_aload_n hx hb dX10_put_27 rfl (lv_at hl 0 rfl) ?_
      refine lv_aload_n hx hb dX10_put_28 rfl (lv_at hl 0 rfl) ?_
      obtain ⟨o9, ho9, h⟩ := Option.bind_eq_some_iff.mp h
      obtain ⟨v11, x10⟩ := o9
      replace h := un2_e h
      refine bq_callVi (q0 := 0) (As := []) S hK hD hA hP hS (cX10_standingSet_k_0 ho9) hd_yX10_standingSet ml_X10_158 in_yX10_standingSet (hts _ sl_X10_X10_yX10_standingSet) ⟨rfl, rfl⟩ ⟨by decide, by decide⟩ rfl rfl rfl hl.1 rfl (Nat.le_of_ble_eq_true rfl) ⟨Nat.zero_le _, Nat.zero_le _⟩ dX10_put_29 (fun H locs hP hS => ?_)
      refine lv_iconst (v := (1 : Int32)) hx hb dX10_put_32 (by decide) ?_
      refine lv_iload_n hx hb dX10_put_33 rfl (lv_at hl 1 rfl) ?_
      refine lv_ishl hx hb dX10_put_34 ?_
      refine lv_ior hx hb dX10_put_35 ?_
      refine lv_bipush (v := (-4 : Int32)) hx hb dX10_put_36 (by decide) ?_
      obtain ⟨o12, ho12, h⟩ := Option.bind_eq_some_iff.mp h
      obtain ⟨v14, x13⟩ := o12
      replace h := un2_e h
      refine bq_callVi (q0 := 0) (As := [.int _, .int _]) S hK hD hA hP hS (cX10_becomes_k_0 ho12) hd_yX10_becomes ml_X10_161 in_yX10_becomes (hts _ sl_X10_X10_yX10_becomes) ⟨rfl, rfl⟩ ⟨by decide, by decide⟩ rfl rfl rfl hl.1 rfl (Nat.le_of_ble_eq_true rfl) ⟨Nat.zero_le _, Nat.zero_le _⟩ dX10_put_38 (fun H locs hP hS => ?_)
      obtain ⟨e1, e2⟩ := Prod.mk.inj (hret _ h)
      exact hR _ _ _ _ _ (congrArg some e1) rfl (by rw [e2]; exact hP) hS dX10_put_41
    · replace h := (if_pos c8).symm.trans h
      refine lv_bipush (v := (-2 : Int32)) hx hb dX10_put_22 (by decide) ?_
      refine lv_goto (tgt := 41) hx hb dX10_put_24 (by decide) ?_
      obtain ⟨e1, e2⟩ := Prod.mk.inj (hret _ h)
      exact hR _ _ _ _ _ (congrArg some e1) rfl (by rw [e2]; exact hP) hS dX10_put_41
  · replace h := (if_pos c4).symm.trans h
    refine lv_iconst (v := (-1 : Int32)) hx hb dX10_put_8 (by decide) ?_
    obtain ⟨e1, e2⟩ := Prod.mk.inj (hret _ h)
    exact hR _ _ _ _ _ (congrArg some e1) rfl (by rw [e2]; exact hP) hS dX10_put_9
def fX10_lend (n : Nat) (p1 : Int32) (x0 : bq_S) : Option (Int32 × bq_S) :=
  (fX10_isBook p1 x0).bind (fun o1 => un2 o1 (fun v3 x2 =>
  if v3 = 0 then
  some ((-1 : Int32), x2)
  else
  (fX10_standingSet n  x2).bind (fun o5 => un2 o5 (fun v7 x6 =>
  if ((v7 >>> (p1 &&& 31)) &&& (1 : Int32)) = 0 then
  some ((-2 : Int32), x6)
  else
  (fX10_standingSet n  x6).bind (fun o9 => un2 o9 (fun v11 x10 =>
  (fX10_becomes n (v11 &&& (((1 : Int32) <<< (p1 &&& 31)) ^^^ (-1 : Int32))) p1 x10).bind (fun o12 => un2 o12 (fun v14 x13 =>
  some (v14, x13)))))))))
theorem dX10_lend_0 : decode cX10_lend 0 = .ok (.aload_n 0, 1) := by decide +kernel
theorem dX10_lend_1 : decode cX10_lend 1 = .ok (.iload_n 1, 1) := by decide +kernel
theorem dX10_lend_2 : decode cX10_lend 2 = .ok (.invokevirtual 70, 3) := by decide +kernel
theorem dX10_lend_5 : decode cX10_lend 5 = .ok (.ifCond .ne 5, 3) := by decide +kernel
theorem dX10_lend_8 : decode cX10_lend 8 = .ok (.iconst (-1), 1) := by decide +kernel
theorem dX10_lend_9 : decode cX10_lend 9 = .ok (.ireturn, 1) := by decide +kernel
theorem dX10_lend_10 : decode cX10_lend 10 = .ok (.aload_n 0, 1) := by decide +kernel
theorem dX10_lend_11 : decode cX10_lend 11 = .ok (.invokevirtual 158, 3) := by decide +kernel
theorem dX10_lend_14 : decode cX10_lend 14 = .ok (.iload_n 1, 1) := by decide +kernel
theorem dX10_lend_15 : decode cX10_lend 15 = .ok (.ishr, 1) := by decide +kernel
theorem dX10_lend_16 : decode cX10_lend 16 = .ok (.iconst 1, 1) := by decide +kernel
theorem dX10_lend_17 : decode cX10_lend 17 = .ok (.iand, 1) := by decide +kernel
theorem dX10_lend_18 : decode cX10_lend 18 = .ok (.ifCond .ne 8, 3) := by decide +kernel
theorem dX10_lend_21 : decode cX10_lend 21 = .ok (.bipush (-2), 2) := by decide +kernel
theorem dX10_lend_23 : decode cX10_lend 23 = .ok (.goto 18, 3) := by decide +kernel
theorem dX10_lend_26 : decode cX10_lend 26 = .ok (.aload_n 0, 1) := by decide +kernel
theorem dX10_lend_27 : decode cX10_lend 27 = .ok (.aload_n 0, 1) := by decide +kernel
theorem dX10_lend_28 : decode cX10_lend 28 = .ok (.invokevirtual 158, 3) := by decide +kernel
theorem dX10_lend_31 : decode cX10_lend 31 = .ok (.iconst 1, 1) := by decide +kernel
theorem dX10_lend_32 : decode cX10_lend 32 = .ok (.iload_n 1, 1) := by decide +kernel
theorem dX10_lend_33 : decode cX10_lend 33 = .ok (.ishl, 1) := by decide +kernel
theorem dX10_lend_34 : decode cX10_lend 34 = .ok (.iconst (-1), 1) := by decide +kernel
theorem dX10_lend_35 : decode cX10_lend 35 = .ok (.ixor, 1) := by decide +kernel
theorem dX10_lend_36 : decode cX10_lend 36 = .ok (.iand, 1) := by decide +kernel
theorem dX10_lend_37 : decode cX10_lend 37 = .ok (.iload_n 1, 1) := by decide +kernel
theorem dX10_lend_38 : decode cX10_lend 38 = .ok (.invokevirtual 161, 3) := by decide +kernel
theorem dX10_lend_41 : decode cX10_lend 41 = .ok (.ireturn, 1) := by decide +kernel
set_option maxHeartbeats 4000000 in
set_option maxRecDepth 100000 in
theorem cX10_lend_k_0 {l : Launch} {D : va_G} {a : Nat → Nat} {k : Nat → ClassId} {n : Nat} {p1 : Int32} {x0 xz : bq_S} {rz : Int32} (h : fX10_lend n p1 x0 = some (rz, xz)) : bq_M l D bq_cl (bq_ty k) (bq_wM a k) yX10_lend cX10_lend 2 (some .int) { frames := 3, cells := 0, slots := 0, locals := 73 } [.ref (a 0), .int p1] x0 (some rz) xz := by
  refine bq_ofW RX10 [(0, .ref (a 0)), (1, .int p1)] (by decide +kernel) rfl (Nat.le_of_ble_eq_true rfl) rfl (bq_adM a k) ?_
  intro p e s m below meth c A Q ls S hK hD hA hR hS hP hl
  have hx := S.1; have hb := S.2.1; have hml := S.2.2.1; have hown := S.2.2.2.1; have hts := S.2.2.2.2
  have hret : ∀ z, some z = some (rz, xz) → (rz, xz) = z := fun z h => (Option.some.inj h).symm
  unfold fX10_lend at h
  refine lv_aload_n hx hb dX10_lend_0 rfl (lv_at hl 0 rfl) ?_
  refine lv_iload_n hx hb dX10_lend_1 rfl (lv_at hl 1 rfl) ?_
  obtain ⟨o1, ho1, h⟩ := Option.bind_eq_some_iff.mp h
  obtain ⟨v3, x2⟩ := o1
  replace h := un2_e h
  refine bq_callVi (q0 := 0) (As := [.int _]) S hK hD hA hP hS (cX10_isBook_k_0 ho1) hd_yX10_isBook ml_X10_70 in_yX10_isBook (hts _ sl_X10_X10_yX10_isBook) ⟨rfl, rfl⟩ ⟨by decide, by decide⟩ rfl rfl rfl hl.1 rfl (Nat.le_of_ble_eq_true rfl) ⟨Nat.zero_le _, Nat.zero_le _⟩ dX10_lend_2 (fun H locs hP hS => ?_)
  refine lv_if_ne (tgt := 10) hx hb dX10_lend_5 (by decide) (fun c4 => ?_) (fun c4 => ?_)
  · replace h := (if_neg c4).symm.trans h
    refine lv_aload_n hx hb dX10_lend_10 rfl (lv_at hl 0 rfl) ?_
    obtain ⟨o5, ho5, h⟩ := Option.bind_eq_some_iff.mp h
    obtain ⟨v7, x6⟩ := o5
    replace h := un2_e h
    refine bq_callVi (q0 := 0) (As := []) S hK hD hA hP hS (cX10_standingSet_k_0 ho5) hd_yX10_standingSet ml_X10_158 in_yX10_standingSet (hts _ sl_X10_X10_yX10_standingSet) ⟨rfl, rfl⟩ ⟨by decide, by decide⟩ rfl rfl rfl hl.1 rfl (Nat.le_of_ble_eq_true rfl) ⟨Nat.zero_le _, Nat.zero_le _⟩ dX10_lend_11 (fun H locs hP hS => ?_)
    refine lv_iload_n hx hb dX10_lend_14 rfl (lv_at hl 1 rfl) ?_
    refine lv_ishr hx hb dX10_lend_15 ?_
    refine lv_iconst (v := (1 : Int32)) hx hb dX10_lend_16 (by decide) ?_
    refine lv_iand hx hb dX10_lend_17 ?_
    refine lv_if_ne (tgt := 26) hx hb dX10_lend_18 (by decide) (fun c8 => ?_) (fun c8 => ?_)
    · replace h := (if_neg c8).symm.trans h
      refine lv_aload_n hx hb dX10_lend_26 rfl (lv_at hl 0 rfl) ?_
      refine lv_aload_n hx hb dX10_lend_27 rfl (lv_at hl 0 rfl) ?_
      obtain ⟨o9, ho9, h⟩ := Option.bind_eq_some_iff.mp h
      obtain ⟨v11, x10⟩ := o9
      replace h := un2_e h
      refine bq_callVi (q0 := 0) (As := []) S hK hD hA hP hS (cX10_standingSet_k_0 ho9) hd_yX10_standingSet ml_X10_158 in_yX10_standingSet (hts _ sl_X10_X10_yX10_standingSet) ⟨rfl, rfl⟩ ⟨by decide, by decide⟩ rfl rfl rfl hl.1 rfl (Nat.le_of_ble_eq_true rfl) ⟨Nat.zero_le _, Nat.zero_le _⟩ dX10_lend_28 (fun H locs hP hS => ?_)
      refine lv_iconst (v := (1 : Int32)) hx hb dX10_lend_31 (by decide) ?_
      refine lv_iload_n hx hb dX10_lend_32 rfl (lv_at hl 1 rfl) ?_
      refine lv_ishl hx hb dX10_lend_33 ?_
      refine lv_iconst (v := (-1 : Int32)) hx hb dX10_lend_34 (by decide) ?_
      refine lv_ixor hx hb dX10_lend_35 ?_
      refine lv_iand hx hb dX10_lend_36 ?_
      refine lv_iload_n hx hb dX10_lend_37 rfl (lv_at hl 1 rfl) ?_
      obtain ⟨o12, ho12, h⟩ := Option.bind_eq_some_iff.mp h
      obtain ⟨v14, x13⟩ := o12
      replace h := un2_e h
      refine bq_callVi (q0 := 0) (As := [.int _, .int _]) S hK hD hA hP hS (cX10_becomes_k_0 ho12) hd_yX10_becomes ml_X10_161 in_yX10_becomes (hts _ sl_X10_X10_yX10_becomes) ⟨rfl, rfl⟩ ⟨by decide, by decide⟩ rfl rfl rfl hl.1 rfl (Nat.le_of_ble_eq_true rfl) ⟨Nat.zero_le _, Nat.zero_le _⟩ dX10_lend_38 (fun H locs hP hS => ?_)
      obtain ⟨e1, e2⟩ := Prod.mk.inj (hret _ h)
      exact hR _ _ _ _ _ (congrArg some e1) rfl (by rw [e2]; exact hP) hS dX10_lend_41
    · replace h := (if_pos c8).symm.trans h
      refine lv_bipush (v := (-2 : Int32)) hx hb dX10_lend_21 (by decide) ?_
      refine lv_goto (tgt := 41) hx hb dX10_lend_23 (by decide) ?_
      obtain ⟨e1, e2⟩ := Prod.mk.inj (hret _ h)
      exact hR _ _ _ _ _ (congrArg some e1) rfl (by rw [e2]; exact hP) hS dX10_lend_41
  · replace h := (if_pos c4).symm.trans h
    refine lv_iconst (v := (-1 : Int32)) hx hb dX10_lend_8 (by decide) ?_
    obtain ⟨e1, e2⟩ := Prod.mk.inj (hret _ h)
    exact hR _ _ _ _ _ (congrArg some e1) rfl (by rw [e2]; exact hP) hS dX10_lend_9
def fX10_forges_b36 (n : Nat) (v6 : Int32) (v : Int32 × Int32 × bq_S) : Option ((Int32 × Int32 × bq_S) ⊕ (Int32 × Int32 × bq_S)) :=
  un3 v (fun v5 v7 x8 =>
  if v6 ≤ v7 then
  some (.inr (v5, v7, x8))
  else
  if ok_i v7 8 then
  bd (x8.1 10 v7.toNatClampNeg) (fun v11 =>
  if ¬ (x8.1 0 17) = 0 then
  if ok_i ((v7 + (1 : Int32)) - (v7 + (1 : Int32)) / (x8.1 0 17) * (x8.1 0 17)) 8 then
  bd (x8.1 10 ((v7 + (1 : Int32)) - (v7 + (1 : Int32)) / (x8.1 0 17) * (x8.1 0 17)).toNatClampNeg) (fun v14 =>
  if (98 : Int32) < v5 then
  bd (v7 + (1 : Int32)) (fun v16 =>
  some (.inl ((99 : Int32), v16, x8)))
  else
  if ok_i v11 8 then
  if (((x8.1 3 v11.toNatClampNeg) >>> (v14 &&& 31)) &&& (1 : Int32)) = (1 : Int32) then
  bd (v7 + (1 : Int32)) (fun v26 =>
  some (.inl ((99 : Int32), v26, x8)))
  else
  (fX10_mayTouch v11 v14 x8).bind (fun o19 => un2 o19 (fun v21 x20 =>
  if v21 = 0 then
  bd (v5 + (1 : Int32)) (fun v23 =>
  bd (v7 + (1 : Int32)) (fun v24 =>
  some (.inl (v23, v24, x20))))
  else
  bd (v7 + (1 : Int32)) (fun v25 =>
  some (.inl (v5, v25, x20)))))
  else none)
  else none
  else none)
  else none)
def fX10_forges_j33 (n : Nat) (v2 : Int32) (v3 : Int32) (x4 : bq_S) : Option (Int32 × bq_S) :=
  (wh n (fX10_forges_b36 n v3) (v2, (0 : Int32), x4)).bind (fun e27 => un3 e27 (fun v28 v29 x30 =>
  some (v28, x30)))
def fX10_forges (n : Nat) (x0 : bq_S) : Option (Int32 × bq_S) :=
  if (x0.1 4 (0 : Int32).toNatClampNeg) = (1 : Int32) then
  if (x0.1 0 17) ≤ (2 : Int32) then
  fX10_forges_j33 n (0 : Int32) ((x0.1 0 17) - (1 : Int32)) x0
  else
  fX10_forges_j33 n (0 : Int32) (x0.1 0 17) x0
  else
  fX10_forges_j33 n (0 : Int32) ((x0.1 0 17) - (1 : Int32)) x0
theorem dX10_forges_0 : decode cX10_forges 0 = .ok (.iconst 0, 1) := by decide +kernel
theorem dX10_forges_1 : decode cX10_forges 1 = .ok (.istore_n 1, 1) := by decide +kernel
theorem dX10_forges_2 : decode cX10_forges 2 = .ok (.aload_n 0, 1) := by decide +kernel
theorem dX10_forges_3 : decode cX10_forges 3 = .ok (.getfield 19, 3) := by decide +kernel
theorem dX10_forges_6 : decode cX10_forges 6 = .ok (.iconst 0, 1) := by decide +kernel
theorem dX10_forges_7 : decode cX10_forges 7 = .ok (.iaload, 1) := by decide +kernel
theorem dX10_forges_8 : decode cX10_forges 8 = .ok (.iconst 1, 1) := by decide +kernel
theorem dX10_forges_9 : decode cX10_forges 9 = .ok (.if_icmp .ne 18, 3) := by decide +kernel
theorem dX10_forges_12 : decode cX10_forges 12 = .ok (.aload_n 0, 1) := by decide +kernel
theorem dX10_forges_13 : decode cX10_forges 13 = .ok (.getfield 133, 3) := by decide +kernel
theorem dX10_forges_16 : decode cX10_forges 16 = .ok (.iconst 2, 1) := by decide +kernel
theorem dX10_forges_17 : decode cX10_forges 17 = .ok (.if_icmp .le 10, 3) := by decide +kernel
theorem dX10_forges_20 : decode cX10_forges 20 = .ok (.aload_n 0, 1) := by decide +kernel
theorem dX10_forges_21 : decode cX10_forges 21 = .ok (.getfield 133, 3) := by decide +kernel
theorem dX10_forges_24 : decode cX10_forges 24 = .ok (.goto 9, 3) := by decide +kernel
theorem dX10_forges_27 : decode cX10_forges 27 = .ok (.aload_n 0, 1) := by decide +kernel
theorem dX10_forges_28 : decode cX10_forges 28 = .ok (.getfield 133, 3) := by decide +kernel
theorem dX10_forges_31 : decode cX10_forges 31 = .ok (.iconst 1, 1) := by decide +kernel
theorem dX10_forges_32 : decode cX10_forges 32 = .ok (.isub, 1) := by decide +kernel
theorem dX10_forges_33 : decode cX10_forges 33 = .ok (.istore_n 2, 1) := by decide +kernel
theorem dX10_forges_34 : decode cX10_forges 34 = .ok (.iconst 0, 1) := by decide +kernel
theorem dX10_forges_35 : decode cX10_forges 35 = .ok (.istore_n 3, 1) := by decide +kernel
theorem dX10_forges_36 : decode cX10_forges 36 = .ok (.iload_n 3, 1) := by decide +kernel
theorem dX10_forges_37 : decode cX10_forges 37 = .ok (.iload_n 2, 1) := by decide +kernel
theorem dX10_forges_38 : decode cX10_forges 38 = .ok (.if_icmp .ge 78, 3) := by decide +kernel
theorem dX10_forges_41 : decode cX10_forges 41 = .ok (.aload_n 0, 1) := by decide +kernel
theorem dX10_forges_42 : decode cX10_forges 42 = .ok (.getfield 37, 3) := by decide +kernel
theorem dX10_forges_45 : decode cX10_forges 45 = .ok (.iload_n 3, 1) := by decide +kernel
theorem dX10_forges_46 : decode cX10_forges 46 = .ok (.iaload, 1) := by decide +kernel
theorem dX10_forges_47 : decode cX10_forges 47 = .ok (.istore 4, 2) := by decide +kernel
theorem dX10_forges_49 : decode cX10_forges 49 = .ok (.aload_n 0, 1) := by decide +kernel
theorem dX10_forges_50 : decode cX10_forges 50 = .ok (.getfield 37, 3) := by decide +kernel
theorem dX10_forges_53 : decode cX10_forges 53 = .ok (.iload_n 3, 1) := by decide +kernel
theorem dX10_forges_54 : decode cX10_forges 54 = .ok (.iconst 1, 1) := by decide +kernel
theorem dX10_forges_55 : decode cX10_forges 55 = .ok (.iadd, 1) := by decide +kernel
theorem dX10_forges_56 : decode cX10_forges 56 = .ok (.aload_n 0, 1) := by decide +kernel
theorem dX10_forges_57 : decode cX10_forges 57 = .ok (.getfield 133, 3) := by decide +kernel
theorem dX10_forges_60 : decode cX10_forges 60 = .ok (.irem, 1) := by decide +kernel
theorem dX10_forges_61 : decode cX10_forges 61 = .ok (.iaload, 1) := by decide +kernel
theorem dX10_forges_62 : decode cX10_forges 62 = .ok (.istore 5, 2) := by decide +kernel
theorem dX10_forges_64 : decode cX10_forges 64 = .ok (.iload_n 1, 1) := by decide +kernel
theorem dX10_forges_65 : decode cX10_forges 65 = .ok (.bipush 98, 2) := by decide +kernel
theorem dX10_forges_67 : decode cX10_forges 67 = .ok (.if_icmp .gt 19, 3) := by decide +kernel
theorem dX10_forges_70 : decode cX10_forges 70 = .ok (.aload_n 0, 1) := by decide +kernel
theorem dX10_forges_71 : decode cX10_forges 71 = .ok (.getfield 16, 3) := by decide +kernel
theorem dX10_forges_74 : decode cX10_forges 74 = .ok (.iload 4, 2) := by decide +kernel
theorem dX10_forges_76 : decode cX10_forges 76 = .ok (.iaload, 1) := by decide +kernel
theorem dX10_forges_77 : decode cX10_forges 77 = .ok (.iload 5, 2) := by decide +kernel
theorem dX10_forges_79 : decode cX10_forges 79 = .ok (.ishr, 1) := by decide +kernel
theorem dX10_forges_80 : decode cX10_forges 80 = .ok (.iconst 1, 1) := by decide +kernel
theorem dX10_forges_81 : decode cX10_forges 81 = .ok (.iand, 1) := by decide +kernel
theorem dX10_forges_82 : decode cX10_forges 82 = .ok (.iconst 1, 1) := by decide +kernel
theorem dX10_forges_83 : decode cX10_forges 83 = .ok (.if_icmp .ne 8, 3) := by decide +kernel
theorem dX10_forges_86 : decode cX10_forges 86 = .ok (.bipush 99, 2) := by decide +kernel
theorem dX10_forges_88 : decode cX10_forges 88 = .ok (.goto 21, 3) := by decide +kernel
theorem dX10_forges_91 : decode cX10_forges 91 = .ok (.aload_n 0, 1) := by decide +kernel
theorem dX10_forges_92 : decode cX10_forges 92 = .ok (.iload 4, 2) := by decide +kernel
theorem dX10_forges_94 : decode cX10_forges 94 = .ok (.iload 5, 2) := by decide +kernel
theorem dX10_forges_96 : decode cX10_forges 96 = .ok (.invokevirtual 83, 3) := by decide +kernel
theorem dX10_forges_99 : decode cX10_forges 99 = .ok (.ifCond .eq 7, 3) := by decide +kernel
theorem dX10_forges_102 : decode cX10_forges 102 = .ok (.iload_n 1, 1) := by decide +kernel
theorem dX10_forges_103 : decode cX10_forges 103 = .ok (.goto 6, 3) := by decide +kernel
theorem dX10_forges_106 : decode cX10_forges 106 = .ok (.iload_n 1, 1) := by decide +kernel
theorem dX10_forges_107 : decode cX10_forges 107 = .ok (.iconst 1, 1) := by decide +kernel
theorem dX10_forges_108 : decode cX10_forges 108 = .ok (.iadd, 1) := by decide +kernel
theorem dX10_forges_109 : decode cX10_forges 109 = .ok (.istore_n 1, 1) := by decide +kernel
theorem dX10_forges_110 : decode cX10_forges 110 = .ok (.iinc 3 1, 3) := by decide +kernel
theorem dX10_forges_113 : decode cX10_forges 113 = .ok (.goto (-77), 3) := by decide +kernel
theorem dX10_forges_116 : decode cX10_forges 116 = .ok (.iload_n 1, 1) := by decide +kernel
theorem dX10_forges_117 : decode cX10_forges 117 = .ok (.ireturn, 1) := by decide +kernel
set_option maxHeartbeats 4000000 in
set_option maxRecDepth 100000 in
theorem cX10_forges_k_0 {l : Launch} {D : va_G} {a : Nat → Nat} {k : Nat → ClassId} {n : Nat} {x0 xz : bq_S} {rz : Int32} (h : fX10_forges n  x0 = some (rz, xz)) : bq_M l D bq_cl (bq_ty k) (bq_wM a k) yX10_forges cX10_forges 6 (some .int) { frames := 1, cells := 0, slots := 0, locals := 25 } [.ref (a 0)] x0 (some rz) xz := by
  refine bq_ofW RX10 [(0, .ref (a 0))] (by decide +kernel) rfl (Nat.le_of_ble_eq_true rfl) rfl (bq_adM a k) ?_
  intro p e s m below meth c A Q ls S hK hD hA hR hS hP hl
  have hx := S.1; have hb := S.2.1; have hml := S.2.2.1; have hown := S.2.2.2.1; have hts := S.2.2.2.2
  have hret : ∀ z, some z = some (rz, xz) → (rz, xz) = z := fun z h => (Option.some.inj h).symm
  unfold fX10_forges at h
  have hj33 : ∀ (v2 : Int32) (v3 : Int32) (x4 : bq_S) (H : Heap) (locs : List Loc) (ls : Array Slot), fX10_forges_j33 n v2 v3 x4 = some (rz, xz) → va_P D bq_cl (bq_wM a k x4) H → va_S A s.heap H locs → lv_has ls 6 [(0, .ref (a 0)), (1, .int v2)] → W p l e { frames := 1, cells := 0, slots := 0, locals := 25 } s m [.ref (a 0)].toArray below meth c H locs 0 0 Q (F0 m 33 ls [.int v3]) := by
    intro v2 v3 x4 H locs ls h hP hS hl
    unfold fX10_forges_j33 at h
    refine lv_istore_n (lv' := [(2, .int v3), (0, .ref (a 0)), (1, .int v2)]) hx hb dX10_forges_33 rfl hl (by decide) rfl (fun ls hl => ?_)
    refine lv_iconst (v := (0 : Int32)) hx hb dX10_forges_34 (by decide) ?_
    refine lv_istore_n (lv' := [(3, .int (0 : Int32)), (2, .int v3), (0, .ref (a 0)), (1, .int v2)]) hx hb dX10_forges_35 rfl hl (by decide) rfl (fun ls hl => ?_)
    have hl36 : ∀ (v6 : Int32) (kf : Nat) (v5 : Int32) (v7 : Int32) (x8 : bq_S) (eo : Int32 × Int32 × bq_S) (H : Heap) (locs : List Loc) (ls : Array Slot), wh kf (fX10_forges_b36 n v6) (v5, v7, x8) = some eo → va_P D bq_cl (bq_wM a k x8) H → va_S A s.heap H locs → lv_has ls 6 [(0, .ref (a 0)), (1, .int v5), (2, .int v6), (3, .int v7)] → (∀ (H : Heap) (locs : List Loc) (ls : Array Slot) (v28 : Int32) (v29 : Int32) (x30 : bq_S), eo = (v28, v29, x30) → va_P D bq_cl (bq_wM a k x30) H → va_S A s.heap H locs → lv_has ls 6 [(1, .int v28)] → W p l e { frames := 1, cells := 0, slots := 0, locals := 25 } s m [.ref (a 0)].toArray below meth c H locs 0 0 Q (F0 m 116 ls [])) → W p l e { frames := 1, cells := 0, slots := 0, locals := 25 } s m [.ref (a 0)].toArray below meth c H locs 0 0 Q (F0 m 36 ls []) := by
      intro v6 kf
      induction kf with
      | zero => intro v5 v7 x8 eo H locs ls h; cases h
      | succ kf ih =>
        intro v5 v7 x8 eo H locs ls h hP hS hl kx
        obtain ⟨out, h, hw⟩ := wh_s h
        unfold fX10_forges_b36 at h
        replace h := un3_e h
        refine lv_iload_n hx hb dX10_forges_36 rfl (lv_at hl 3 rfl) ?_
        refine lv_iload_n hx hb dX10_forges_37 rfl (lv_at hl 2 rfl) ?_
        refine lv_icmp_ge (tgt := 116) hx hb dX10_forges_38 (by decide) (fun c9 => ?_) (fun c9 => ?_)
        · replace h := (if_pos c9).symm.trans h
          cases h
          exact kx _ _ _ _ _ _ (Option.some.inj hw).symm hP hS (lv_sub hl [1] rfl)
        · replace h := (if_neg c9).symm.trans h
          refine lv_aload_n hx hb dX10_forges_41 rfl (lv_at hl 0 rfl) ?_
          refine bq_get (q0 := 0) S hK hP fl_X10_37_X10_16 rfl rfl rfl dX10_forges_42 ?_
          refine lv_iload_n hx hb dX10_forges_45 rfl (lv_at hl 3 rfl) ?_
          obtain ⟨g10, h⟩ := bq_gd h
          refine va_iald (D := D) hx hb hK hP 10 0 rfl rfl g10 dX10_forges_46 ?_
          refine lv_topi (fun v11 hv11 => ?_)
          replace h := bq_bv h hv11
          refine lv_istore (lv' := [(4, .int v11), (0, .ref (a 0)), (1, .int v5), (2, .int v6), (3, .int v7)]) hx hb dX10_forges_47 hl (by decide) rfl (fun ls hl => ?_)
          refine lv_aload_n hx hb dX10_forges_49 rfl (lv_at hl 1 rfl) ?_
          refine bq_get (q0 := 0) S hK hP fl_X10_37_X10_16 rfl rfl rfl dX10_forges_50 ?_
          refine lv_iload_n hx hb dX10_forges_53 rfl (lv_at hl 4 rfl) ?_
          refine lv_iconst (v := (1 : Int32)) hx hb dX10_forges_54 (by decide) ?_
          refine lv_iadd hx hb dX10_forges_55 ?_
          refine lv_aload_n hx hb dX10_forges_56 rfl (lv_at hl 1 rfl) ?_
          refine bq_get (q0 := 0) S hK hP fl_X10_133_X10_17 rfl rfl rfl dX10_forges_57 ?_
          obtain ⟨g12, h⟩ := bq_gp h
          refine lv_irem hx hb dX10_forges_60 g12 ?_
          obtain ⟨g13, h⟩ := bq_gd h
          refine va_iald (D := D) hx hb hK hP 10 0 rfl rfl g13 dX10_forges_61 ?_
          refine lv_topi (fun v14 hv14 => ?_)
          replace h := bq_bv h hv14
          refine lv_istore (lv' := [(5, .int v14), (4, .int v11), (0, .ref (a 0)), (1, .int v5), (2, .int v6), (3, .int v7)]) hx hb dX10_forges_62 hl (by decide) rfl (fun ls hl => ?_)
          refine lv_iload_n hx hb dX10_forges_64 rfl (lv_at hl 3 rfl) ?_
          refine lv_bipush (v := (98 : Int32)) hx hb dX10_forges_65 (by decide) ?_
          refine lv_icmp_gt (tgt := 86) hx hb dX10_forges_67 (by decide) (fun c15 => ?_) (fun c15 => ?_)
          · replace h := (if_pos c15).symm.trans h
            refine lv_bipush (v := (99 : Int32)) hx hb dX10_forges_86 (by decide) ?_
            refine lv_goto (tgt := 109) hx hb dX10_forges_88 (by decide) ?_
            refine lv_istore_n (lv' := [(1, .int (99 : Int32)), (5, .int v14), (4, .int v11), (0, .ref (a 0)), (2, .int v6), (3, .int v7)]) hx hb dX10_forges_109 rfl hl (by decide) rfl (fun ls hl => ?_)
            obtain ⟨v16, hv16, h⟩ := bq_b h
            refine lv_iinc (v := v16) (lv' := [(3, .int v16), (1, .int (99 : Int32)), (5, .int v14), (4, .int v11), (0, .ref (a 0)), (2, .int v6)]) hx hb dX10_forges_110 hl (k := 5) rfl (by rw [hv16]; rfl) (by decide) rfl (fun ls hl => ?_)
            refine lv_goto (tgt := 36) hx hb dX10_forges_113 (by decide) ?_
            cases h
            exact ih _ _ _ _ _ _ _ hw hP hS (lv_sub hl [4, 1, 5, 0] rfl) kx
          · replace h := (if_neg c15).symm.trans h
            refine lv_aload_n hx hb dX10_forges_70 rfl (lv_at hl 2 rfl) ?_
            refine bq_get (q0 := 0) S hK hP fl_X10_16_X10_3 rfl rfl rfl dX10_forges_71 ?_
            refine lv_iload hx hb dX10_forges_74 (lv_at hl 1 rfl) ?_
            obtain ⟨g17, h⟩ := bq_gd h
            refine va_iald (D := D) hx hb hK hP 3 0 rfl rfl g17 dX10_forges_76 ?_
            refine lv_iload hx hb dX10_forges_77 (lv_at hl 0 rfl) ?_
            refine lv_ishr hx hb dX10_forges_79 ?_
            refine lv_iconst (v := (1 : Int32)) hx hb dX10_forges_80 (by decide) ?_
            refine lv_iand hx hb dX10_forges_81 ?_
            refine lv_iconst (v := (1 : Int32)) hx hb dX10_forges_82 (by decide) ?_
            refine lv_icmp_ne (tgt := 91) hx hb dX10_forges_83 (by decide) (fun c18 => ?_) (fun c18 => ?_)
            · replace h := (if_neg c18).symm.trans h
              refine lv_aload_n hx hb dX10_forges_91 rfl (lv_at hl 2 rfl) ?_
              refine lv_iload hx hb dX10_forges_92 (lv_at hl 1 rfl) ?_
              refine lv_iload hx hb dX10_forges_94 (lv_at hl 0 rfl) ?_
              obtain ⟨o19, ho19, h⟩ := Option.bind_eq_some_iff.mp h
              obtain ⟨v21, x20⟩ := o19
              replace h := un2_e h
              refine bq_callVi (q0 := 0) (As := [.int _, .int _]) S hK hD hA hP hS (cX10_mayTouch_k_0 ho19) hd_yX10_mayTouch ml_X10_83 in_yX10_mayTouch (hts _ sl_X10_X10_yX10_mayTouch) ⟨rfl, rfl⟩ ⟨by decide, by decide⟩ rfl rfl rfl hl.1 rfl (Nat.le_of_ble_eq_true rfl) ⟨Nat.zero_le _, Nat.zero_le _⟩ dX10_forges_96 (fun H locs hP hS => ?_)
              refine lv_if_eq (tgt := 106) hx hb dX10_forges_99 (by decide) (fun c22 => ?_) (fun c22 => ?_)
              · replace h := (if_pos c22).symm.trans h
                refine lv_iload_n hx hb dX10_forges_106 rfl (lv_at hl 3 rfl) ?_
                refine lv_iconst (v := (1 : Int32)) hx hb dX10_forges_107 (by decide) ?_
                refine lv_iadd hx hb dX10_forges_108 ?_
                refine lv_topi (fun v23 hv23 => ?_)
                replace h := bq_bv h hv23
                refine lv_istore_n (lv' := [(1, .int v23), (5, .int v14), (4, .int v11), (0, .ref (a 0)), (2, .int v6), (3, .int v7)]) hx hb dX10_forges_109 rfl hl (by decide) rfl (fun ls hl => ?_)
                obtain ⟨v24, hv24, h⟩ := bq_b h
                refine lv_iinc (v := v24) (lv' := [(3, .int v24), (1, .int v23), (5, .int v14), (4, .int v11), (0, .ref (a 0)), (2, .int v6)]) hx hb dX10_forges_110 hl (k := 5) rfl (by rw [hv24]; rfl) (by decide) rfl (fun ls hl => ?_)
                refine lv_goto (tgt := 36) hx hb dX10_forges_113 (by decide) ?_
                cases h
                exact ih _ _ _ _ _ _ _ hw hP hS (lv_sub hl [4, 1, 5, 0] rfl) kx
              · replace h := (if_neg c22).symm.trans h
                refine lv_iload_n hx hb dX10_forges_102 rfl (lv_at hl 3 rfl) ?_
                refine lv_goto (tgt := 109) hx hb dX10_forges_103 (by decide) ?_
                refine lv_istore_n (lv' := [(1, .int v5), (5, .int v14), (4, .int v11), (0, .ref (a 0)), (2, .int v6), (3, .int v7)]) hx hb dX10_forges_109 rfl hl (by decide) rfl (fun ls hl => ?_)
                obtain ⟨v25, hv25, h⟩ := bq_b h
                refine lv_iinc (v := v25) (lv' := [(3, .int v25), (1, .int v5), (5, .int v14), (4, .int v11), (0, .ref (a 0)), (2, .int v6)]) hx hb dX10_forges_110 hl (k := 5) rfl (by rw [hv25]; rfl) (by decide) rfl (fun ls hl => ?_)
                refine lv_goto (tgt := 36) hx hb dX10_forges_113 (by decide) ?_
                cases h
                exact ih _ _ _ _ _ _ _ hw hP hS (lv_sub hl [4, 1, 5, 0] rfl) kx
            · replace h := (if_pos c18).symm.trans h
              refine lv_bipush (v := (99 : Int32)) hx hb dX10_forges_86 (by decide) ?_
              refine lv_goto (tgt := 109) hx hb dX10_forges_88 (by decide) ?_
              refine lv_istore_n (lv' := [(1, .int (99 : Int32)), (5, .int v14), (4, .int v11), (0, .ref (a 0)), (2, .int v6), (3, .int v7)]) hx hb dX10_forges_109 rfl hl (by decide) rfl (fun ls hl => ?_)
              obtain ⟨v26, hv26, h⟩ := bq_b h
              refine lv_iinc (v := v26) (lv' := [(3, .int v26), (1, .int (99 : Int32)), (5, .int v14), (4, .int v11), (0, .ref (a 0)), (2, .int v6)]) hx hb dX10_forges_110 hl (k := 5) rfl (by rw [hv26]; rfl) (by decide) rfl (fun ls hl => ?_)
              refine lv_goto (tgt := 36) hx hb dX10_forges_113 (by decide) ?_
              cases h
              exact ih _ _ _ _ _ _ _ hw hP hS (lv_sub hl [4, 1, 5, 0] rfl) kx
    obtain ⟨e27, he27, h⟩ := Option.bind_eq_some_iff.mp h
    refine hl36 _ n _ _ _ e27 _ _ _ he27 hP hS (lv_sub hl [2, 3, 1, 0] rfl) (fun H locs ls v28 v29 x30 hz hP hS hl => ?_)
    subst hz
    replace h := un3_e h
    refine lv_iload_n hx hb dX10_forges_116 rfl (lv_at hl 0 rfl) ?_
    obtain ⟨e1, e2⟩ := Prod.mk.inj (hret _ h)
    exact hR _ _ _ _ _ (congrArg some e1) rfl (by rw [e2]; exact hP) hS dX10_forges_117
  refine lv_iconst (v := (0 : Int32)) hx hb dX10_forges_0 (by decide) ?_
  refine lv_istore_n (lv' := [(1, .int (0 : Int32)), (0, .ref (a 0))]) hx hb dX10_forges_1 rfl hl (by decide) rfl (fun ls hl => ?_)
  refine lv_aload_n hx hb dX10_forges_2 rfl (lv_at hl 1 rfl) ?_
  refine bq_get (q0 := 0) S hK hP fl_X10_19_X10_5 rfl rfl rfl dX10_forges_3 ?_
  refine lv_iconst (v := (0 : Int32)) hx hb dX10_forges_6 (by decide) ?_
  refine va_iald (D := D) hx hb hK hP 4 0 rfl rfl (bq_inl rfl) dX10_forges_7 ?_
  refine lv_iconst (v := (1 : Int32)) hx hb dX10_forges_8 (by decide) ?_
  refine lv_icmp_ne (tgt := 27) hx hb dX10_forges_9 (by decide) (fun c1 => ?_) (fun c1 => ?_)
  · replace h := (if_neg c1).symm.trans h
    refine lv_aload_n hx hb dX10_forges_27 rfl (lv_at hl 1 rfl) ?_
    refine bq_get (q0 := 0) S hK hP fl_X10_133_X10_17 rfl rfl rfl dX10_forges_28 ?_
    refine lv_iconst (v := (1 : Int32)) hx hb dX10_forges_31 (by decide) ?_
    refine lv_isub hx hb dX10_forges_32 ?_
    exact hj33 _ _ _ _ _ _ h hP hS (lv_sub hl [1, 0] rfl)
  · replace h := (if_pos c1).symm.trans h
    refine lv_aload_n hx hb dX10_forges_12 rfl (lv_at hl 1 rfl) ?_
    refine bq_get (q0 := 0) S hK hP fl_X10_133_X10_17 rfl rfl rfl dX10_forges_13 ?_
    refine lv_iconst (v := (2 : Int32)) hx hb dX10_forges_16 (by decide) ?_
    refine lv_icmp_le (tgt := 27) hx hb dX10_forges_17 (by decide) (fun c31 => ?_) (fun c31 => ?_)
    · replace h := (if_pos c31).symm.trans h
      refine lv_aload_n hx hb dX10_forges_27 rfl (lv_at hl 1 rfl) ?_
      refine bq_get (q0 := 0) S hK hP fl_X10_133_X10_17 rfl rfl rfl dX10_forges_28 ?_
      refine lv_iconst (v := (1 : Int32)) hx hb dX10_forges_31 (by decide) ?_
      refine lv_isub hx hb dX10_forges_32 ?_
      exact hj33 _ _ _ _ _ _ h hP hS (lv_sub hl [1, 0] rfl)
    · replace h := (if_neg c31).symm.trans h
      refine lv_aload_n hx hb dX10_forges_20 rfl (lv_at hl 1 rfl) ?_
      refine bq_get (q0 := 0) S hK hP fl_X10_133_X10_17 rfl rfl rfl dX10_forges_21 ?_
      refine lv_goto (tgt := 33) hx hb dX10_forges_24 (by decide) ?_
      exact hj33 _ _ _ _ _ _ h hP hS (lv_sub hl [1, 0] rfl)
def fX10_forged_b57 (n : Nat) (v23 : Int32) (v24 : Int32) (v25 : Int32) (v : Int32 × bq_S) : Option ((Int32 × bq_S) ⊕ (Int32 × bq_S)) :=
  un2 v (fun v26 x27 =>
  if (x27.1 0 17) ≤ v26 then
  some (.inr (v26, x27))
  else
  if v24 ≤ v25 then
  some (.inr (v26, x27))
  else
  if ok_i v26 8 then
  if ok_i v26 8 then
  bd (bq_sI x27 11 v26.toNatClampNeg (x27.1 10 v26.toNatClampNeg)) (fun x31 =>
  bd (v26 + (1 : Int32)) (fun v33 =>
  some (.inl (v33, x31))))
  else none
  else none)
def fX10_forged_j104 (n : Nat) (v15 : Int32) (v41 : Int32) (x42 : bq_S) : Option ((Int32 × Int32 × bq_S) ⊕ (Int32 × Int32 × bq_S)) :=
  (fX10_next n  x42).bind (fun o43 => un2 o43 (fun v45 x44 =>
  some (.inl (v41, v45, x44))))
def fX10_forged_j92 (n : Nat) (v15 : Int32) (v37 : Int32) (v38 : Int32) (x39 : bq_S) : Option ((Int32 × Int32 × bq_S) ⊕ (Int32 × Int32 × bq_S)) :=
  if v37 ≤ v38 then
  fX10_forged_j104 n v15 v37 x39
  else
  fX10_forged_j104 n v15 v38 x39
def fX10_forged_b43 (n : Nat) (v15 : Int32) (v : Int32 × Int32 × bq_S) : Option ((Int32 × Int32 × bq_S) ⊕ (Int32 × Int32 × bq_S)) :=
  un3 v (fun v16 v17 x18 =>
  if v17 = 0 then
  some (.inr (v16, v17, x18))
  else
  (fX10_forges n  x18).bind (fun o20 => un2 o20 (fun v22 x21 =>
  (wh n (fX10_forged_b57 n v15 v16 v22) ((0 : Int32), x21)).bind (fun e34 => un2 e34 (fun v35 x36 =>
  fX10_forged_j92 n v15 v16 v22 x36)))))
def fX10_forged (n : Nat) (p1 : Int32) (p2 : Int32) (x0 : bq_S) : Option (Int32 × bq_S) :=
  (fX10_isSet p1 x0).bind (fun o1 => un2 o1 (fun v3 x2 =>
  if v3 = 0 then
  some ((-1 : Int32), x2)
  else
  if p1 = 0 then
  some ((-1 : Int32), x2)
  else
  (fX10_size n p1 x2).bind (fun o6 => un2 o6 (fun v8 x7 =>
  (fX10_in p2.toInt64 (-1 : Int64) (v8 - (1 : Int32)).toInt64 x7).bind (fun o9 => un2 o9 (fun v11 x10 =>
  if v11 = 0 then
  some ((-1 : Int32), x10)
  else
  (fX10_first n p1 x10).bind (fun x14 =>
  (wh n (fX10_forged_b43 n p2) ((99 : Int32), (1 : Int32), x14)).bind (fun e46 => un3 e46 (fun v47 v48 x49 =>
  if v47 ≤ (98 : Int32) then
  if 0 ≤ p2 then
  if ok_i p2 8 then
  some ((x49.1 11 p2.toNatClampNeg), x49)
  else none
  else
  some (v47, x49)
  else
  some ((-4 : Int32), x49))))))))))
theorem dX10_forged_0 : decode cX10_forged 0 = .ok (.aload_n 0, 1) := by decide +kernel
theorem dX10_forged_1 : decode cX10_forged 1 = .ok (.iload_n 1, 1) := by decide +kernel
theorem dX10_forged_2 : decode cX10_forged 2 = .ok (.invokevirtual 142, 3) := by decide +kernel
theorem dX10_forged_5 : decode cX10_forged 5 = .ok (.ifCond .eq 25, 3) := by decide +kernel
theorem dX10_forged_8 : decode cX10_forged 8 = .ok (.iload_n 1, 1) := by decide +kernel
theorem dX10_forged_9 : decode cX10_forged 9 = .ok (.ifCond .eq 21, 3) := by decide +kernel
theorem dX10_forged_12 : decode cX10_forged 12 = .ok (.iload_n 2, 1) := by decide +kernel
theorem dX10_forged_13 : decode cX10_forged 13 = .ok (.i2l, 1) := by decide +kernel
theorem dX10_forged_14 : decode cX10_forged 14 = .ok (.ldc2_w 165, 3) := by decide +kernel
theorem dX10_forged_17 : decode cX10_forged 17 = .ok (.iload_n 1, 1) := by decide +kernel
theorem dX10_forged_18 : decode cX10_forged 18 = .ok (.invokestatic 129, 3) := by decide +kernel
theorem dX10_forged_21 : decode cX10_forged 21 = .ok (.iconst 1, 1) := by decide +kernel
theorem dX10_forged_22 : decode cX10_forged 22 = .ok (.isub, 1) := by decide +kernel
theorem dX10_forged_23 : decode cX10_forged 23 = .ok (.i2l, 1) := by decide +kernel
theorem dX10_forged_24 : decode cX10_forged 24 = .ok (.invokestatic 66, 3) := by decide +kernel
theorem dX10_forged_27 : decode cX10_forged 27 = .ok (.ifCond .ne 5, 3) := by decide +kernel
theorem dX10_forged_30 : decode cX10_forged 30 = .ok (.iconst (-1), 1) := by decide +kernel
theorem dX10_forged_31 : decode cX10_forged 31 = .ok (.ireturn, 1) := by decide +kernel
theorem dX10_forged_32 : decode cX10_forged 32 = .ok (.bipush 99, 2) := by decide +kernel
theorem dX10_forged_34 : decode cX10_forged 34 = .ok (.istore_n 3, 1) := by decide +kernel
theorem dX10_forged_35 : decode cX10_forged 35 = .ok (.aload_n 0, 1) := by decide +kernel
theorem dX10_forged_36 : decode cX10_forged 36 = .ok (.iload_n 1, 1) := by decide +kernel
theorem dX10_forged_37 : decode cX10_forged 37 = .ok (.invokevirtual 145, 3) := by decide +kernel
theorem dX10_forged_40 : decode cX10_forged 40 = .ok (.iconst 1, 1) := by decide +kernel
theorem dX10_forged_41 : decode cX10_forged 41 = .ok (.istore 4, 2) := by decide +kernel
theorem dX10_forged_43 : decode cX10_forged 43 = .ok (.iload 4, 2) := by decide +kernel
theorem dX10_forged_45 : decode cX10_forged 45 = .ok (.ifCond .eq 69, 3) := by decide +kernel
theorem dX10_forged_48 : decode cX10_forged 48 = .ok (.aload_n 0, 1) := by decide +kernel
theorem dX10_forged_49 : decode cX10_forged 49 = .ok (.invokevirtual 167, 3) := by decide +kernel
theorem dX10_forged_52 : decode cX10_forged 52 = .ok (.istore 5, 2) := by decide +kernel
theorem dX10_forged_54 : decode cX10_forged 54 = .ok (.iconst 0, 1) := by decide +kernel
theorem dX10_forged_55 : decode cX10_forged 55 = .ok (.istore 6, 2) := by decide +kernel
theorem dX10_forged_57 : decode cX10_forged 57 = .ok (.iload 6, 2) := by decide +kernel
theorem dX10_forged_59 : decode cX10_forged 59 = .ok (.aload_n 0, 1) := by decide +kernel
theorem dX10_forged_60 : decode cX10_forged 60 = .ok (.getfield 133, 3) := by decide +kernel
theorem dX10_forged_63 : decode cX10_forged 63 = .ok (.if_icmp .ge 29, 3) := by decide +kernel
theorem dX10_forged_66 : decode cX10_forged 66 = .ok (.iload 5, 2) := by decide +kernel
theorem dX10_forged_68 : decode cX10_forged 68 = .ok (.iload_n 3, 1) := by decide +kernel
theorem dX10_forged_69 : decode cX10_forged 69 = .ok (.if_icmp .ge 23, 3) := by decide +kernel
theorem dX10_forged_72 : decode cX10_forged 72 = .ok (.aload_n 0, 1) := by decide +kernel
theorem dX10_forged_73 : decode cX10_forged 73 = .ok (.getfield 40, 3) := by decide +kernel
theorem dX10_forged_76 : decode cX10_forged 76 = .ok (.iload 6, 2) := by decide +kernel
theorem dX10_forged_78 : decode cX10_forged 78 = .ok (.aload_n 0, 1) := by decide +kernel
theorem dX10_forged_79 : decode cX10_forged 79 = .ok (.getfield 37, 3) := by decide +kernel
theorem dX10_forged_82 : decode cX10_forged 82 = .ok (.iload 6, 2) := by decide +kernel
theorem dX10_forged_84 : decode cX10_forged 84 = .ok (.iaload, 1) := by decide +kernel
theorem dX10_forged_85 : decode cX10_forged 85 = .ok (.iastore, 1) := by decide +kernel
theorem dX10_forged_86 : decode cX10_forged 86 = .ok (.iinc 6 1, 3) := by decide +kernel
theorem dX10_forged_89 : decode cX10_forged 89 = .ok (.goto (-32), 3) := by decide +kernel
theorem dX10_forged_92 : decode cX10_forged 92 = .ok (.iload 5, 2) := by decide +kernel
theorem dX10_forged_94 : decode cX10_forged 94 = .ok (.iload_n 3, 1) := by decide +kernel
theorem dX10_forged_95 : decode cX10_forged 95 = .ok (.if_icmp .ge 8, 3) := by decide +kernel
theorem dX10_forged_98 : decode cX10_forged 98 = .ok (.iload 5, 2) := by decide +kernel
theorem dX10_forged_100 : decode cX10_forged 100 = .ok (.goto 4, 3) := by decide +kernel
theorem dX10_forged_103 : decode cX10_forged 103 = .ok (.iload_n 3, 1) := by decide +kernel
theorem dX10_forged_104 : decode cX10_forged 104 = .ok (.istore_n 3, 1) := by decide +kernel
theorem dX10_forged_105 : decode cX10_forged 105 = .ok (.aload_n 0, 1) := by decide +kernel
theorem dX10_forged_106 : decode cX10_forged 106 = .ok (.invokevirtual 148, 3) := by decide +kernel
theorem dX10_forged_109 : decode cX10_forged 109 = .ok (.istore 4, 2) := by decide +kernel
theorem dX10_forged_111 : decode cX10_forged 111 = .ok (.goto (-68), 3) := by decide +kernel
theorem dX10_forged_114 : decode cX10_forged 114 = .ok (.iload_n 3, 1) := by decide +kernel
theorem dX10_forged_115 : decode cX10_forged 115 = .ok (.bipush 98, 2) := by decide +kernel
theorem dX10_forged_117 : decode cX10_forged 117 = .ok (.if_icmp .le 8, 3) := by decide +kernel
theorem dX10_forged_120 : decode cX10_forged 120 = .ok (.bipush (-4), 2) := by decide +kernel
theorem dX10_forged_122 : decode cX10_forged 122 = .ok (.goto 17, 3) := by decide +kernel
theorem dX10_forged_125 : decode cX10_forged 125 = .ok (.iload_n 2, 1) := by decide +kernel
theorem dX10_forged_126 : decode cX10_forged 126 = .ok (.ifCond .ge 7, 3) := by decide +kernel
theorem dX10_forged_129 : decode cX10_forged 129 = .ok (.iload_n 3, 1) := by decide +kernel
theorem dX10_forged_130 : decode cX10_forged 130 = .ok (.goto 9, 3) := by decide +kernel
theorem dX10_forged_133 : decode cX10_forged 133 = .ok (.aload_n 0, 1) := by decide +kernel
theorem dX10_forged_134 : decode cX10_forged 134 = .ok (.getfield 40, 3) := by decide +kernel
theorem dX10_forged_137 : decode cX10_forged 137 = .ok (.iload_n 2, 1) := by decide +kernel
theorem dX10_forged_138 : decode cX10_forged 138 = .ok (.iaload, 1) := by decide +kernel
theorem dX10_forged_139 : decode cX10_forged 139 = .ok (.ireturn, 1) := by decide +kernel
set_option maxHeartbeats 4000000 in
set_option maxRecDepth 100000 in
theorem cX10_forged_k_0 {l : Launch} {D : va_G} {a : Nat → Nat} {k : Nat → ClassId} {n : Nat} {p1 : Int32} {p2 : Int32} {x0 xz : bq_S} {rz : Int32} (h : fX10_forged n p1 p2 x0 = some (rz, xz)) : bq_M l D bq_cl (bq_ty k) (bq_wM a k) yX10_forged cX10_forged 7 (some .int) { frames := 2, cells := 0, slots := 0, locals := 50 } [.ref (a 0), .int p1, .int p2] x0 (some rz) xz := by
  refine bq_ofW RX10 [(0, .ref (a 0)), (1, .int p1), (2, .int p2)] (by decide +kernel) rfl (Nat.le_of_ble_eq_true rfl) rfl (bq_adM a k) ?_
  intro p e s m below meth c A Q ls S hK hD hA hR hS hP hl
  have hx := S.1; have hb := S.2.1; have hml := S.2.2.1; have hown := S.2.2.2.1; have hts := S.2.2.2.2
  have hret : ∀ z, some z = some (rz, xz) → (rz, xz) = z := fun z h => (Option.some.inj h).symm
  unfold fX10_forged at h
  refine lv_aload_n hx hb dX10_forged_0 rfl (lv_at hl 0 rfl) ?_
  refine lv_iload_n hx hb dX10_forged_1 rfl (lv_at hl 1 rfl) ?_
  obtain ⟨o1, ho1, h⟩ := Option.bind_eq_some_iff.mp h
  obtain ⟨v3, x2⟩ := o1
  replace h := un2_e h
  refine bq_callVi (q0 := 0) (As := [.int _]) S hK hD hA hP hS (cX10_isSet_k_0 ho1) hd_yX10_isSet ml_X10_142 in_yX10_isSet (hts _ sl_X10_X10_yX10_isSet) ⟨rfl, rfl⟩ ⟨by decide, by decide⟩ rfl rfl rfl hl.1 rfl (Nat.le_of_ble_eq_true rfl) ⟨Nat.zero_le _, Nat.zero_le _⟩ dX10_forged_2 (fun H locs hP hS => ?_)
  refine lv_if_eq (tgt := 30) hx hb dX10_forged_5 (by decide) (fun c4 => ?_) (fun c4 => ?_)
  · replace h := (if_pos c4).symm.trans h
    refine lv_iconst (v := (-1 : Int32)) hx hb dX10_forged_30 (by decide) ?_
    obtain ⟨e1, e2⟩ := Prod.mk.inj (hret _ h)
    exact hR _ _ _ _ _ (congrArg some e1) rfl (by rw [e2]; exact hP) hS dX10_forged_31
  · replace h := (if_neg c4).symm.trans h
    refine lv_iload_n hx hb dX10_forged_8 rfl (lv_at hl 1 rfl) ?_
    refine lv_if_eq (tgt := 30) hx hb dX10_forged_9 (by decide) (fun c5 => ?_) (fun c5 => ?_)
    · replace h := (if_pos c5).symm.trans h
      refine lv_iconst (v := (-1 : Int32)) hx hb dX10_forged_30 (by decide) ?_
      obtain ⟨e1, e2⟩ := Prod.mk.inj (hret _ h)
      exact hR _ _ _ _ _ (congrArg some e1) rfl (by rw [e2]; exact hP) hS dX10_forged_31
    · replace h := (if_neg c5).symm.trans h
      refine lv_iload_n hx hb dX10_forged_12 rfl (lv_at hl 2 rfl) ?_
      refine lv_i2l hx hb dX10_forged_13 rfl ?_
      refine lv_ldc2 hx hb hown (hts _ kl_X10_165) dX10_forged_14 ?_
      refine lv_iload_n hx hb dX10_forged_17 rfl (lv_at hl 1 rfl) ?_
      obtain ⟨o6, ho6, h⟩ := Option.bind_eq_some_iff.mp h
      obtain ⟨v8, x7⟩ := o6
      replace h := un2_e h
      refine bq_callSi (As := [.int _]) S hK hD hA hP hS (cX10_size_k ho6) hd_yX10_size ml_X10_129 st_yX10_size ⟨rfl, rfl⟩ ⟨by decide, by decide⟩ rfl hl.1 rfl (Nat.le_of_ble_eq_true rfl) ⟨Nat.zero_le _, Nat.zero_le _⟩ dX10_forged_18 (fun H locs hP hS => ?_)
      refine lv_iconst (v := (1 : Int32)) hx hb dX10_forged_21 (by decide) ?_
      refine lv_isub hx hb dX10_forged_22 ?_
      refine lv_i2l hx hb dX10_forged_23 rfl ?_
      obtain ⟨o9, ho9, h⟩ := Option.bind_eq_some_iff.mp h
      obtain ⟨v11, x10⟩ := o9
      replace h := un2_e h
      refine bq_callSi (As := [.long _, .long _, .long _]) S hK hD hA hP hS (cX10_in_k ho9) hd_yX10_in ml_X10_66 st_yX10_in ⟨rfl, rfl⟩ ⟨by decide, by decide⟩ rfl hl.1 rfl (Nat.le_of_ble_eq_true rfl) ⟨Nat.zero_le _, Nat.zero_le _⟩ dX10_forged_24 (fun H locs hP hS => ?_)
      refine lv_if_ne (tgt := 32) hx hb dX10_forged_27 (by decide) (fun c12 => ?_) (fun c12 => ?_)
      · replace h := (if_neg c12).symm.trans h
        refine lv_bipush (v := (99 : Int32)) hx hb dX10_forged_32 (by decide) ?_
        refine lv_istore_n (lv' := [(3, .int (99 : Int32)), (0, .ref (a 0)), (1, .int p1), (2, .int p2)]) hx hb dX10_forged_34 rfl hl (by decide) rfl (fun ls hl => ?_)
        refine lv_aload_n hx hb dX10_forged_35 rfl (lv_at hl 1 rfl) ?_
        refine lv_iload_n hx hb dX10_forged_36 rfl (lv_at hl 2 rfl) ?_
        obtain ⟨x14, ho13, h⟩ := Option.bind_eq_some_iff.mp h
        refine bq_callVv (q0 := 0) (As := [.int _]) S hK hD hA hP hS (cX10_first_k_0 ho13) hd_yX10_first ml_X10_145 in_yX10_first (hts _ sl_X10_X10_yX10_first) ⟨rfl, rfl⟩ ⟨by decide, by decide⟩ rfl rfl rfl hl.1 rfl (Nat.le_of_ble_eq_true rfl) ⟨Nat.zero_le _, Nat.zero_le _⟩ dX10_forged_37 (fun H locs hP hS => ?_)
        refine lv_iconst (v := (1 : Int32)) hx hb dX10_forged_40 (by decide) ?_
        refine lv_istore (lv' := [(4, .int (1 : Int32)), (3, .int (99 : Int32)), (0, .ref (a 0)), (1, .int p1), (2, .int p2)]) hx hb dX10_forged_41 hl (by decide) rfl (fun ls hl => ?_)
        have hl43 : ∀ (v15 : Int32) (kf : Nat) (v16 : Int32) (v17 : Int32) (x18 : bq_S) (eo : Int32 × Int32 × bq_S) (H : Heap) (locs : List Loc) (ls : Array Slot), wh kf (fX10_forged_b43 n v15) (v16, v17, x18) = some eo → va_P D bq_cl (bq_wM a k x18) H → va_S A s.heap H locs → lv_has ls 7 [(0, .ref (a 0)), (2, .int v15), (3, .int v16), (4, .int v17)] → (∀ (H : Heap) (locs : List Loc) (ls : Array Slot) (v47 : Int32) (v48 : Int32) (x49 : bq_S), eo = (v47, v48, x49) → va_P D bq_cl (bq_wM a k x49) H → va_S A s.heap H locs → lv_has ls 7 [(0, .ref (a 0)), (2, .int v15), (3, .int v47)] → W p l e { frames := 2, cells := 0, slots := 0, locals := 50 } s m [.ref (a 0), .int p1, .int p2].toArray below meth c H locs 0 0 Q (F0 m 114 ls [])) → W p l e { frames := 2, cells := 0, slots := 0, locals := 50 } s m [.ref (a 0), .int p1, .int p2].toArray below meth c H locs 0 0 Q (F0 m 43 ls []) := by
          intro v15 kf
          induction kf with
          | zero => intro v16 v17 x18 eo H locs ls h; cases h
          | succ kf ih =>
            intro v16 v17 x18 eo H locs ls h hP hS hl kx
            obtain ⟨out, h, hw⟩ := wh_s h
            unfold fX10_forged_b43 at h
            replace h := un3_e h
            have hj104 : ∀ (v41 : Int32) (x42 : bq_S) (H : Heap) (locs : List Loc) (ls : Array Slot), fX10_forged_j104 n v15 v41 x42 = some out → va_P D bq_cl (bq_wM a k x42) H → va_S A s.heap H locs → lv_has ls 7 [(0, .ref (a 0)), (2, .int v15)] → W p l e { frames := 2, cells := 0, slots := 0, locals := 50 } s m [.ref (a 0), .int p1, .int p2].toArray below meth c H locs 0 0 Q (F0 m 104 ls [.int v41]) := by
              intro v41 x42 H locs ls h hP hS hl
              unfold fX10_forged_j104 at h
              refine lv_istore_n (lv' := [(3, .int v41), (0, .ref (a 0)), (2, .int v15)]) hx hb dX10_forged_104 rfl hl (by decide) rfl (fun ls hl => ?_)
              refine lv_aload_n hx hb dX10_forged_105 rfl (lv_at hl 1 rfl) ?_
              obtain ⟨o43, ho43, h⟩ := Option.bind_eq_some_iff.mp h
              obtain ⟨v45, x44⟩ := o43
              replace h := un2_e h
              refine bq_callVi (q0 := 0) (As := []) S hK hD hA hP hS (cX10_next_k_0 ho43) hd_yX10_next ml_X10_148 in_yX10_next (hts _ sl_X10_X10_yX10_next) ⟨rfl, rfl⟩ ⟨by decide, by decide⟩ rfl rfl rfl hl.1 rfl (Nat.le_of_ble_eq_true rfl) ⟨Nat.zero_le _, Nat.zero_le _⟩ dX10_forged_106 (fun H locs hP hS => ?_)
              refine lv_istore (lv' := [(4, .int v45), (3, .int v41), (0, .ref (a 0)), (2, .int v15)]) hx hb dX10_forged_109 hl (by decide) rfl (fun ls hl => ?_)
              refine lv_goto (tgt := 43) hx hb dX10_forged_111 (by decide) ?_
              cases h
              exact ih _ _ _ _ _ _ _ hw hP hS (lv_sub hl [2, 3, 1, 0] rfl) kx
            have hj92 : ∀ (v37 : Int32) (v38 : Int32) (x39 : bq_S) (H : Heap) (locs : List Loc) (ls : Array Slot), fX10_forged_j92 n v15 v37 v38 x39 = some out → va_P D bq_cl (bq_wM a k x39) H → va_S A s.heap H locs → lv_has ls 7 [(0, .ref (a 0)), (2, .int v15), (3, .int v37), (5, .int v38)] → W p l e { frames := 2, cells := 0, slots := 0, locals := 50 } s m [.ref (a 0), .int p1, .int p2].toArray below meth c H locs 0 0 Q (F0 m 92 ls []) := by
              intro v37 v38 x39 H locs ls h hP hS hl
              unfold fX10_forged_j92 at h
              refine lv_iload hx hb dX10_forged_92 (lv_at hl 3 rfl) ?_
              refine lv_iload_n hx hb dX10_forged_94 rfl (lv_at hl 2 rfl) ?_
              refine lv_icmp_ge (tgt := 103) hx hb dX10_forged_95 (by decide) (fun c40 => ?_) (fun c40 => ?_)
              · replace h := (if_pos c40).symm.trans h
                refine lv_iload_n hx hb dX10_forged_103 rfl (lv_at hl 2 rfl) ?_
                exact hj104 _ _ _ _ _ h hP hS (lv_sub hl [0, 1] rfl)
              · replace h := (if_neg c40).symm.trans h
                refine lv_iload hx hb dX10_forged_98 (lv_at hl 3 rfl) ?_
                refine lv_goto (tgt := 104) hx hb dX10_forged_100 (by decide) ?_
                exact hj104 _ _ _ _ _ h hP hS (lv_sub hl [0, 1] rfl)
            refine lv_iload hx hb dX10_forged_43 (lv_at hl 3 rfl) ?_
            refine lv_if_eq (tgt := 114) hx hb dX10_forged_45 (by decide) (fun c19 => ?_) (fun c19 => ?_)
            · replace h := (if_pos c19).symm.trans h
              cases h
              exact kx _ _ _ _ _ _ (Option.some.inj hw).symm hP hS (lv_sub hl [0, 1, 2] rfl)
            · replace h := (if_neg c19).symm.trans h
              refine lv_aload_n hx hb dX10_forged_48 rfl (lv_at hl 0 rfl) ?_
              obtain ⟨o20, ho20, h⟩ := Option.bind_eq_some_iff.mp h
              obtain ⟨v22, x21⟩ := o20
              replace h := un2_e h
              refine bq_callVi (q0 := 0) (As := []) S hK hD hA hP hS (cX10_forges_k_0 ho20) hd_yX10_forges ml_X10_167 in_yX10_forges (hts _ sl_X10_X10_yX10_forges) ⟨rfl, rfl⟩ ⟨by decide, by decide⟩ rfl rfl rfl hl.1 rfl (Nat.le_of_ble_eq_true rfl) ⟨Nat.zero_le _, Nat.zero_le _⟩ dX10_forged_49 (fun H locs hP hS => ?_)
              refine lv_istore (lv' := [(5, .int v22), (0, .ref (a 0)), (2, .int v15), (3, .int v16), (4, .int v17)]) hx hb dX10_forged_52 hl (by decide) rfl (fun ls hl => ?_)
              refine lv_iconst (v := (0 : Int32)) hx hb dX10_forged_54 (by decide) ?_
              refine lv_istore (lv' := [(6, .int (0 : Int32)), (5, .int v22), (0, .ref (a 0)), (2, .int v15), (3, .int v16), (4, .int v17)]) hx hb dX10_forged_55 hl (by decide) rfl (fun ls hl => ?_)
              have hl57 : ∀ (v23 : Int32) (v24 : Int32) (v25 : Int32) (kf : Nat) (v26 : Int32) (x27 : bq_S) (eo : Int32 × bq_S) (H : Heap) (locs : List Loc) (ls : Array Slot), wh kf (fX10_forged_b57 n v23 v24 v25) (v26, x27) = some eo → va_P D bq_cl (bq_wM a k x27) H → va_S A s.heap H locs → lv_has ls 7 [(0, .ref (a 0)), (2, .int v23), (3, .int v24), (5, .int v25), (6, .int v26)] → (∀ (H : Heap) (locs : List Loc) (ls : Array Slot) (v35 : Int32) (x36 : bq_S), eo = (v35, x36) → va_P D bq_cl (bq_wM a k x36) H → va_S A s.heap H locs → lv_has ls 7 [(0, .ref (a 0)), (2, .int v23), (3, .int v24), (5, .int v25)] → W p l e { frames := 2, cells := 0, slots := 0, locals := 50 } s m [.ref (a 0), .int p1, .int p2].toArray below meth c H locs 0 0 Q (F0 m 92 ls [])) → W p l e { frames := 2, cells := 0, slots := 0, locals := 50 } s m [.ref (a 0), .int p1, .int p2].toArray below meth c H locs 0 0 Q (F0 m 57 ls []) := by
                intro v23 v24 v25 kf
                induction kf with
                | zero => intro v26 x27 eo H locs ls h; cases h
                | succ kf ih =>
                  intro v26 x27 eo H locs ls h hP hS hl kx
                  obtain ⟨out, h, hw⟩ := wh_s h
                  unfold fX10_forged_b57 at h
                  replace h := un2_e h
                  refine lv_iload hx hb dX10_forged_57 (lv_at hl 4 rfl) ?_
                  refine lv_aload_n hx hb dX10_forged_59 rfl (lv_at hl 0 rfl) ?_
                  refine bq_get (q0 := 0) S hK hP fl_X10_133_X10_17 rfl rfl rfl dX10_forged_60 ?_
                  refine lv_icmp_ge (tgt := 92) hx hb dX10_forged_63 (by decide) (fun c28 => ?_) (fun c28 => ?_)
                  · replace h := (if_pos c28).symm.trans h
                    cases h
                    exact kx _ _ _ _ _ (Option.some.inj hw).symm hP hS (lv_sub hl [0, 1, 2, 3] rfl)
                  · replace h := (if_neg c28).symm.trans h
                    refine lv_iload hx hb dX10_forged_66 (lv_at hl 3 rfl) ?_
                    refine lv_iload_n hx hb dX10_forged_68 rfl (lv_at hl 2 rfl) ?_
                    refine lv_icmp_ge (tgt := 92) hx hb dX10_forged_69 (by decide) (fun c29 => ?_) (fun c29 => ?_)
                    · replace h := (if_pos c29).symm.trans h
                      cases h
                      exact kx _ _ _ _ _ (Option.some.inj hw).symm hP hS (lv_sub hl [0, 1, 2, 3] rfl)
                    · replace h := (if_neg c29).symm.trans h
                      refine lv_aload_n hx hb dX10_forged_72 rfl (lv_at hl 0 rfl) ?_
                      refine bq_get (q0 := 0) S hK hP fl_X10_40_X10_18 rfl rfl rfl dX10_forged_73 ?_
                      refine lv_iload hx hb dX10_forged_76 (lv_at hl 4 rfl) ?_
                      refine lv_aload_n hx hb dX10_forged_78 rfl (lv_at hl 0 rfl) ?_
                      refine bq_get (q0 := 0) S hK hP fl_X10_37_X10_16 rfl rfl rfl dX10_forged_79 ?_
                      refine lv_iload hx hb dX10_forged_82 (lv_at hl 4 rfl) ?_
                      obtain ⟨g30, h⟩ := bq_gd h
                      refine va_iald (D := D) hx hb hK hP 10 0 rfl rfl g30 dX10_forged_84 ?_
                      obtain ⟨g32, h⟩ := bq_gd h
                      obtain ⟨x31, hx31, h⟩ := bq_b h
                      refine bq_iast (x1 := x31) (q0 := 11) (t0 := 0) S hK hD hP hS rfl rfl g32 (by rw [hx31]; rfl) dX10_forged_85 (fun H locs hP hS => ?_)
                      obtain ⟨v33, hv33, h⟩ := bq_b h
                      refine lv_iinc (v := v33) (lv' := [(6, .int v33), (0, .ref (a 0)), (2, .int v23), (3, .int v24), (5, .int v25)]) hx hb dX10_forged_86 hl (k := 4) rfl (by rw [hv33]; rfl) (by decide) rfl (fun ls hl => ?_)
                      refine lv_goto (tgt := 57) hx hb dX10_forged_89 (by decide) ?_
                      cases h
                      exact ih _ _ _ _ _ _ hw hP hS (lv_sub hl [1, 2, 3, 4, 0] rfl) kx
              obtain ⟨e34, he34, h⟩ := Option.bind_eq_some_iff.mp h
              refine hl57 _ _ _ n _ _ e34 _ _ _ he34 hP hS (lv_sub hl [2, 3, 4, 1, 0] rfl) (fun H locs ls v35 x36 hz hP hS hl => ?_)
              subst hz
              replace h := un2_e h
              exact hj92 _ _ _ _ _ _ h hP hS (lv_sub hl [0, 1, 2, 3] rfl)
        obtain ⟨e46, he46, h⟩ := Option.bind_eq_some_iff.mp h
        refine hl43 _ n _ _ _ e46 _ _ _ he46 hP hS (lv_sub hl [2, 4, 1, 0] rfl) (fun H locs ls v47 v48 x49 hz hP hS hl => ?_)
        subst hz
        replace h := un3_e h
        refine lv_iload_n hx hb dX10_forged_114 rfl (lv_at hl 2 rfl) ?_
        refine lv_bipush (v := (98 : Int32)) hx hb dX10_forged_115 (by decide) ?_
        refine lv_icmp_le (tgt := 125) hx hb dX10_forged_117 (by decide) (fun c50 => ?_) (fun c50 => ?_)
        · replace h := (if_pos c50).symm.trans h
          refine lv_iload_n hx hb dX10_forged_125 rfl (lv_at hl 1 rfl) ?_
          refine lv_if_ge (tgt := 133) hx hb dX10_forged_126 (by decide) (fun c51 => ?_) (fun c51 => ?_)
          · replace h := (if_pos c51).symm.trans h
            refine lv_aload_n hx hb dX10_forged_133 rfl (lv_at hl 0 rfl) ?_
            refine bq_get (q0 := 0) S hK hP fl_X10_40_X10_18 rfl rfl rfl dX10_forged_134 ?_
            refine lv_iload_n hx hb dX10_forged_137 rfl (lv_at hl 1 rfl) ?_
            obtain ⟨g52, h⟩ := bq_gd h
            refine va_iald (D := D) hx hb hK hP 11 0 rfl rfl g52 dX10_forged_138 ?_
            obtain ⟨e1, e2⟩ := Prod.mk.inj (hret _ h)
            exact hR _ _ _ _ _ (congrArg some e1) rfl (by rw [e2]; exact hP) hS dX10_forged_139
          · replace h := (if_neg c51).symm.trans h
            refine lv_iload_n hx hb dX10_forged_129 rfl (lv_at hl 2 rfl) ?_
            refine lv_goto (tgt := 139) hx hb dX10_forged_130 (by decide) ?_
            obtain ⟨e1, e2⟩ := Prod.mk.inj (hret _ h)
            exact hR _ _ _ _ _ (congrArg some e1) rfl (by rw [e2]; exact hP) hS dX10_forged_139
        · replace h := (if_neg c50).symm.trans h
          refine lv_bipush (v := (-4 : Int32)) hx hb dX10_forged_120 (by decide) ?_
          refine lv_goto (tgt := 139) hx hb dX10_forged_122 (by decide) ?_
          obtain ⟨e1, e2⟩ := Prod.mk.inj (hret _ h)
          exact hR _ _ _ _ _ (congrArg some e1) rfl (by rw [e2]; exact hP) hS dX10_forged_139
      · replace h := (if_pos c12).symm.trans h
        refine lv_iconst (v := (-1 : Int32)) hx hb dX10_forged_30 (by decide) ?_
        obtain ⟨e1, e2⟩ := Prod.mk.inj (hret _ h)
        exact hR _ _ _ _ _ (congrArg some e1) rfl (by rw [e2]; exact hP) hS dX10_forged_31
