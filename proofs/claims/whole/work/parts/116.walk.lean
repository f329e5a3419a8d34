def fX10_burnt_b82 (n : Nat) (v25 : Int32) (v26 : Int32) (v27 : Int32) (v28 : Int32) (v29 : Int32) (v30 : Int32) (v : Int32 × Int32 × bq_S) : Option ((Int32 × Int32 × bq_S) ⊕ (Int32 × Int32 × bq_S)) :=
  un3 v (fun v31 v32 x33 =>
  if (x33.1 0 6) ≤ v32 then
  some (.inr (v31, v32, x33))
  else
  (fX10_in v32.toInt64 v25.toInt64 v26.toInt64 x33).bind (fun o35 => un2 o35 (fun v37 x36 =>
  if v37 = 0 then
  if ok_i v32 8 then
  bd (v31 ||| ((1 : Int32) <<< ((x36.1 5 v32.toNatClampNeg) &&& 31))) (fun v40 =>
  bd (v32 + (1 : Int32)) (fun v41 =>
  some (.inl (v40, v41, x36))))
  else none
  else
  bd (v31 ||| (0 : Int32)) (fun v42 =>
  bd (v32 + (1 : Int32)) (fun v43 =>
  some (.inl (v42, v43, x36)))))))
def fX10_burnt_j319 (n : Nat) (v71 : Int32) (v72 : Int32) (v73 : Int32) (v74 : Int32) (v75 : Int32) (v76 : Int32) (v77 : Int32) (v88 : Int32) (v89 : Int32) (v80 : Int32) (x90 : bq_S) : Option ((Int32 × Int32 × Int32 × bq_S) ⊕ (Int32 × Int32 × Int32 × bq_S)) :=
  (fX10_next n  x90).bind (fun o91 => un2 o91 (fun v93 x92 =>
  some (.inl (v88, v89, v93, x92))))
def fX10_burnt_b213 (n : Nat) (v100 : Int32) (v101 : Int32) (v102 : Int32) (v103 : Int32) (v104 : Int32) (v105 : Int32) (v106 : Int32) (v107 : Int32) (v108 : Int32) (v109 : Int32) (v : Int32 × Int32 × bq_S) : Option ((Int32 × Int32 × bq_S) ⊕ (Int32 × Int32 × bq_S)) :=
  un3 v (fun v110 v111 x112 =>
  if v105 ≤ v111 then
  some (.inr (v110, v111, x112))
  else
  if v108 = 0 then
  some (.inr (v110, v111, x112))
  else
  if v110 = 0 then
  if ok_i v111 8 then
  if ok_i v111 8 then
  if (x112.1 10 v111.toNatClampNeg) = (x112.1 11 v111.toNatClampNeg) then
  bd (v111 + (1 : Int32)) (fun v119 =>
  some (.inl (v110, v119, x112)))
  else
  if ok_i v111 8 then
  if ok_i v111 8 then
  if (x112.1 11 v111.toNatClampNeg) ≤ (x112.1 10 v111.toNatClampNeg) then
  bd (v105 + (1 : Int32)) (fun v123 =>
  some (.inl ((0 : Int32), v123, x112)))
  else
  bd (v105 + (1 : Int32)) (fun v124 =>
  some (.inl ((1 : Int32), v124, x112)))
  else none
  else none
  else none
  else none
  else
  some (.inr (v110, v111, x112)))
def fX10_burnt_b284 (n : Nat) (v132 : Int32) (v133 : Int32) (v134 : Int32) (v135 : Int32) (v136 : Int32) (v137 : Int32) (v138 : Int32) (v139 : Int32) (v140 : Int32) (v141 : Int32) (v : Int32 × bq_S) : Option ((Int32 × bq_S) ⊕ (Int32 × bq_S)) :=
  un2 v (fun v142 x143 =>
  if v137 ≤ v142 then
  some (.inr (v142, x143))
  else
  if v141 = 0 then
  some (.inr (v142, x143))
  else
  if ok_i v142 8 then
  if ok_i v142 8 then
  bd (bq_sI x143 11 v142.toNatClampNeg (x143.1 10 v142.toNatClampNeg)) (fun x147 =>
  bd (v142 + (1 : Int32)) (fun v149 =>
  some (.inl (v149, x147))))
  else none
  else none)
def fX10_burnt_j281 (n : Nat) (v71 : Int32) (v72 : Int32) (v73 : Int32) (v74 : Int32) (v75 : Int32) (v76 : Int32) (v77 : Int32) (v129 : Int32) (v80 : Int32) (v130 : Int32) (x131 : bq_S) : Option ((Int32 × Int32 × Int32 × bq_S) ⊕ (Int32 × Int32 × Int32 × bq_S)) :=
  (wh n (fX10_burnt_b284 n v71 v72 v73 v74 v75 v76 v77 v129 v80 v130) ((0 : Int32), x131)).bind (fun e150 => un2 e150 (fun v151 x152 =>
  fX10_burnt_j319 n v71 v72 v73 v74 v75 v76 v77 v129 (1 : Int32) v80 x152))
def fX10_burnt_j208 (n : Nat) (v71 : Int32) (v72 : Int32) (v73 : Int32) (v74 : Int32) (v75 : Int32) (v76 : Int32) (v77 : Int32) (v96 : Int32) (v97 : Int32) (v80 : Int32) (v98 : Int32) (x99 : bq_S) : Option ((Int32 × Int32 × Int32 × bq_S) ⊕ (Int32 × Int32 × Int32 × bq_S)) :=
  (wh n (fX10_burnt_b213 n v71 v72 v73 v74 v75 v76 v77 v96 v97 v80) (v98, (0 : Int32), x99)).bind (fun e125 => un3 e125 (fun v126 v127 x128 =>
  fX10_burnt_j281 n v71 v72 v73 v74 v75 v76 v77 v96 v80 v126 x128))
def fX10_burnt_b179 (n : Nat) (v71 : Int32) (v72 : Int32) (v73 : Int32) (v74 : Int32) (v75 : Int32) (v76 : Int32) (v77 : Int32) (v80 : Int32) (v : Int32 × Int32 × Int32 × bq_S) : Option ((Int32 × Int32 × Int32 × bq_S) ⊕ (Int32 × Int32 × Int32 × bq_S)) :=
  un4 v (fun v78 v79 v81 x82 =>
  if v81 = 0 then
  some (.inr (v78, v79, v81, x82))
  else
  (fX10_fits n v71 v72 v74 x82).bind (fun o84 => un2 o84 (fun v86 x85 =>
  if v86 = 0 then
  fX10_burnt_j319 n v71 v72 v73 v74 v75 v76 v77 v78 v79 v80 x85
  else
  bd (v78 + (1 : Int32)) (fun v94 =>
  if v79 = 0 then
  fX10_burnt_j208 n v71 v72 v73 v74 v75 v76 v77 v94 v79 v80 (1 : Int32) x85
  else
  fX10_burnt_j208 n v71 v72 v73 v74 v75 v76 v77 v94 v79 v80 (0 : Int32) x85))))
def fX10_burnt_b137 (n : Nat) (v48 : Int32) (v49 : Int32) (v50 : Int32) (v51 : Int32) (v52 : Int32) (v53 : Int32) (v54 : Int32) (v : Int32 × Int32 × Int32 × bq_S) : Option ((Int32 × Int32 × Int32 × bq_S) ⊕ (Int32 × Int32 × Int32 × bq_S)) :=
  un4 v (fun v55 v56 v57 x58 =>
  if v50 < v57 then
  some (.inr (v55, v56, v57, x58))
  else
  if (v57 &&& (v50 ^^^ (-1 : Int32))) = 0 then
  if (v57 &&& v54) = 0 then
  (fX10_size n v57 x58).bind (fun o64 => un2 o64 (fun v66 x65 =>
  if v66 = v53 then
  (fX10_first n v57 x65).bind (fun x70 =>
  (wh n (fX10_burnt_b179 n v48 v49 v50 v51 v52 v53 v54 v57) (v55, v56, (1 : Int32), x70)).bind (fun e153 => un4 e153 (fun v154 v155 v156 x157 =>
  bd (v57 + (1 : Int32)) (fun v158 =>
  some (.inl (v154, v155, v158, x157))))))
  else
  bd (v57 + (1 : Int32)) (fun v68 =>
  some (.inl (v55, v56, v68, x65)))))
  else
  bd (v57 + (1 : Int32)) (fun v63 =>
  some (.inl (v55, v56, v63, x58)))
  else
  bd (v57 + (1 : Int32)) (fun v61 =>
  some (.inl (v55, v56, v61, x58))))
def fX10_burnt_j69 (n : Nat) (v18 : Int32) (v19 : Int32) (v20 : Int32) (v21 : Int32) (v22 : Int32) (x23 : bq_S) : Option (Int32 × bq_S) :=
  bd ((v19 - v18) + (1 : Int32)) (fun v24 =>
  (wh n (fX10_burnt_b82 n v18 v19 v20 v21 v22 v24) ((0 : Int32), (0 : Int32), x23)).bind (fun e44 => un3 e44 (fun v45 v46 x47 =>
  (wh n (fX10_burnt_b137 n v18 v19 v20 v21 v22 v24 v45) ((0 : Int32), (0 : Int32), (1 : Int32), x47)).bind (fun e159 => un4 e159 (fun v160 v161 v162 x163 =>
  if v160 = 0 then
  some ((-4 : Int32), x163)
  else
  if v22 = (-1 : Int32) then
  some (v160, x163)
  else
  if ok_i (v22 - v18) 8 then
  some ((x163.1 11 (v22 - v18).toNatClampNeg), x163)
  else none)))))
def fX10_burnt (n : Nat) (p1 : Int32) (p2 : Int32) (p3 : Int32) (p4 : Int32) (p5 : Int32) (x0 : bq_S) : Option (Int32 × bq_S) :=
  (fX10_in p1.toInt64 (0 : Int64) p2.toInt64 x0).bind (fun o1 => un2 o1 (fun v3 x2 =>
  if v3 = 0 then
  some ((-1 : Int32), x2)
  else
  (fX10_in p2.toInt64 (0 : Int64) ((x2.1 0 6) - (1 : Int32)).toInt64 x2).bind (fun o5 => un2 o5 (fun v7 x6 =>
  if v7 = 0 then
  some ((-1 : Int32), x6)
  else
  (fX10_isSet p3 x6).bind (fun o9 => un2 o9 (fun v11 x10 =>
  if v11 = 0 then
  some ((-1 : Int32), x10)
  else
  (fX10_in p4.toInt64 (1 : Int64) (99 : Int64) x10).bind (fun o13 => un2 o13 (fun v15 x14 =>
  if v15 = 0 then
  some ((-1 : Int32), x14)
  else
  if p5 = (-1 : Int32) then
  fX10_burnt_j69 n p1 p2 p3 p4 p5 x14
  else
  (fX10_in p5.toInt64 p1.toInt64 p2.toInt64 x14).bind (fun o167 => un2 o167 (fun v169 x168 =>
  if v169 = 0 then
  some ((-1 : Int32), x168)
  else
  fX10_burnt_j69 n p1 p2 p3 p4 p5 x168))))))))))
theorem dX10_burnt_0 : decode cX10_burnt 0 = .ok (.iload_n 1, 1) := by decide +kernel
theorem dX10_burnt_1 : decode cX10_burnt 1 = .ok (.i2l, 1) := by decide +kernel
theorem dX10_burnt_2 : decode cX10_burnt 2 = .ok (.lconst 0, 1) := by decide +kernel
theorem dX10_burnt_3 : decode cX10_burnt 3 = .ok (.iload_n 2, 1) := by decide +kernel
theorem dX10_burnt_4 : decode cX10_burnt 4 = .ok (.i2l, 1) := by decide +kernel
theorem dX10_burnt_5 : decode cX10_burnt 5 = .ok (.invokestatic 66, 3) := by decide +kernel
theorem dX10_burnt_8 : decode cX10_burnt 8 = .ok (.ifCond .eq 59, 3) := by decide +kernel
theorem dX10_burnt_11 : decode cX10_burnt 11 = .ok (.iload_n 2, 1) := by decide +kernel
theorem dX10_burnt_12 : decode cX10_burnt 12 = .ok (.i2l, 1) := by decide +kernel
theorem dX10_burnt_13 : decode cX10_burnt 13 = .ok (.lconst 0, 1) := by decide +kernel
theorem dX10_burnt_14 : decode cX10_burnt 14 = .ok (.aload_n 0, 1) := by decide +kernel
theorem dX10_burnt_15 : decode cX10_burnt 15 = .ok (.getfield 126, 3) := by decide +kernel
theorem dX10_burnt_18 : decode cX10_burnt 18 = .ok (.iconst 1, 1) := by decide +kernel
theorem dX10_burnt_19 : decode cX10_burnt 19 = .ok (.isub, 1) := by decide +kernel
theorem dX10_burnt_20 : decode cX10_burnt 20 = .ok (.i2l, 1) := by decide +kernel
theorem dX10_burnt_21 : decode cX10_burnt 21 = .ok (.invokestatic 66, 3) := by decide +kernel
theorem dX10_burnt_24 : decode cX10_burnt 24 = .ok (.ifCond .eq 43, 3) := by decide +kernel
theorem dX10_burnt_27 : decode cX10_burnt 27 = .ok (.aload_n 0, 1) := by decide +kernel
theorem dX10_burnt_28 : decode cX10_burnt 28 = .ok (.iload_n 3, 1) := by decide +kernel
theorem dX10_burnt_29 : decode cX10_burnt 29 = .ok (.invokevirtual 142, 3) := by decide +kernel
theorem dX10_burnt_32 : decode cX10_burnt 32 = .ok (.ifCond .eq 35, 3) := by decide +kernel
theorem dX10_burnt_35 : decode cX10_burnt 35 = .ok (.iload 4, 2) := by decide +kernel
theorem dX10_burnt_37 : decode cX10_burnt 37 = .ok (.i2l, 1) := by decide +kernel
theorem dX10_burnt_38 : decode cX10_burnt 38 = .ok (.lconst 1, 1) := by decide +kernel
theorem dX10_burnt_39 : decode cX10_burnt 39 = .ok (.ldc2_w 174, 3) := by decide +kernel
theorem dX10_burnt_42 : decode cX10_burnt 42 = .ok (.invokestatic 66, 3) := by decide +kernel
theorem dX10_burnt_45 : decode cX10_burnt 45 = .ok (.ifCond .eq 22, 3) := by decide +kernel
theorem dX10_burnt_48 : decode cX10_burnt 48 = .ok (.iload 5, 2) := by decide +kernel
theorem dX10_burnt_50 : decode cX10_burnt 50 = .ok (.iconst (-1), 1) := by decide +kernel
theorem dX10_burnt_51 : decode cX10_burnt 51 = .ok (.if_icmp .eq 18, 3) := by decide +kernel
theorem dX10_burnt_54 : decode cX10_burnt 54 = .ok (.iload 5, 2) := by decide +kernel
theorem dX10_burnt_56 : decode cX10_burnt 56 = .ok (.i2l, 1) := by decide +kernel
theorem dX10_burnt_57 : decode cX10_burnt 57 = .ok (.iload_n 1, 1) := by decide +kernel
theorem dX10_burnt_58 : decode cX10_burnt 58 = .ok (.i2l, 1) := by decide +kernel
theorem dX10_burnt_59 : decode cX10_burnt 59 = .ok (.iload_n 2, 1) := by decide +kernel
theorem dX10_burnt_60 : decode cX10_burnt 60 = .ok (.i2l, 1) := by decide +kernel
theorem dX10_burnt_61 : decode cX10_burnt 61 = .ok (.invokestatic 66, 3) := by decide +kernel
theorem dX10_burnt_64 : decode cX10_burnt 64 = .ok (.ifCond .ne 5, 3) := by decide +kernel
theorem dX10_burnt_67 : decode cX10_burnt 67 = .ok (.iconst (-1), 1) := by decide +kernel
theorem dX10_burnt_68 : decode cX10_burnt 68 = .ok (.ireturn, 1) := by decide +kernel
theorem dX10_burnt_69 : decode cX10_burnt 69 = .ok (.iload_n 2, 1) := by decide +kernel
theorem dX10_burnt_70 : decode cX10_burnt 70 = .ok (.iload_n 1, 1) := by decide +kernel
theorem dX10_burnt_71 : decode cX10_burnt 71 = .ok (.isub, 1) := by decide +kernel
theorem dX10_burnt_72 : decode cX10_burnt 72 = .ok (.iconst 1, 1) := by decide +kernel
theorem dX10_burnt_73 : decode cX10_burnt 73 = .ok (.iadd, 1) := by decide +kernel
theorem dX10_burnt_74 : decode cX10_burnt 74 = .ok (.istore 6, 2) := by decide +kernel
theorem dX10_burnt_76 : decode cX10_burnt 76 = .ok (.iconst 0, 1) := by decide +kernel
theorem dX10_burnt_77 : decode cX10_burnt 77 = .ok (.istore 7, 2) := by decide +kernel
theorem dX10_burnt_79 : decode cX10_burnt 79 = .ok (.iconst 0, 1) := by decide +kernel
theorem dX10_burnt_80 : decode cX10_burnt 80 = .ok (.istore 8, 2) := by decide +kernel
theorem dX10_burnt_82 : decode cX10_burnt 82 = .ok (.iload 8, 2) := by decide +kernel
theorem dX10_burnt_84 : decode cX10_burnt 84 = .ok (.aload_n 0, 1) := by decide +kernel
theorem dX10_burnt_85 : decode cX10_burnt 85 = .ok (.getfield 126, 3) := by decide +kernel
theorem dX10_burnt_88 : decode cX10_burnt 88 = .ok (.if_icmp .ge 40, 3) := by decide +kernel
theorem dX10_burnt_91 : decode cX10_burnt 91 = .ok (.iload 7, 2) := by decide +kernel
theorem dX10_burnt_93 : decode cX10_burnt 93 = .ok (.iload 8, 2) := by decide +kernel
theorem dX10_burnt_95 : decode cX10_burnt 95 = .ok (.i2l, 1) := by decide +kernel
theorem dX10_burnt_96 : decode cX10_burnt 96 = .ok (.iload_n 1, 1) := by decide +kernel
theorem dX10_burnt_97 : decode cX10_burnt 97 = .ok (.i2l, 1) := by decide +kernel
theorem dX10_burnt_98 : decode cX10_burnt 98 = .ok (.iload_n 2, 1) := by decide +kernel
theorem dX10_burnt_99 : decode cX10_burnt 99 = .ok (.i2l, 1) := by decide +kernel
theorem dX10_burnt_100 : decode cX10_burnt 100 = .ok (.invokestatic 66, 3) := by decide +kernel
theorem dX10_burnt_103 : decode cX10_burnt 103 = .ok (.ifCond .eq 7, 3) := by decide +kernel
theorem dX10_burnt_106 : decode cX10_burnt 106 = .ok (.iconst 0, 1) := by decide +kernel
theorem dX10_burnt_107 : decode cX10_burnt 107 = .ok (.goto 12, 3) := by decide +kernel
theorem dX10_burnt_110 : decode cX10_burnt 110 = .ok (.iconst 1, 1) := by decide +kernel
theorem dX10_burnt_111 : decode cX10_burnt 111 = .ok (.aload_n 0, 1) := by decide +kernel
theorem dX10_burnt_112 : decode cX10_burnt 112 = .ok (.getfield 22, 3) := by decide +kernel
theorem dX10_burnt_115 : decode cX10_burnt 115 = .ok (.iload 8, 2) := by decide +kernel
theorem dX10_burnt_117 : decode cX10_burnt 117 = .ok (.iaload, 1) := by decide +kernel
theorem dX10_burnt_118 : decode cX10_burnt 118 = .ok (.ishl, 1) := by decide +kernel
theorem dX10_burnt_119 : decode cX10_burnt 119 = .ok (.ior, 1) := by decide +kernel
theorem dX10_burnt_120 : decode cX10_burnt 120 = .ok (.istore 7, 2) := by decide +kernel
theorem dX10_burnt_122 : decode cX10_burnt 122 = .ok (.iinc 8 1, 3) := by decide +kernel
theorem dX10_burnt_125 : decode cX10_burnt 125 = .ok (.goto (-43), 3) := by decide +kernel
theorem dX10_burnt_128 : decode cX10_burnt 128 = .ok (.iconst 0, 1) := by decide +kernel
theorem dX10_burnt_129 : decode cX10_burnt 129 = .ok (.istore 8, 2) := by decide +kernel
theorem dX10_burnt_131 : decode cX10_burnt 131 = .ok (.iconst 0, 1) := by decide +kernel
theorem dX10_burnt_132 : decode cX10_burnt 132 = .ok (.istore 9, 2) := by decide +kernel
theorem dX10_burnt_134 : decode cX10_burnt 134 = .ok (.iconst 1, 1) := by decide +kernel
theorem dX10_burnt_135 : decode cX10_burnt 135 = .ok (.istore 10, 2) := by decide +kernel
theorem dX10_burnt_137 : decode cX10_burnt 137 = .ok (.iload 10, 2) := by decide +kernel
theorem dX10_burnt_139 : decode cX10_burnt 139 = .ok (.iload_n 3, 1) := by decide +kernel
theorem dX10_burnt_140 : decode cX10_burnt 140 = .ok (.if_icmp .gt 194, 3) := by decide +kernel
theorem dX10_burnt_143 : decode cX10_burnt 143 = .ok (.iload 10, 2) := by decide +kernel
theorem dX10_burnt_145 : decode cX10_burnt 145 = .ok (.iload_n 3, 1) := by decide +kernel
theorem dX10_burnt_146 : decode cX10_burnt 146 = .ok (.iconst (-1), 1) := by decide +kernel
theorem dX10_burnt_147 : decode cX10_burnt 147 = .ok (.ixor, 1) := by decide +kernel
theorem dX10_burnt_148 : decode cX10_burnt 148 = .ok (.iand, 1) := by decide +kernel
theorem dX10_burnt_149 : decode cX10_burnt 149 = .ok (.ifCond .ne 179, 3) := by decide +kernel
theorem dX10_burnt_152 : decode cX10_burnt 152 = .ok (.iload 10, 2) := by decide +kernel
theorem dX10_burnt_154 : decode cX10_burnt 154 = .ok (.iload 7, 2) := by decide +kernel
theorem dX10_burnt_156 : decode cX10_burnt 156 = .ok (.iand, 1) := by decide +kernel
theorem dX10_burnt_157 : decode cX10_burnt 157 = .ok (.ifCond .ne 171, 3) := by decide +kernel
theorem dX10_burnt_160 : decode cX10_burnt 160 = .ok (.iload 10, 2) := by decide +kernel
theorem dX10_burnt_162 : decode cX10_burnt 162 = .ok (.invokestatic 129, 3) := by decide +kernel
theorem dX10_burnt_165 : decode cX10_burnt 165 = .ok (.iload 6, 2) := by decide +kernel
theorem dX10_burnt_167 : decode cX10_burnt 167 = .ok (.if_icmp .ne 161, 3) := by decide +kernel
theorem dX10_burnt_170 : decode cX10_burnt 170 = .ok (.aload_n 0, 1) := by decide +kernel
theorem dX10_burnt_171 : decode cX10_burnt 171 = .ok (.iload 10, 2) := by decide +kernel
theorem dX10_burnt_173 : decode cX10_burnt 173 = .ok (.invokevirtual 145, 3) := by decide +kernel
theorem dX10_burnt_176 : decode cX10_burnt 176 = .ok (.iconst 1, 1) := by decide +kernel
theorem dX10_burnt_177 : decode cX10_burnt 177 = .ok (.istore 11, 2) := by decide +kernel
theorem dX10_burnt_179 : decode cX10_burnt 179 = .ok (.iload 11, 2) := by decide +kernel
theorem dX10_burnt_181 : decode cX10_burnt 181 = .ok (.ifCond .eq 147, 3) := by decide +kernel
theorem dX10_burnt_184 : decode cX10_burnt 184 = .ok (.aload_n 0, 1) := by decide +kernel
theorem dX10_burnt_185 : decode cX10_burnt 185 = .ok (.iload_n 1, 1) := by decide +kernel
theorem dX10_burnt_186 : decode cX10_burnt 186 = .ok (.iload_n 2, 1) := by decide +kernel
theorem dX10_burnt_187 : decode cX10_burnt 187 = .ok (.iload 4, 2) := by decide +kernel
theorem dX10_burnt_189 : decode cX10_burnt 189 = .ok (.invokevirtual 176, 3) := by decide +kernel
theorem dX10_burnt_192 : decode cX10_burnt 192 = .ok (.ifCond .eq 127, 3) := by decide +kernel
theorem dX10_burnt_195 : decode cX10_burnt 195 = .ok (.iinc 8 1, 3) := by decide +kernel
theorem dX10_burnt_198 : decode cX10_burnt 198 = .ok (.iload 9, 2) := by decide +kernel
theorem dX10_burnt_200 : decode cX10_burnt 200 = .ok (.ifCond .ne 7, 3) := by decide +kernel
theorem dX10_burnt_203 : decode cX10_burnt 203 = .ok (.iconst 1, 1) := by decide +kernel
theorem dX10_burnt_204 : decode cX10_burnt 204 = .ok (.goto 4, 3) := by decide +kernel
theorem dX10_burnt_207 : decode cX10_burnt 207 = .ok (.iconst 0, 1) := by decide +kernel
theorem dX10_burnt_208 : decode cX10_burnt 208 = .ok (.istore 12, 2) := by decide +kernel
theorem dX10_burnt_210 : decode cX10_burnt 210 = .ok (.iconst 0, 1) := by decide +kernel
theorem dX10_burnt_211 : decode cX10_burnt 211 = .ok (.istore 13, 2) := by decide +kernel
theorem dX10_burnt_213 : decode cX10_burnt 213 = .ok (.iload 13, 2) := by decide +kernel
theorem dX10_burnt_215 : decode cX10_burnt 215 = .ok (.iload 6, 2) := by decide +kernel
theorem dX10_burnt_217 : decode cX10_burnt 217 = .ok (.if_icmp .ge 64, 3) := by decide +kernel
theorem dX10_burnt_220 : decode cX10_burnt 220 = .ok (.iload 9, 2) := by decide +kernel
theorem dX10_burnt_222 : decode cX10_burnt 222 = .ok (.ifCond .eq 59, 3) := by decide +kernel
theorem dX10_burnt_225 : decode cX10_burnt 225 = .ok (.iload 12, 2) := by decide +kernel
theorem dX10_burnt_227 : decode cX10_burnt 227 = .ok (.ifCond .ne 54, 3) := by decide +kernel
theorem dX10_burnt_230 : decode cX10_burnt 230 = .ok (.aload_n 0, 1) := by decide +kernel
theorem dX10_burnt_231 : decode cX10_burnt 231 = .ok (.getfield 37, 3) := by decide +kernel
theorem dX10_burnt_234 : decode cX10_burnt 234 = .ok (.iload 13, 2) := by decide +kernel
theorem dX10_burnt_236 : decode cX10_burnt 236 = .ok (.iaload, 1) := by decide +kernel
theorem dX10_burnt_237 : decode cX10_burnt 237 = .ok (.aload_n 0, 1) := by decide +kernel
theorem dX10_burnt_238 : decode cX10_burnt 238 = .ok (.getfield 40, 3) := by decide +kernel
theorem dX10_burnt_241 : decode cX10_burnt 241 = .ok (.iload 13, 2) := by decide +kernel
theorem dX10_burnt_243 : decode cX10_burnt 243 = .ok (.iaload, 1) := by decide +kernel
theorem dX10_burnt_244 : decode cX10_burnt 244 = .ok (.if_icmp .eq 31, 3) := by decide +kernel
theorem dX10_burnt_247 : decode cX10_burnt 247 = .ok (.aload_n 0, 1) := by decide +kernel
theorem dX10_burnt_248 : decode cX10_burnt 248 = .ok (.getfield 37, 3) := by decide +kernel
theorem dX10_burnt_251 : decode cX10_burnt 251 = .ok (.iload 13, 2) := by decide +kernel
theorem dX10_burnt_253 : decode cX10_burnt 253 = .ok (.iaload, 1) := by decide +kernel
theorem dX10_burnt_254 : decode cX10_burnt 254 = .ok (.aload_n 0, 1) := by decide +kernel
theorem dX10_burnt_255 : decode cX10_burnt 255 = .ok (.getfield 40, 3) := by decide +kernel
theorem dX10_burnt_258 : decode cX10_burnt 258 = .ok (.iload 13, 2) := by decide +kernel
theorem dX10_burnt_260 : decode cX10_burnt 260 = .ok (.iaload, 1) := by decide +kernel
theorem dX10_burnt_261 : decode cX10_burnt 261 = .ok (.if_icmp .ge 7, 3) := by decide +kernel
theorem dX10_burnt_264 : decode cX10_burnt 264 = .ok (.iconst 1, 1) := by decide +kernel
theorem dX10_burnt_265 : decode cX10_burnt 265 = .ok (.goto 4, 3) := by decide +kernel
theorem dX10_burnt_268 : decode cX10_burnt 268 = .ok (.iconst 0, 1) := by decide +kernel
theorem dX10_burnt_269 : decode cX10_burnt 269 = .ok (.istore 12, 2) := by decide +kernel
theorem dX10_burnt_271 : decode cX10_burnt 271 = .ok (.iload 6, 2) := by decide +kernel
theorem dX10_burnt_273 : decode cX10_burnt 273 = .ok (.istore 13, 2) := by decide +kernel
theorem dX10_burnt_275 : decode cX10_burnt 275 = .ok (.iinc 13 1, 3) := by decide +kernel
theorem dX10_burnt_278 : decode cX10_burnt 278 = .ok (.goto (-65), 3) := by decide +kernel
theorem dX10_burnt_281 : decode cX10_burnt 281 = .ok (.iconst 0, 1) := by decide +kernel
theorem dX10_burnt_282 : decode cX10_burnt 282 = .ok (.istore 13, 2) := by decide +kernel
theorem dX10_burnt_284 : decode cX10_burnt 284 = .ok (.iload 13, 2) := by decide +kernel
theorem dX10_burnt_286 : decode cX10_burnt 286 = .ok (.iload 6, 2) := by decide +kernel
theorem dX10_burnt_288 : decode cX10_burnt 288 = .ok (.if_icmp .ge 28, 3) := by decide +kernel
theorem dX10_burnt_291 : decode cX10_burnt 291 = .ok (.iload 12, 2) := by decide +kernel
theorem dX10_burnt_293 : decode cX10_burnt 293 = .ok (.ifCond .eq 23, 3) := by decide +kernel
theorem dX10_burnt_296 : decode cX10_burnt 296 = .ok (.aload_n 0, 1) := by decide +kernel
theorem dX10_burnt_297 : decode cX10_burnt 297 = .ok (.getfield 40, 3) := by decide +kernel
theorem dX10_burnt_300 : decode cX10_burnt 300 = .ok (.iload 13, 2) := by decide +kernel
theorem dX10_burnt_302 : decode cX10_burnt 302 = .ok (.aload_n 0, 1) := by decide +kernel
theorem dX10_burnt_303 : decode cX10_burnt 303 = .ok (.getfield 37, 3) := by decide +kernel
theorem dX10_burnt_306 : decode cX10_burnt 306 = .ok (.iload 13, 2) := by decide +kernel
theorem dX10_burnt_308 : decode cX10_burnt 308 = .ok (.iaload, 1) := by decide +kernel
theorem dX10_burnt_309 : decode cX10_burnt 309 = .ok (.iastore, 1) := by decide +kernel
theorem dX10_burnt_310 : decode cX10_burnt 310 = .ok (.iinc 13 1, 3) := by decide +kernel
theorem dX10_burnt_313 : decode cX10_burnt 313 = .ok (.goto (-29), 3) := by decide +kernel
theorem dX10_burnt_316 : decode cX10_burnt 316 = .ok (.iconst 1, 1) := by decide +kernel
theorem dX10_burnt_317 : decode cX10_burnt 317 = .ok (.istore 9, 2) := by decide +kernel
theorem dX10_burnt_319 : decode cX10_burnt 319 = .ok (.aload_n 0, 1) := by decide +kernel
theorem dX10_burnt_320 : decode cX10_burnt 320 = .ok (.invokevirtual 148, 3) := by decide +kernel
theorem dX10_burnt_323 : decode cX10_burnt 323 = .ok (.istore 11, 2) := by decide +kernel
theorem dX10_burnt_325 : decode cX10_burnt 325 = .ok (.goto (-146), 3) := by decide +kernel
theorem dX10_burnt_328 : decode cX10_burnt 328 = .ok (.iinc 10 1, 3) := by decide +kernel
theorem dX10_burnt_331 : decode cX10_burnt 331 = .ok (.goto (-194), 3) := by decide +kernel
theorem dX10_burnt_334 : decode cX10_burnt 334 = .ok (.iload 8, 2) := by decide +kernel
theorem dX10_burnt_336 : decode cX10_burnt 336 = .ok (.ifCond .ne 8, 3) := by decide +kernel
theorem dX10_burnt_339 : decode cX10_burnt 339 = .ok (.bipush (-4), 2) := by decide +kernel
theorem dX10_burnt_341 : decode cX10_burnt 341 = .ok (.goto 23, 3) := by decide +kernel
theorem dX10_burnt_344 : decode cX10_burnt 344 = .ok (.iload 5, 2) := by decide +kernel
theorem dX10_burnt_346 : decode cX10_burnt 346 = .ok (.iconst (-1), 1) := by decide +kernel
theorem dX10_burnt_347 : decode cX10_burnt 347 = .ok (.if_icmp .ne 8, 3) := by decide +kernel
theorem dX10_burnt_350 : decode cX10_burnt 350 = .ok (.iload 8, 2) := by decide +kernel
theorem dX10_burnt_352 : decode cX10_burnt 352 = .ok (.goto 12, 3) := by decide +kernel
theorem dX10_burnt_355 : decode cX10_burnt 355 = .ok (.aload_n 0, 1) := by decide +kernel
theorem dX10_burnt_356 : decode cX10_burnt 356 = .ok (.getfield 40, 3) := by decide +kernel
theorem dX10_burnt_359 : decode cX10_burnt 359 = .ok (.iload 5, 2) := by decide +kernel
theorem dX10_burnt_361 : decode cX10_burnt 361 = .ok (.iload_n 1, 1) := by decide +kernel
theorem dX10_burnt_362 : decode cX10_burnt 362 = .ok (.isub, 1) := by decide +kernel
theorem dX10_burnt_363 : decode cX10_burnt 363 = .ok (.iaload, 1) := by decide +kernel
theorem dX10_burnt_364 : decode cX10_burnt 364 = .ok (.ireturn, 1) := by decide +kernel
set_option maxHeartbeats 4000000 in
set_option maxRecDepth 100000 in
theorem cX10_burnt_k_0 {l : Launch} {D : va_G} {a : Nat → Nat} {k : Nat → ClassId} {n : Nat} {p1 : Int32} {p2 : Int32} {p3 : Int32} {p4 : Int32} {p5 : Int32} {x0 xz : bq_S} {rz : Int32} (h : fX10_burnt n p1 p2 p3 p4 p5 x0 = some (rz, xz)) : bq_M l D bq_cl (bq_ty k) (bq_wM a k) yX10_burnt cX10_burnt 14 (some .int) { frames := 3, cells := 0, slots := 0, locals := 76 } [.ref (a 0), .int p1, .int p2, .int p3, .int p4, .int p5] x0 (some rz) xz := by
  refine bq_ofW RX10 [(0, .ref (a 0)), (1, .int p1), (2, .int p2), (3, .int p3), (4, .int p4), (5, .int p5)] (by decide +kernel) rfl (Nat.le_of_ble_eq_true rfl) rfl (bq_adM a k) ?_
  intro p e s m below meth c A Q ls S hK hD hA hR hS hP hl
  have hx := S.1; have hb := S.2.1; have hml := S.2.2.1; have hown := S.2.2.2.1; have hts := S.2.2.2.2
  have hret : ∀ z, some z = some (rz, xz) → (rz, xz) = z := fun z h => (Option.some.inj h).symm
  unfold fX10_burnt at h
  have hj69 : ∀ (v18 : Int32) (v19 : Int32) (v20 : Int32) (v21 : Int32) (v22 : Int32) (x23 : bq_S) (H : Heap) (locs : List Loc) (ls : Array Slot), fX10_burnt_j69 n v18 v19 v20 v21 v22 x23 = some (rz, xz) → va_P D bq_cl (bq_wM a k x23) H → va_S A s.heap H locs → lv_has ls 14 [(0, .ref (a 0)), (1, .int v18), (2, .int v19), (3, .int v20), (4, .int v21), (5, .int v22)] → W p l e { frames := 3, cells := 0, slots := 0, locals := 76 } s m [.ref (a 0), .int p1, .int p2, .int p3, .int p4, .int p5].toArray below meth c H locs 0 0 Q (F0 m 69 ls []) := by
    intro v18 v19 v20 v21 v22 x23 H locs ls h hP hS hl
    unfold fX10_burnt_j69 at h
    refine lv_iload_n hx hb dX10_burnt_69 rfl (lv_at hl 2 rfl) ?_
    refine lv_iload_n hx hb dX10_burnt_70 rfl (lv_at hl 1 rfl) ?_
    refine lv_isub hx hb dX10_burnt_71 ?_
    refine lv_iconst (v := (1 : Int32)) hx hb dX10_burnt_72 (by decide) ?_
    refine lv_iadd hx hb dX10_burnt_73 ?_
    refine lv_topi (fun v24 hv24 => ?_)
    replace h := bq_bv h hv24
    refine lv_istore (lv' := [(6, .int v24), (0, .ref (a 0)), (1, .int v18), (2, .int v19), (3, .int v20), (4, .int v21), (5, .int v22)]) hx hb dX10_burnt_74 hl (by decide) rfl (fun ls hl => ?_)
    refine lv_iconst (v := (0 : Int32)) hx hb dX10_burnt_76 (by decide) ?_
    refine lv_istore (lv' := [(7, .int (0 : Int32)), (6, .int v24), (0, .ref (a 0)), (1, .int v18), (2, .int v19), (3, .int v20), (4, .int v21), (5, .int v22)]) hx hb dX10_burnt_77 hl (by decide) rfl (fun ls hl => ?_)
    refine lv_iconst (v := (0 : Int32)) hx hb dX10_burnt_79 (by decide) ?_
    refine lv_istore (lv' := [(8, .int (0 : Int32)), (7, .int (0 : Int32)), (6, .int v24), (0, .ref (a 0)), (1, .int v18), (2, .int v19), (3, .int v20), (4, .int v21), (5, .int v22)]) hx hb dX10_burnt_80 hl (by decide) rfl (fun ls hl => ?_)
    have hl82 : ∀ (v25 : Int32) (v26 : Int32) (v27 : Int32) (v28 : Int32) (v29 : Int32) (v30 : Int32) (kf : Nat) (v31 : Int32) (v32 : Int32) (x33 : bq_S) (eo : Int32 × Int32 × bq_S) (H : Heap) (locs : List Loc) (ls : Array Slot), wh kf (fX10_burnt_b82 n v25 v26 v27 v28 v29 v30) (v31, v32, x33) = some eo → va_P D bq_cl (bq_wM a k x33) H → va_S A s.heap H locs → lv_has ls 14 [(0, .ref (a 0)), (1, .int v25), (2, .int v26), (3, .int v27), (4, .int v28), (5, .int v29), (6, .int v30), (7, .int v31), (8, .int v32)] → (∀ (H : Heap) (locs : List Loc) (ls : Array Slot) (v45 : Int32) (v46 : Int32) (x47 : bq_S), eo = (v45, v46, x47) → va_P D bq_cl (bq_wM a k x47) H → va_S A s.heap H locs → lv_has ls 14 [(0, .ref (a 0)), (1, .int v25), (2, .int v26), (3, .int v27), (4, .int v28), (5, .int v29), (6, .int v30), (7, .int v45)] → W p l e { frames := 3, cells := 0, slots := 0, locals := 76 } s m [.ref (a 0), .int p1, .int p2, .int p3, .int p4, .int p5].toArray below meth c H locs 0 0 Q (F0 m 128 ls [])) → W p l e { frames := 3, cells := 0, slots := 0, locals := 76 } s m [.ref (a 0), .int p1, .int p2, .int p3, .int p4, .int p5].toArray below meth c H locs 0 0 Q (F0 m 82 ls []) := by
      intro v25 v26 v27 v28 v29 v30 kf
      induction kf with
      | zero => intro v31 v32 x33 eo H locs ls h; cases h
      | succ kf ih =>
        intro v31 v32 x33 eo H locs ls h hP hS hl kx
        obtain ⟨out, h, hw⟩ := wh_s h
        unfold fX10_burnt_b82 at h
        replace h := un3_e h
        refine lv_iload hx hb dX10_burnt_82 (lv_at hl 8 rfl) ?_
        refine lv_aload_n hx hb dX10_burnt_84 rfl (lv_at hl 0 rfl) ?_
        refine bq_get (q0 := 0) S hK hP fl_X10_126_X10_6 rfl rfl rfl dX10_burnt_85 ?_
        refine lv_icmp_ge (tgt := 128) hx hb dX10_burnt_88 (by decide) (fun c34 => ?_) (fun c34 => ?_)
        · replace h := (if_pos c34).symm.trans h
          cases h
          exact kx _ _ _ _ _ _ (Option.some.inj hw).symm hP hS (lv_sub hl [0, 1, 2, 3, 4, 5, 6, 7] rfl)
        · replace h := (if_neg c34).symm.trans h
          refine lv_iload hx hb dX10_burnt_91 (lv_at hl 7 rfl) ?_
          refine lv_iload hx hb dX10_burnt_93 (lv_at hl 8 rfl) ?_
          refine lv_i2l hx hb dX10_burnt_95 rfl ?_
          refine lv_iload_n hx hb dX10_burnt_96 rfl (lv_at hl 1 rfl) ?_
          refine lv_i2l hx hb dX10_burnt_97 rfl ?_
          refine lv_iload_n hx hb dX10_burnt_98 rfl (lv_at hl 2 rfl) ?_
          refine lv_i2l hx hb dX10_burnt_99 rfl ?_
          obtain ⟨o35, ho35, h⟩ := Option.bind_eq_some_iff.mp h
          obtain ⟨v37, x36⟩ := o35
          replace h := un2_e h
          refine bq_callSi (As := [.long _, .long _, .long _]) S hK hD hA hP hS (cX10_in_k ho35) hd_yX10_in ml_X10_66 st_yX10_in ⟨rfl, rfl⟩ ⟨by decide, by decide⟩ rfl hl.1 rfl (Nat.le_of_ble_eq_true rfl) ⟨Nat.zero_le _, Nat.zero_le _⟩ dX10_burnt_100 (fun H locs hP hS => ?_)
          refine lv_if_eq (tgt := 110) hx hb dX10_burnt_103 (by decide) (fun c38 => ?_) (fun c38 => ?_)
          · replace h := (if_pos c38).symm.trans h
            refine lv_iconst (v := (1 : Int32)) hx hb dX10_burnt_110 (by decide) ?_
            refine lv_aload_n hx hb dX10_burnt_111 rfl (lv_at hl 0 rfl) ?_
            refine bq_get (q0 := 0) S hK hP fl_X10_22_X10_7 rfl rfl rfl dX10_burnt_112 ?_
            refine lv_iload hx hb dX10_burnt_115 (lv_at hl 8 rfl) ?_
            obtain ⟨g39, h⟩ := bq_gd h
            refine va_iald (D := D) hx hb hK hP 5 0 rfl rfl g39 dX10_burnt_117 ?_
            refine lv_ishl hx hb dX10_burnt_118 ?_
            refine lv_ior hx hb dX10_burnt_119 ?_
            refine lv_topi (fun v40 hv40 => ?_)
            replace h := bq_bv h hv40
            refine lv_istore (lv' := [(7, .int v40), (0, .ref (a 0)), (1, .int v25), (2, .int v26), (3, .int v27), (4, .int v28), (5, .int v29), (6, .int v30), (8, .int v32)]) hx hb dX10_burnt_120 hl (by decide) rfl (fun ls hl => ?_)
            obtain ⟨v41, hv41, h⟩ := bq_b h
            refine lv_iinc (v := v41) (lv' := [(8, .int v41), (7, .int v40), (0, .ref (a 0)), (1, .int v25), (2, .int v26), (3, .int v27), (4, .int v28), (5, .int v29), (6, .int v30)]) hx hb dX10_burnt_122 hl (k := 8) rfl (by rw [hv41]; rfl) (by decide) rfl (fun ls hl => ?_)
            refine lv_goto (tgt := 82) hx hb dX10_burnt_125 (by decide) ?_
            cases h
            exact ih _ _ _ _ _ _ _ hw hP hS (lv_sub hl [2, 3, 4, 5, 6, 7, 8, 1, 0] rfl) kx
          · replace h := (if_neg c38).symm.trans h
            refine lv_iconst (v := (0 : Int32)) hx hb dX10_burnt_106 (by decide) ?_
            refine lv_goto (tgt := 119) hx hb dX10_burnt_107 (by decide) ?_
            refine lv_ior hx hb dX10_burnt_119 ?_
            refine lv_topi (fun v42 hv42 => ?_)
            replace h := bq_bv h hv42
            refine lv_istore (lv' := [(7, .int v42), (0, .ref (a 0)), (1, .int v25), (2, .int v26), (3, .int v27), (4, .int v28), (5, .int v29), (6, .int v30), (8, .int v32)]) hx hb dX10_burnt_120 hl (by decide) rfl (fun ls hl => ?_)
            obtain ⟨v43, hv43, h⟩ := bq_b h
            refine lv_iinc (v := v43) (lv' := [(8, .int v43), (7, .int v42), (0, .ref (a 0)), (1, .int v25), (2, .int v26), (3, .int v27), (4, .int v28), (5, .int v29), (6, .int v30)]) hx hb dX10_burnt_122 hl (k := 8) rfl (by rw [hv43]; rfl) (by decide) rfl (fun ls hl => ?_)
            refine lv_goto (tgt := 82) hx hb dX10_burnt_125 (by decide) ?_
            cases h
            exact ih _ _ _ _ _ _ _ hw hP hS (lv_sub hl [2, 3, 4, 5, 6, 7, 8, 1, 0] rfl) kx
    obtain ⟨e44, he44, h⟩ := Option.bind_eq_some_iff.mp h
    refine hl82 _ _ _ _ _ _ n _ _ _ e44 _ _ _ he44 hP hS (lv_sub hl [3, 4, 5, 6, 7, 8, 2, 1, 0] rfl) (fun H locs ls v45 v46 x47 hz hP hS hl => ?_)
    subst hz
    replace h := un3_e h
    refine lv_iconst (v := (0 : Int32)) hx hb dX10_burnt_128 (by decide) ?_
    refine lv_istore (lv' := [(8, .int (0 : Int32)), (0, .ref (a 0)), (1, .int v18), (2, .int v19), (3, .int v20), (4, .int v21), (5, .int v22), (6, .int v24), (7, .int v45)]) hx hb dX10_burnt_129 hl (by decide) rfl (fun ls hl => ?_)
    refine lv_iconst (v := (0 : Int32)) hx hb dX10_burnt_131 (by decide) ?_
    refine lv_istore (lv' := [(9, .int (0 : Int32)), (8, .int (0 : Int32)), (0, .ref (a 0)), (1, .int v18), (2, .int v19), (3, .int v20), (4, .int v21), (5, .int v22), (6, .int v24), (7, .int v45)]) hx hb dX10_burnt_132 hl (by decide) rfl (fun ls hl => ?_)
    refine lv_iconst (v := (1 : Int32)) hx hb dX10_burnt_134 (by decide) ?_
    refine lv_istore (lv' := [(10, .int (1 : Int32)), (9, .int (0 : Int32)), (8, .int (0 : Int32)), (0, .ref (a 0)), (1, .int v18), (2, .int v19), (3, .int v20), (4, .int v21), (5, .int v22), (6, .int v24), (7, .int v45)]) hx hb dX10_burnt_135 hl (by decide) rfl (fun ls hl => ?_)
    have hl137 : ∀ (v48 : Int32) (v49 : Int32) (v50 : Int32) (v51 : Int32) (v52 : Int32) (v53 : Int32) (v54 : Int32) (kf : Nat) (v55 : Int32) (v56 : Int32) (v57 : Int32) (x58 : bq_S) (eo : Int32 × Int32 × Int32 × bq_S) (H : Heap) (locs : List Loc) (ls : Array Slot), wh kf (fX10_burnt_b137 n v48 v49 v50 v51 v52 v53 v54) (v55, v56, v57, x58) = some eo → va_P D bq_cl (bq_wM a k x58) H → va_S A s.heap H locs → lv_has ls 14 [(0, .ref (a 0)), (1, .int v48), (2, .int v49), (3, .int v50), (4, .int v51), (5, .int v52), (6, .int v53), (7, .int v54), (8, .int v55), (9, .int v56), (10, .int v57)] → (∀ (H : Heap) (locs : List Loc) (ls : Array Slot) (v160 : Int32) (v161 : Int32) (v162 : Int32) (x163 : bq_S), eo = (v160, v161, v162, x163) → va_P D bq_cl (bq_wM a k x163) H → va_S A s.heap H locs → lv_has ls 14 [(0, .ref (a 0)), (1, .int v48), (5, .int v52), (8, .int v160)] → W p l e { frames := 3, cells := 0, slots := 0, locals := 76 } s m [.ref (a 0), .int p1, .int p2, .int p3, .int p4, .int p5].toArray below meth c H locs 0 0 Q (F0 m 334 ls [])) → W p l e { frames := 3, cells := 0, slots := 0, locals := 76 } s m [.ref (a 0), .int p1, .int p2, .int p3, .int p4, .int p5].toArray below meth c H locs 0 0 Q (F0 m 137 ls []) := by
      intro v48 v49 v50 v51 v52 v53 v54 kf
      induction kf with
      | zero => intro v55 v56 v57 x58 eo H locs ls h; cases h
      | succ kf ih =>
        intro v55 v56 v57 x58 eo H locs ls h hP hS hl kx
        obtain ⟨out, h, hw⟩ := wh_s h
        unfold fX10_burnt_b137 at h
        replace h := un4_e h
        refine lv_iload hx hb dX10_burnt_137 (lv_at hl 10 rfl) ?_
        refine lv_iload_n hx hb dX10_burnt_139 rfl (lv_at hl 3 rfl) ?_
        refine lv_icmp_gt (tgt := 334) hx hb dX10_burnt_140 (by decide) (fun c59 => ?_) (fun c59 => ?_)
        · replace h := (if_pos c59).symm.trans h
          cases h
          exact kx _ _ _ _ _ _ _ (Option.some.inj hw).symm hP hS (lv_sub hl [0, 1, 5, 8] rfl)
        · replace h := (if_neg c59).symm.trans h
          refine lv_iload hx hb dX10_burnt_143 (lv_at hl 10 rfl) ?_
          refine lv_iload_n hx hb dX10_burnt_145 rfl (lv_at hl 3 rfl) ?_
          refine lv_iconst (v := (-1 : Int32)) hx hb dX10_burnt_146 (by decide) ?_
          refine lv_ixor hx hb dX10_burnt_147 ?_
          refine lv_iand hx hb dX10_burnt_148 ?_
          refine lv_if_ne (tgt := 328) hx hb dX10_burnt_149 (by decide) (fun c60 => ?_) (fun c60 => ?_)
          · replace h := (if_neg c60).symm.trans h
            obtain ⟨v61, hv61, h⟩ := bq_b h
            refine lv_iinc (v := v61) (lv' := [(10, .int v61), (0, .ref (a 0)), (1, .int v48), (2, .int v49), (3, .int v50), (4, .int v51), (5, .int v52), (6, .int v53), (7, .int v54), (8, .int v55), (9, .int v56)]) hx hb dX10_burnt_328 hl (k := 10) rfl (by rw [hv61]; rfl) (by decide) rfl (fun ls hl => ?_)
            refine lv_goto (tgt := 137) hx hb dX10_burnt_331 (by decide) ?_
            cases h
            exact ih _ _ _ _ _ _ _ _ hw hP hS (lv_sub hl [1, 2, 3, 4, 5, 6, 7, 8, 9, 10, 0] rfl) kx
          · replace h := (if_pos c60).symm.trans h
            refine lv_iload hx hb dX10_burnt_152 (lv_at hl 10 rfl) ?_
            refine lv_iload hx hb dX10_burnt_154 (lv_at hl 7 rfl) ?_
            refine lv_iand hx hb dX10_burnt_156 ?_
            refine lv_if_ne (tgt := 328) hx hb dX10_burnt_157 (by decide) (fun c62 => ?_) (fun c62 => ?_)
            · replace h := (if_neg c62).symm.trans h
              obtain ⟨v63, hv63, h⟩ := bq_b h
              refine lv_iinc (v := v63) (lv' := [(10, .int v63), (0, .ref (a 0)), (1, .int v48), (2, .int v49), (3, .int v50), (4, .int v51), (5, .int v52), (6, .int v53), (7, .int v54), (8, .int v55), (9, .int v56)]) hx hb dX10_burnt_328 hl (k := 10) rfl (by rw [hv63]; rfl) (by decide) rfl (fun ls hl => ?_)
              refine lv_goto (tgt := 137) hx hb dX10_burnt_331 (by decide) ?_
              cases h
              exact ih _ _ _ _ _ _ _ _ hw hP hS (lv_sub hl [1, 2, 3, 4, 5, 6, 7, 8, 9, 10, 0] rfl) kx
            · replace h := (if_pos c62).symm.trans h
              refine lv_iload hx hb dX10_burnt_160 (lv_at hl 10 rfl) ?_
              obtain ⟨o64, ho64, h⟩ := Option.bind_eq_some_iff.mp h
              obtain ⟨v66, x65⟩ := o64
              replace h := un2_e h
              refine bq_callSi (As := [.int _]) S hK hD hA hP hS (cX10_size_k ho64) hd_yX10_size ml_X10_129 st_yX10_size ⟨rfl, rfl⟩ ⟨by decide, by decide⟩ rfl hl.1 rfl (Nat.le_of_ble_eq_true rfl) ⟨Nat.zero_le _, Nat.zero_le _⟩ dX10_burnt_162 (fun H locs hP hS => ?_)
              refine lv_iload hx hb dX10_burnt_165 (lv_at hl 6 rfl) ?_
              refine lv_icmp_ne (tgt := 328) hx hb dX10_burnt_167 (by decide) (fun c67 => ?_) (fun c67 => ?_)
              · replace h := (if_neg c67).symm.trans h
                obtain ⟨v68, hv68, h⟩ := bq_b h
                refine lv_iinc (v := v68) (lv' := [(10, .int v68), (0, .ref (a 0)), (1, .int v48), (2, .int v49), (3, .int v50), (4, .int v51), (5, .int v52), (6, .int v53), (7, .int v54), (8, .int v55), (9, .int v56)]) hx hb dX10_burnt_328 hl (k := 10) rfl (by rw [hv68]; rfl) (by decide) rfl (fun ls hl => ?_)
                refine lv_goto (tgt := 137) hx hb dX10_burnt_331 (by decide) ?_
                cases h
                exact ih _ _ _ _ _ _ _ _ hw hP hS (lv_sub hl [1, 2, 3, 4, 5, 6, 7, 8, 9, 10, 0] rfl) kx
              · replace h := (if_pos c67).symm.trans h
                refine lv_aload_n hx hb dX10_burnt_170 rfl (lv_at hl 0 rfl) ?_
                refine lv_iload hx hb dX10_burnt_171 (lv_at hl 10 rfl) ?_
                obtain ⟨x70, ho69, h⟩ := Option.bind_eq_some_iff.mp h
                refine bq_callVv (q0 := 0) (As := [.int _]) S hK hD hA hP hS (cX10_first_k_0 ho69) hd_yX10_first ml_X10_145 in_yX10_first (hts _ sl_X10_X10_yX10_first) ⟨rfl, rfl⟩ ⟨by decide, by decide⟩ rfl rfl rfl hl.1 rfl (Nat.le_of_ble_eq_true rfl) ⟨Nat.zero_le _, Nat.zero_le _⟩ dX10_burnt_173 (fun H locs hP hS => ?_)
                refine lv_iconst (v := (1 : Int32)) hx hb dX10_burnt_176 (by decide) ?_
                refine lv_istore (lv' := [(11, .int (1 : Int32)), (0, .ref (a 0)), (1, .int v48), (2, .int v49), (3, .int v50), (4, .int v51), (5, .int v52), (6, .int v53), (7, .int v54), (8, .int v55), (9, .int v56), (10, .int v57)]) hx hb dX10_burnt_177 hl (by decide) rfl (fun ls hl => ?_)
                have hl179 : ∀ (v71 : Int32) (v72 : Int32) (v73 : Int32) (v74 : Int32) (v75 : Int32) (v76 : Int32) (v77 : Int32) (v80 : Int32) (kf : Nat) (v78 : Int32) (v79 : Int32) (v81 : Int32) (x82 : bq_S) (eo : Int32 × Int32 × Int32 × bq_S) (H : Heap) (locs : List Loc) (ls : Array Slot), wh kf (fX10_burnt_b179 n v71 v72 v73 v74 v75 v76 v77 v80) (v78, v79, v81, x82) = some eo → va_P D bq_cl (bq_wM a k x82) H → va_S A s.heap H locs → lv_has ls 14 [(0, .ref (a 0)), (1, .int v71), (2, .int v72), (3, .int v73), (4, .int v74), (5, .int v75), (6, .int v76), (7, .int v77), (8, .int v78), (9, .int v79), (10, .int v80), (11, .int v81)] → (∀ (H : Heap) (locs : List Loc) (ls : Array Slot) (v154 : Int32) (v155 : Int32) (v156 : Int32) (x157 : bq_S), eo = (v154, v155, v156, x157) → va_P D bq_cl (bq_wM a k x157) H → va_S A s.heap H locs → lv_has ls 14 [(0, .ref (a 0)), (1, .int v71), (2, .int v72), (3, .int v73), (4, .int v74), (5, .int v75), (6, .int v76), (7, .int v77), (8, .int v154), (9, .int v155), (10, .int v80)] → W p l e { frames := 3, cells := 0, slots := 0, locals := 76 } s m [.ref (a 0), .int p1, .int p2, .int p3, .int p4, .int p5].toArray below meth c H locs 0 0 Q (F0 m 328 ls [])) → W p l e { frames := 3, cells := 0, slots := 0, locals := 76 } s m [.ref (a 0), .int p1, .int p2, .int p3, .int p4, .int p5].toArray below meth c H locs 0 0 Q (F0 m 179 ls []) := by
                  intro v71 v72 v73 v74 v75 v76 v77 v80 kf
                  induction kf with
                  | zero => intro v78 v79 v81 x82 eo H locs ls h; cases h
                  | succ kf ih =>
                    intro v78 v79 v81 x82 eo H locs ls h hP hS hl kx
                    obtain ⟨out, h, hw⟩ := wh_s h
                    unfold fX10_burnt_b179 at h
                    replace h := un4_e h
                    have hj319 : ∀ (v88 : Int32) (v89 : Int32) (x90 : bq_S) (H : Heap) (locs : List Loc) (ls : Array Slot), fX10_burnt_j319 n v71 v72 v73 v74 v75 v76 v77 v88 v89 v80 x90 = some out → va_P D bq_cl (bq_wM a k x90) H → va_S A s.heap H locs → lv_has ls 14 [(0, .ref (a 0)), (1, .int v71), (2, .int v72), (3, .int v73), (4, .int v74), (5, .int v75), (6, .int v76), (7, .int v77), (8, .int v88), (9, .int v89), (10, .int v80)] → W p l e { frames := 3, cells := 0, slots := 0, locals := 76 } s m [.ref (a 0), .int p1, .int p2, .int p3, .int p4, .int p5].toArray below meth c H locs 0 0 Q (F0 m 319 ls []) := by
                      intro v88 v89 x90 H locs ls h hP hS hl
                      unfold fX10_burnt_j319 at h
                      refine lv_aload_n hx hb dX10_burnt_319 rfl (lv_at hl 0 rfl) ?_
                      obtain ⟨o91, ho91, h⟩ := Option.bind_eq_some_iff.mp h
                      obtain ⟨v93, x92⟩ := o91
                      replace h := un2_e h
                      refine bq_callVi (q0 := 0) (As := []) S hK hD hA hP hS (cX10_next_k_0 ho91) hd_yX10_next ml_X10_148 in_yX10_next (hts _ sl_X10_X10_yX10_next) ⟨rfl, rfl⟩ ⟨by decide, by decide⟩ rfl rfl rfl hl.1 rfl (Nat.le_of_ble_eq_true rfl) ⟨Nat.zero_le _, Nat.zero_le _⟩ dX10_burnt_320 (fun H locs hP hS => ?_)
                      refine lv_istore (lv' := [(11, .int v93), (0, .ref (a 0)), (1, .int v71), (2, .int v72), (3, .int v73), (4, .int v74), (5, .int v75), (6, .int v76), (7, .int v77), (8, .int v88), (9, .int v89), (10, .int v80)]) hx hb dX10_burnt_323 hl (by decide) rfl (fun ls hl => ?_)
                      refine lv_goto (tgt := 179) hx hb dX10_burnt_325 (by decide) ?_
                      cases h
                      exact ih _ _ _ _ _ _ _ _ hw hP hS (lv_sub hl [1, 2, 3, 4, 5, 6, 7, 8, 9, 10, 11, 0] rfl) kx
                    have hj281 : ∀ (v129 : Int32) (v130 : Int32) (x131 : bq_S) (H : Heap) (locs : List Loc) (ls : Array Slot), fX10_burnt_j281 n v71 v72 v73 v74 v75 v76 v77 v129 v80 v130 x131 = some out → va_P D bq_cl (bq_wM a k x131) H → va_S A s.heap H locs → lv_has ls 14 [(0, .ref (a 0)), (1, .int v71), (2, .int v72), (3, .int v73), (4, .int v74), (5, .int v75), (6, .int v76), (7, .int v77), (8, .int v129), (10, .int v80), (12, .int v130)] → W p l e { frames := 3, cells := 0, slots := 0, locals := 76 } s m [.ref (a 0), .int p1, .int p2, .int p3, .int p4, .int p5].toArray below meth c H locs 0 0 Q (F0 m 281 ls []) := by
                      intro v129 v130 x131 H locs ls h hP hS hl
                      unfold fX10_burnt_j281 at h
                      refine lv_iconst (v := (0 : Int32)) hx hb dX10_burnt_281 (by decide) ?_
                      refine lv_istore (lv' := [(13, .int (0 : Int32)), (0, .ref (a 0)), (1, .int v71), (2, .int v72), (3, .int v73), (4, .int v74), (5, .int v75), (6, .int v76), (7, .int v77), (8, .int v129), (10, .int v80), (12, .int v130)]) hx hb dX10_burnt_282 hl (by decide) rfl (fun ls hl => ?_)
                      have hl284 : ∀ (v132 : Int32) (v133 : Int32) (v134 : Int32) (v135 : Int32) (v136 : Int32) (v137 : Int32) (v138 : Int32) (v139 : Int32) (v140 : Int32) (v141 : Int32) (kf : Nat) (v142 : Int32) (x143 : bq_S) (eo : Int32 × bq_S) (H : Heap) (locs : List Loc) (ls : Array Slot), wh kf (fX10_burnt_b284 n v132 v133 v134 v135 v136 v137 v138 v139 v140 v141) (v142, x143) = some eo → va_P D bq_cl (bq_wM a k x143) H → va_S A s.heap H locs → lv_has ls 14 [(0, .ref (a 0)), (1, .int v132), (2, .int v133), (3, .int v134), (4, .int v135), (5, .int v136), (6, .int v137), (7, .int v138), (8, .int v139), (10, .int v140), (12, .int v141), (13, .int v142)] → (∀ (H : Heap) (locs : List Loc) (ls : Array Slot) (v151 : Int32) (x152 : bq_S), eo = (v151, x152) → va_P D bq_cl (bq_wM a k x152) H → va_S A s.heap H locs → lv_has ls 14 [(0, .ref (a 0)), (1, .int v132), (2, .int v133), (3, .int v134), (4, .int v135), (5, .int v136), (6, .int v137), (7, .int v138), (8, .int v139), (10, .int v140)] → W p l e { frames := 3, cells := 0, slots := 0, locals := 76 } s m [.ref (a 0), .int p1, .int p2, .int p3, .int p4, .int p5].toArray below meth c H locs 0 0 Q (F0 m 316 ls [])) → W p l e { frames := 3, cells := 0, slots := 0, locals := 76 } s m [.ref (a 0), .int p1, .int p2, .int p3, .int p4, .int p5].toArray below meth c H locs 0 0 Q (F0 m 284 ls []) := by
                        intro v132 v133 v134 v135 v136 v137 v138 v139 v140 v141 kf
                        induction kf with
                        | zero => intro v142 x143 eo H locs ls h; cases h
                        | succ kf ih =>
                          intro v142 x143 eo H locs ls h hP hS hl kx
                          obtain ⟨out, h, hw⟩ := wh_s h
                          unfold fX10_burnt_b284 at h
                          replace h := un2_e h
                          refine lv_iload hx hb dX10_burnt_284 (lv_at hl 11 rfl) ?_
                          refine lv_iload hx hb dX10_burnt_286 (lv_at hl 6 rfl) ?_
                          refine lv_icmp_ge (tgt := 316) hx hb dX10_burnt_288 (by decide) (fun c144 => ?_) (fun c144 => ?_)
                          · replace h := (if_pos c144).symm.trans h
                            cases h
                            exact kx _ _ _ _ _ (Option.some.inj hw).symm hP hS (lv_sub hl [0, 1, 2, 3, 4, 5, 6, 7, 8, 9] rfl)
                          · replace h := (if_neg c144).symm.trans h
                            refine lv_iload hx hb dX10_burnt_291 (lv_at hl 10 rfl) ?_
                            refine lv_if_eq (tgt := 316) hx hb dX10_burnt_293 (by decide) (fun c145 => ?_) (fun c145 => ?_)
                            · replace h := (if_pos c145).symm.trans h
                              cases h
                              exact kx _ _ _ _ _ (Option.some.inj hw).symm hP hS (lv_sub hl [0, 1, 2, 3, 4, 5, 6, 7, 8, 9] rfl)
                            · replace h := (if_neg c145).symm.trans h
                              refine lv_aload_n hx hb dX10_burnt_296 rfl (lv_at hl 0 rfl) ?_
                              refine bq_get (q0 := 0) S hK hP fl_X10_40_X10_18 rfl rfl rfl dX10_burnt_297 ?_
                              refine lv_iload hx hb dX10_burnt_300 (lv_at hl 11 rfl) ?_
                              refine lv_aload_n hx hb dX10_burnt_302 rfl (lv_at hl 0 rfl) ?_
                              refine bq_get (q0 := 0) S hK hP fl_X10_37_X10_16 rfl rfl rfl dX10_burnt_303 ?_
                              refine lv_iload hx hb dX10_burnt_306 (lv_at hl 11 rfl) ?_
                              obtain ⟨g146, h⟩ := bq_gd h
                              refine va_iald (D := D) hx hb hK hP 10 0 rfl rfl g146 dX10_burnt_308 ?_
                              obtain ⟨g148, h⟩ := bq_gd h
                              obtain ⟨x147, hx147, h⟩ := bq_b h
                              refine bq_iast (x1 := x147) (q0 := 11) (t0 := 0) S hK hD hP hS rfl rfl g148 (by rw [hx147]; rfl) dX10_burnt_309 (fun H locs hP hS => ?_)
                              obtain ⟨v149, hv149, h⟩ := bq_b h
                              refine lv_iinc (v := v149) (lv' := [(13, .int v149), (0, .ref (a 0)), (1, .int v132), (2, .int v133), (3, .int v134), (4, .int v135), (5, .int v136), (6, .int v137), (7, .int v138), (8, .int v139), (10, .int v140), (12, .int v141)]) hx hb dX10_burnt_310 hl (k := 11) rfl (by rw [hv149]; rfl) (by decide) rfl (fun ls hl => ?_)
                              refine lv_goto (tgt := 284) hx hb dX10_burnt_313 (by decide) ?_
                              cases h
                              exact ih _ _ _ _ _ _ hw hP hS (lv_sub hl [1, 2, 3, 4, 5, 6, 7, 8, 9, 10, 11, 0] rfl) kx
                      obtain ⟨e150, he150, h⟩ := Option.bind_eq_some_iff.mp h
                      refine hl284 _ _ _ _ _ _ _ _ _ _ n _ _ e150 _ _ _ he150 hP hS (lv_sub hl [1, 2, 3, 4, 5, 6, 7, 8, 9, 10, 11, 0] rfl) (fun H locs ls v151 x152 hz hP hS hl => ?_)
                      subst hz
                      replace h := un2_e h
                      refine lv_iconst (v := (1 : Int32)) hx hb dX10_burnt_316 (by decide) ?_
                      refine lv_istore (lv' := [(9, .int (1 : Int32)), (0, .ref (a 0)), (1, .int v71), (2, .int v72), (3, .int v73), (4, .int v74), (5, .int v75), (6, .int v76), (7, .int v77), (8, .int v129), (10, .int v80)]) hx hb dX10_burnt_317 hl (by decide) rfl (fun ls hl => ?_)
                      exact hj319 _ _ _ _ _ _ h hP hS (lv_sub hl [1, 2, 3, 4, 5, 6, 7, 8, 9, 0, 10] rfl)
                    have hj208 : ∀ (v96 : Int32) (v97 : Int32) (v98 : Int32) (x99 : bq_S) (H : Heap) (locs : List Loc) (ls : Array Slot), fX10_burnt_j208 n v71 v72 v73 v74 v75 v76 v77 v96 v97 v80 v98 x99 = some out → va_P D bq_cl (bq_wM a k x99) H → va_S A s.heap H locs → lv_has ls 14 [(0, .ref (a 0)), (1, .int v71), (2, .int v72), (3, .int v73), (4, .int v74), (5, .int v75), (6, .int v76), (7, .int v77), (8, .int v96), (9, .int v97), (10, .int v80)] → W p l e { frames := 3, cells := 0, slots := 0, locals := 76 } s m [.ref (a 0), .int p1, .int p2, .int p3, .int p4, .int p5].toArray below meth c H locs 0 0 Q (F0 m 208 ls [.int v98]) := by
                      intro v96 v97 v98 x99 H locs ls h hP hS hl
                      unfold fX10_burnt_j208 at h
                      refine lv_istore (lv' := [(12, .int v98), (0, .ref (a 0)), (1, .int v71), (2, .int v72), (3, .int v73), (4, .int v74), (5, .int v75), (6, .int v76), (7, .int v77), (8, .int v96), (9, .int v97), (10, .int v80)]) hx hb dX10_burnt_208 hl (by decide) rfl (fun ls hl => ?_)
                      refine lv_iconst (v := (0 : Int32)) hx hb dX10_burnt_210 (by decide) ?_
                      refine lv_istore (lv' := [(13, .int (0 : Int32)), (12, .int v98), (0, .ref (a 0)), (1, .int v71), (2, .int v72), (3, .int v73), (4, .int v74), (5, .int v75), (6, .int v76), (7, .int v77), (8, .int v96), (9, .int v97), (10, .int v80)]) hx hb dX10_burnt_211 hl (by decide) rfl (fun ls hl => ?_)
                      have hl213 : ∀ (v100 : Int32) (v101 : Int32) (v102 : Int32) (v103 : Int32) (v104 : Int32) (v105 : Int32) (v106 : Int32) (v107 : Int32) (v108 : Int32) (v109 : Int32) (kf : Nat) (v110 : Int32) (v111 : Int32) (x112 : bq_S) (eo : Int32 × Int32 × bq_S) (H : Heap) (locs : List Loc) (ls : Array Slot), wh kf (fX10_burnt_b213 n v100 v101 v102 v103 v104 v105 v106 v107 v108 v109) (v110, v111, x112) = some eo → va_P D bq_cl (bq_wM a k x112) H → va_S A s.heap H locs → lv_has ls 14 [(0, .ref (a 0)), (1, .int v100), (2, .int v101), (3, .int v102), (4, .int v103), (5, .int v104), (6, .int v105), (7, .int v106), (8, .int v107), (9, .int v108), (10, .int v109), (12, .int v110), (13, .int v111)] → (∀ (H : Heap) (locs : List Loc) (ls : Array Slot) (v126 : Int32) (v127 : Int32) (x128 : bq_S), eo = (v126, v127, x128) → va_P D bq_cl (bq_wM a k x128) H → va_S A s.heap H locs → lv_has ls 14 [(0, .ref (a 0)), (1, .int v100), (2, .int v101), (3, .int v102), (4, .int v103), (5, .int v104), (6, .int v105), (7, .int v106), (8, .int v107), (10, .int v109), (12, .int v126)] → W p l e { frames := 3, cells := 0, slots := 0, locals := 76 } s m [.ref (a 0), .int p1, .int p2, .int p3, .int p4, .int p5].toArray below meth c H locs 0 0 Q (F0 m 281 ls [])) → W p l e { frames := 3, cells := 0, slots := 0, locals := 76 } s m [.ref (a 0), .int p1, .int p2, .int p3, .int p4, .int p5].toArray below meth c H locs 0 0 Q (F0 m 213 ls []) := by
                        intro v100 v101 v102 v103 v104 v105 v106 v107 v108 v109 kf
                        induction kf with
                        | zero => intro v110 v111 x112 eo H locs ls h; cases h
                        | succ kf ih =>
                          intro v110 v111 x112 eo H locs ls h hP hS hl kx
                          obtain ⟨out, h, hw⟩ := wh_s h
                          unfold fX10_burnt_b213 at h
                          replace h := un3_e h
                          refine lv_iload hx hb dX10_burnt_213 (lv_at hl 12 rfl) ?_
                          refine lv_iload hx hb dX10_burnt_215 (lv_at hl 6 rfl) ?_
                          refine lv_icmp_ge (tgt := 281) hx hb dX10_burnt_217 (by decide) (fun c113 => ?_) (fun c113 => ?_)
                          · replace h := (if_pos c113).symm.trans h
                            cases h
                            exact kx _ _ _ _ _ _ (Option.some.inj hw).symm hP hS (lv_sub hl [0, 1, 2, 3, 4, 5, 6, 7, 8, 10, 11] rfl)
                          · replace h := (if_neg c113).symm.trans h
                            refine lv_iload hx hb dX10_burnt_220 (lv_at hl 9 rfl) ?_
                            refine lv_if_eq (tgt := 281) hx hb dX10_burnt_222 (by decide) (fun c114 => ?_) (fun c114 => ?_)
                            · replace h := (if_pos c114).symm.trans h
                              cases h
                              exact kx _ _ _ _ _ _ (Option.some.inj hw).symm hP hS (lv_sub hl [0, 1, 2, 3, 4, 5, 6, 7, 8, 10, 11] rfl)
                            · replace h := (if_neg c114).symm.trans h
                              refine lv_iload hx hb dX10_burnt_225 (lv_at hl 11 rfl) ?_
                              refine lv_if_ne (tgt := 281) hx hb dX10_burnt_227 (by decide) (fun c115 => ?_) (fun c115 => ?_)
                              · replace h := (if_neg c115).symm.trans h
                                cases h
                                exact kx _ _ _ _ _ _ (Option.some.inj hw).symm hP hS (lv_sub hl [0, 1, 2, 3, 4, 5, 6, 7, 8, 10, 11] rfl)
                              · replace h := (if_pos c115).symm.trans h
                                refine lv_aload_n hx hb dX10_burnt_230 rfl (lv_at hl 0 rfl) ?_
                                refine bq_get (q0 := 0) S hK hP fl_X10_37_X10_16 rfl rfl rfl dX10_burnt_231 ?_
                                refine lv_iload hx hb dX10_burnt_234 (lv_at hl 12 rfl) ?_
                                obtain ⟨g116, h⟩ := bq_gd h
                                refine va_iald (D := D) hx hb hK hP 10 0 rfl rfl g116 dX10_burnt_236 ?_
                                refine lv_aload_n hx hb dX10_burnt_237 rfl (lv_at hl 0 rfl) ?_
                                refine bq_get (q0 := 0) S hK hP fl_X10_40_X10_18 rfl rfl rfl dX10_burnt_238 ?_
                                refine lv_iload hx hb dX10_burnt_241 (lv_at hl 12 rfl) ?_
                                obtain ⟨g117, h⟩ := bq_gd h
                                refine va_iald (D := D) hx hb hK hP 11 0 rfl rfl g117 dX10_burnt_243 ?_
                                refine lv_icmp_eq (tgt := 275) hx hb dX10_burnt_244 (by decide) (fun c118 => ?_) (fun c118 => ?_)
                                · replace h := (if_pos c118).symm.trans h
                                  obtain ⟨v119, hv119, h⟩ := bq_b h
                                  refine lv_iinc (v := v119) (lv' := [(13, .int v119), (0, .ref (a 0)), (1, .int v100), (2, .int v101), (3, .int v102), (4, .int v103), (5, .int v104), (6, .int v105), (7, .int v106), (8, .int v107), (9, .int v108), (10, .int v109), (12, .int v110)]) hx hb dX10_burnt_275 hl (k := 12) rfl (by rw [hv119]; rfl) (by decide) rfl (fun ls hl => ?_)
                                  refine lv_goto (tgt := 213) hx hb dX10_burnt_278 (by decide) ?_
                                  cases h
                                  exact ih _ _ _ _ _ _ _ hw hP hS (lv_sub hl [1, 2, 3, 4, 5, 6, 7, 8, 9, 10, 11, 12, 0] rfl) kx
                                · replace h := (if_neg c118).symm.trans h
                                  refine lv_aload_n hx hb dX10_burnt_247 rfl (lv_at hl 0 rfl) ?_
                                  refine bq_get (q0 := 0) S hK hP fl_X10_37_X10_16 rfl rfl rfl dX10_burnt_248 ?_
                                  refine lv_iload hx hb dX10_burnt_251 (lv_at hl 12 rfl) ?_
                                  obtain ⟨g120, h⟩ := bq_gd h
                                  refine va_iald (D := D) hx hb hK hP 10 0 rfl rfl g120 dX10_burnt_253 ?_
                                  refine lv_aload_n hx hb dX10_burnt_254 rfl (lv_at hl 0 rfl) ?_
                                  refine bq_get (q0 := 0) S hK hP fl_X10_40_X10_18 rfl rfl rfl dX10_burnt_255 ?_
                                  refine lv_iload hx hb dX10_burnt_258 (lv_at hl 12 rfl) ?_
                                  obtain ⟨g121, h⟩ := bq_gd h
                                  refine va_iald (D := D) hx hb hK hP 11 0 rfl rfl g121 dX10_burnt_260 ?_
                                  refine lv_icmp_ge (tgt := 268) hx hb dX10_burnt_261 (by decide) (fun c122 => ?_) (fun c122 => ?_)
                                  · replace h := (if_pos c122).symm.trans h
                                    refine lv_iconst (v := (0 : Int32)) hx hb dX10_burnt_268 (by decide) ?_
                                    refine lv_istore (lv' := [(12, .int (0 : Int32)), (0, .ref (a 0)), (1, .int v100), (2, .int v101), (3, .int v102), (4, .int v103), (5, .int v104), (6, .int v105), (7, .int v106), (8, .int v107), (9, .int v108), (10, .int v109), (13, .int v111)]) hx hb dX10_burnt_269 hl (by decide) rfl (fun ls hl => ?_)
                                    refine lv_iload hx hb dX10_burnt_271 (lv_at hl 7 rfl) ?_
                                    refine lv_istore (lv' := [(13, .int v105), (12, .int (0 : Int32)), (0, .ref (a 0)), (1, .int v100), (2, .int v101), (3, .int v102), (4, .int v103), (5, .int v104), (6, .int v105), (7, .int v106), (8, .int v107), (9, .int v108), (10, .int v109)]) hx hb dX10_burnt_273 hl (by decide) rfl (fun ls hl => ?_)
                                    obtain ⟨v123, hv123, h⟩ := bq_b h
                                    refine lv_iinc (v := v123) (lv' := [(13, .int v123), (12, .int (0 : Int32)), (0, .ref (a 0)), (1, .int v100), (2, .int v101), (3, .int v102), (4, .int v103), (5, .int v104), (6, .int v105), (7, .int v106), (8, .int v107), (9, .int v108), (10, .int v109)]) hx hb dX10_burnt_275 hl (k := 0) rfl (by rw [hv123]; rfl) (by decide) rfl (fun ls hl => ?_)
                                    refine lv_goto (tgt := 213) hx hb dX10_burnt_278 (by decide) ?_
                                    cases h
                                    exact ih _ _ _ _ _ _ _ hw hP hS (lv_sub hl [2, 3, 4, 5, 6, 7, 8, 9, 10, 11, 12, 1, 0] rfl) kx
                                  · replace h := (if_neg c122).symm.trans h
                                    refine lv_iconst (v := (1 : Int32)) hx hb dX10_burnt_264 (by decide) ?_
                                    refine lv_goto (tgt := 269) hx hb dX10_burnt_265 (by decide) ?_
                                    refine lv_istore (lv' := [(12, .int (1 : Int32)), (0, .ref (a 0)), (1, .int v100), (2, .int v101), (3, .int v102), (4, .int v103), (5, .int v104), (6, .int v105), (7, .int v106), (8, .int v107), (9, .int v108), (10, .int v109), (13, .int v111)]) hx hb dX10_burnt_269 hl (by decide) rfl (fun ls hl => ?_)
                                    refine lv_iload hx hb dX10_burnt_271 (lv_at hl 7 rfl) ?_
                                    refine lv_istore (lv' := [(13, .int v105), (12, .int (1 : Int32)), (0, .ref (a 0)), (1, .int v100), (2, .int v101), (3, .int v102), (4, .int v103), (5, .int v104), (6, .int v105), (7, .int v106), (8, .int v107), (9, .int v108), (10, .int v109)]) hx hb dX10_burnt_273 hl (by decide) rfl (fun ls hl => ?_)
                                    obtain ⟨v124, hv124, h⟩ := bq_b h
                                    refine lv_iinc (v := v124) (lv' := [(13, .int v124), (12, .int (1 : Int32)), (0, .ref (a 0)), (1, .int v100), (2, .int v101), (3, .int v102), (4, .int v103), (5, .int v104), (6, .int v105), (7, .int v106), (8, .int v107), (9, .int v108), (10, .int v109)]) hx hb dX10_burnt_275 hl (k := 0) rfl (by rw [hv124]; rfl) (by decide) rfl (fun ls hl => ?_)
                                    refine lv_goto (tgt := 213) hx hb dX10_burnt_278 (by decide) ?_
                                    cases h
                                    exact ih _ _ _ _ _ _ _ hw hP hS (lv_sub hl [2, 3, 4, 5, 6, 7, 8, 9, 10, 11, 12, 1, 0] rfl) kx
                      obtain ⟨e125, he125, h⟩ := Option.bind_eq_some_iff.mp h
                      refine hl213 _ _ _ _ _ _ _ _ _ _ n _ _ _ e125 _ _ _ he125 hP hS (lv_sub hl [2, 3, 4, 5, 6, 7, 8, 9, 10, 11, 12, 1, 0] rfl) (fun H locs ls v126 v127 x128 hz hP hS hl => ?_)
                      subst hz
                      replace h := un3_e h
                      exact hj281 _ _ _ _ _ _ h hP hS (lv_sub hl [0, 1, 2, 3, 4, 5, 6, 7, 8, 9, 10] rfl)
                    refine lv_iload hx hb dX10_burnt_179 (lv_at hl 11 rfl) ?_
                    refine lv_if_eq (tgt := 328) hx hb dX10_burnt_181 (by decide) (fun c83 => ?_) (fun c83 => ?_)
                    · replace h := (if_pos c83).symm.trans h
                      cases h
                      exact kx _ _ _ _ _ _ _ (Option.some.inj hw).symm hP hS (lv_sub hl [0, 1, 2, 3, 4, 5, 6, 7, 8, 9, 10] rfl)
                    · replace h := (if_neg c83).symm.trans h
                      refine lv_aload_n hx hb dX10_burnt_184 rfl (lv_at hl 0 rfl) ?_
                      refine lv_iload_n hx hb dX10_burnt_185 rfl (lv_at hl 1 rfl) ?_
                      refine lv_iload_n hx hb dX10_burnt_186 rfl (lv_at hl 2 rfl) ?_
                      refine lv_iload hx hb dX10_burnt_187 (lv_at hl 4 rfl) ?_
                      obtain ⟨o84, ho84, h⟩ := Option.bind_eq_some_iff.mp h
                      obtain ⟨v86, x85⟩ := o84
                      replace h := un2_e h
                      refine bq_callVi (q0 := 0) (As := [.int _, .int _, .int _]) S hK hD hA hP hS (cX10_fits_k_0 ho84) hd_yX10_fits ml_X10_176 in_yX10_fits (hts _ sl_X10_X10_yX10_fits) ⟨rfl, rfl⟩ ⟨by decide, by decide⟩ rfl rfl rfl hl.1 rfl (Nat.le_of_ble_eq_true rfl) ⟨Nat.zero_le _, Nat.zero_le _⟩ dX10_burnt_189 (fun H locs hP hS => ?_)
                      refine lv_if_eq (tgt := 319) hx hb dX10_burnt_192 (by decide) (fun c87 => ?_) (fun c87 => ?_)
                      · replace h := (if_pos c87).symm.trans h
                        exact hj319 _ _ _ _ _ _ h hP hS (lv_sub hl [0, 1, 2, 3, 4, 5, 6, 7, 8, 9, 10] rfl)
                      · replace h := (if_neg c87).symm.trans h
                        obtain ⟨v94, hv94, h⟩ := bq_b h
                        refine lv_iinc (v := v94) (lv' := [(8, .int v94), (0, .ref (a 0)), (1, .int v71), (2, .int v72), (3, .int v73), (4, .int v74), (5, .int v75), (6, .int v76), (7, .int v77), (9, .int v79), (10, .int v80), (11, .int v81)]) hx hb dX10_burnt_195 hl (k := 8) rfl (by rw [hv94]; rfl) (by decide) rfl (fun ls hl => ?_)
                        refine lv_iload hx hb dX10_burnt_198 (lv_at hl 9 rfl) ?_
                        refine lv_if_ne (tgt := 207) hx hb dX10_burnt_200 (by decide) (fun c95 => ?_) (fun c95 => ?_)
                        · replace h := (if_neg c95).symm.trans h
                          refine lv_iconst (v := (0 : Int32)) hx hb dX10_burnt_207 (by decide) ?_
                          exact hj208 _ _ _ _ _ _ _ h hP hS (lv_sub hl [1, 2, 3, 4, 5, 6, 7, 8, 0, 9, 10] rfl)
                        · replace h := (if_pos c95).symm.trans h
                          refine lv_iconst (v := (1 : Int32)) hx hb dX10_burnt_203 (by decide) ?_
                          refine lv_goto (tgt := 208) hx hb dX10_burnt_204 (by decide) ?_
                          exact hj208 _ _ _ _ _ _ _ h hP hS (lv_sub hl [1, 2, 3, 4, 5, 6, 7, 8, 0, 9, 10] rfl)
                obtain ⟨e153, he153, h⟩ := Option.bind_eq_some_iff.mp h
                refine hl179 _ _ _ _ _ _ _ _ n _ _ _ _ e153 _ _ _ he153 hP hS (lv_sub hl [1, 2, 3, 4, 5, 6, 7, 8, 9, 10, 11, 0] rfl) (fun H locs ls v154 v155 v156 x157 hz hP hS hl => ?_)
                subst hz
                replace h := un4_e h
                obtain ⟨v158, hv158, h⟩ := bq_b h
                refine lv_iinc (v := v158) (lv' := [(10, .int v158), (0, .ref (a 0)), (1, .int v48), (2, .int v49), (3, .int v50), (4, .int v51), (5, .int v52), (6, .int v53), (7, .int v54), (8, .int v154), (9, .int v155)]) hx hb dX10_burnt_328 hl (k := 10) rfl (by rw [hv158]; rfl) (by decide) rfl (fun ls hl => ?_)
                refine lv_goto (tgt := 137) hx hb dX10_burnt_331 (by decide) ?_
                cases h
                exact ih _ _ _ _ _ _ _ _ hw hP hS (lv_sub hl [1, 2, 3, 4, 5, 6, 7, 8, 9, 10, 0] rfl) kx
    obtain ⟨e159, he159, h⟩ := Option.bind_eq_some_iff.mp h
    refine hl137 _ _ _ _ _ _ _ n _ _ _ _ e159 _ _ _ he159 hP hS (lv_sub hl [3, 4, 5, 6, 7, 8, 9, 10, 2, 1, 0] rfl) (fun H locs ls v160 v161 v162 x163 hz hP hS hl => ?_)
    subst hz
    replace h := un4_e h
    refine lv_iload hx hb dX10_burnt_334 (lv_at hl 3 rfl) ?_
    refine lv_if_ne (tgt := 344) hx hb dX10_burnt_336 (by decide) (fun c164 => ?_) (fun c164 => ?_)
    · replace h := (if_neg c164).symm.trans h
      refine lv_iload hx hb dX10_burnt_344 (lv_at hl 2 rfl) ?_
      refine lv_iconst (v := (-1 : Int32)) hx hb dX10_burnt_346 (by decide) ?_
      refine lv_icmp_ne (tgt := 355) hx hb dX10_burnt_347 (by decide) (fun c165 => ?_) (fun c165 => ?_)
      · replace h := (if_neg c165).symm.trans h
        refine lv_aload_n hx hb dX10_burnt_355 rfl (lv_at hl 0 rfl) ?_
        refine bq_get (q0 := 0) S hK hP fl_X10_40_X10_18 rfl rfl rfl dX10_burnt_356 ?_
        refine lv_iload hx hb dX10_burnt_359 (lv_at hl 2 rfl) ?_
        refine lv_iload_n hx hb dX10_burnt_361 rfl (lv_at hl 1 rfl) ?_
        refine lv_isub hx hb dX10_burnt_362 ?_
        obtain ⟨g166, h⟩ := bq_gd h
        refine va_iald (D := D) hx hb hK hP 11 0 rfl rfl g166 dX10_burnt_363 ?_
        obtain ⟨e1, e2⟩ := Prod.mk.inj (hret _ h)
        exact hR _ _ _ _ _ (congrArg some e1) rfl (by rw [e2]; exact hP) hS dX10_burnt_364
      · replace h := (if_pos c165).symm.trans h
        refine lv_iload hx hb dX10_burnt_350 (lv_at hl 3 rfl) ?_
        refine lv_goto (tgt := 364) hx hb dX10_burnt_352 (by decide) ?_
        obtain ⟨e1, e2⟩ := Prod.mk.inj (hret _ h)
        exact hR _ _ _ _ _ (congrArg some e1) rfl (by rw [e2]; exact hP) hS dX10_burnt_364
    · replace h := (if_pos c164).symm.trans h
      refine lv_bipush (v := (-4 : Int32)) hx hb dX10_burnt_339 (by decide) ?_
      refine lv_goto (tgt := 364) hx hb dX10_burnt_341 (by decide) ?_
      obtain ⟨e1, e2⟩ := Prod.mk.inj (hret _ h)
      exact hR _ _ _ _ _ (congrArg some e1) rfl (by rw [e2]; exact hP) hS dX10_burnt_364
  refine lv_iload_n hx hb dX10_burnt_0 rfl (lv_at hl 1 rfl) ?_
  refine lv_i2l hx hb dX10_burnt_1 rfl ?_
  refine lv_lconst (v := (0 : Int64)) hx hb dX10_burnt_2 (by decide) ?_
  refine lv_iload_n hx hb dX10_burnt_3 rfl (lv_at hl 2 rfl) ?_
  refine lv_i2l hx hb dX10_burnt_4 rfl ?_
  obtain ⟨o1, ho1, h⟩ := Option.bind_eq_some_iff.mp h
  obtain ⟨v3, x2⟩ := o1
  replace h := un2_e h
  refine bq_callSi (As := [.long _, .long _, .long _]) S hK hD hA hP hS (cX10_in_k ho1) hd_yX10_in ml_X10_66 st_yX10_in ⟨rfl, rfl⟩ ⟨by decide, by decide⟩ rfl hl.1 rfl (Nat.le_of_ble_eq_true rfl) ⟨Nat.zero_le _, Nat.zero_le _⟩ dX10_burnt_5 (fun H locs hP hS => ?_)
  refine lv_if_eq (tgt := 67) hx hb dX10_burnt_8 (by decide) (fun c4 => ?_) (fun c4 => ?_)
  · replace h := (if_pos c4).symm.trans h
    refine lv_iconst (v := (-1 : Int32)) hx hb dX10_burnt_67 (by decide) ?_
    obtain ⟨e1, e2⟩ := Prod.mk.inj (hret _ h)
    exact hR _ _ _ _ _ (congrArg some e1) rfl (by rw [e2]; exact hP) hS dX10_burnt_68
  · replace h := (if_neg c4).symm.trans h
    refine lv_iload_n hx hb dX10_burnt_11 rfl (lv_at hl 2 rfl) ?_
    refine lv_i2l hx hb dX10_burnt_12 rfl ?_
    refine lv_lconst (v := (0 : Int64)) hx hb dX10_burnt_13 (by decide) ?_
    refine lv_aload_n hx hb dX10_burnt_14 rfl (lv_at hl 0 rfl) ?_
    refine bq_get (q0 := 0) S hK hP fl_X10_126_X10_6 rfl rfl rfl dX10_burnt_15 ?_
    refine lv_iconst (v := (1 : Int32)) hx hb dX10_burnt_18 (by decide) ?_
    refine lv_isub hx hb dX10_burnt_19 ?_
    refine lv_i2l hx hb dX10_burnt_20 rfl ?_
    obtain ⟨o5, ho5, h⟩ := Option.bind_eq_some_iff.mp h
    obtain ⟨v7, x6⟩ := o5
    replace h := un2_e h
    refine bq_callSi (As := [.long _, .long _, .long _]) S hK hD hA hP hS (cX10_in_k ho5) hd_yX10_in ml_X10_66 st_yX10_in ⟨rfl, rfl⟩ ⟨by decide, by decide⟩ rfl hl.1 rfl (Nat.le_of_ble_eq_true rfl) ⟨Nat.zero_le _, Nat.zero_le _⟩ dX10_burnt_21 (fun H locs hP hS => ?_)
    refine lv_if_eq (tgt := 67) hx hb dX10_burnt_24 (by decide) (fun c8 => ?_) (fun c8 => ?_)
    · replace h := (if_pos c8).symm.trans h
      refine lv_iconst (v := (-1 : Int32)) hx hb dX10_burnt_67 (by decide) ?_
      obtain ⟨e1, e2⟩ := Prod.mk.inj (hret _ h)
      exact hR _ _ _ _ _ (congrArg some e1) rfl (by rw [e2]; exact hP) hS dX10_burnt_68
    · replace h := (if_neg c8).symm.trans h
      refine lv_aload_n hx hb dX10_burnt_27 rfl (lv_at hl 0 rfl) ?_
      refine lv_iload_n hx hb dX10_burnt_28 rfl (lv_at hl 3 rfl) ?_
      obtain ⟨o9, ho9, h⟩ := Option.bind_eq_some_iff.mp h
      obtain ⟨v11, x10⟩ := o9
      replace h := un2_e h
      refine bq_callVi (q0 := 0) (As := [.int _]) S hK hD hA hP hS (cX10_isSet_k_0 ho9) hd_yX10_isSet ml_X10_142 in_yX10_isSet (hts _ sl_X10_X10_yX10_isSet) ⟨rfl, rfl⟩ ⟨by decide, by decide⟩ rfl rfl rfl hl.1 rfl (Nat.le_of_ble_eq_true rfl) ⟨Nat.zero_le _, Nat.zero_le _⟩ dX10_burnt_29 (fun H locs hP hS => ?_)
      refine lv_if_eq (tgt := 67) hx hb dX10_burnt_32 (by decide) (fun c12 => ?_) (fun c12 => ?_)
      · replace h := (if_pos c12).symm.trans h
        refine lv_iconst (v := (-1 : Int32)) hx hb dX10_burnt_67 (by decide) ?_
        obtain ⟨e1, e2⟩ := Prod.mk.inj (hret _ h)
        exact hR _ _ _ _ _ (congrArg some e1) rfl (by rw [e2]; exact hP) hS dX10_burnt_68
      · replace h := (if_neg c12).symm.trans h
        refine lv_iload hx hb dX10_burnt_35 (lv_at hl 4 rfl) ?_
        refine lv_i2l hx hb dX10_burnt_37 rfl ?_
        refine lv_lconst (v := (1 : Int64)) hx hb dX10_burnt_38 (by decide) ?_
        refine lv_ldc2 hx hb hown (hts _ kl_X10_174) dX10_burnt_39 ?_
        obtain ⟨o13, ho13, h⟩ := Option.bind_eq_some_iff.mp h
        obtain ⟨v15, x14⟩ := o13
        replace h := un2_e h
        refine bq_callSi (As := [.long _, .long _, .long _]) S hK hD hA hP hS (cX10_in_k ho13) hd_yX10_in ml_X10_66 st_yX10_in ⟨rfl, rfl⟩ ⟨by decide, by decide⟩ rfl hl.1 rfl (Nat.le_of_ble_eq_true rfl) ⟨Nat.zero_le _, Nat.zero_le _⟩ dX10_burnt_42 (fun H locs hP hS => ?_)
        refine lv_if_eq (tgt := 67) hx hb dX10_burnt_45 (by decide) (fun c16 => ?_) (fun c16 => ?_)
        · replace h := (if_pos c16).symm.trans h
          refine lv_iconst (v := (-1 : Int32)) hx hb dX10_burnt_67 (by decide) ?_
          obtain ⟨e1, e2⟩ := Prod.mk.inj (hret _ h)
          exact hR _ _ _ _ _ (congrArg some e1) rfl (by rw [e2]; exact hP) hS dX10_burnt_68
        · replace h := (if_neg c16).symm.trans h
          refine lv_iload hx hb dX10_burnt_48 (lv_at hl 5 rfl) ?_
          refine lv_iconst (v := (-1 : Int32)) hx hb dX10_burnt_50 (by decide) ?_
          refine lv_icmp_eq (tgt := 69) hx hb dX10_burnt_51 (by decide) (fun c17 => ?_) (fun c17 => ?_)
          · replace h := (if_pos c17).symm.trans h
            exact hj69 _ _ _ _ _ _ _ _ _ h hP hS (lv_sub hl [0, 1, 2, 3, 4, 5] rfl)
          · replace h := (if_neg c17).symm.trans h
            refine lv_iload hx hb dX10_burnt_54 (lv_at hl 5 rfl) ?_
            refine lv_i2l hx hb dX10_burnt_56 rfl ?_
            refine lv_iload_n hx hb dX10_burnt_57 rfl (lv_at hl 1 rfl) ?_
            refine lv_i2l hx hb dX10_burnt_58 rfl ?_
            refine lv_iload_n hx hb dX10_burnt_59 rfl (lv_at hl 2 rfl) ?_
            refine lv_i2l hx hb dX10_burnt_60 rfl ?_
            obtain ⟨o167, ho167, h⟩ := Option.bind_eq_some_iff.mp h
            obtain ⟨v169, x168⟩ := o167
            replace h := un2_e h
            refine bq_callSi (As := [.long _, .long _, .long _]) S hK hD hA hP hS (cX10_in_k ho167) hd_yX10_in ml_X10_66 st_yX10_in ⟨rfl, rfl⟩ ⟨by decide, by decide⟩ rfl hl.1 rfl (Nat.le_of_ble_eq_true rfl) ⟨Nat.zero_le _, Nat.zero_le _⟩ dX10_burnt_61 (fun H locs hP hS => ?_)
            refine lv_if_ne (tgt := 69) hx hb dX10_burnt_64 (by decide) (fun c170 => ?_) (fun c170 => ?_)
            · replace h := (if_neg c170).symm.trans h
              exact hj69 _ _ _ _ _ _ _ _ _ h hP hS (lv_sub hl [0, 1, 2, 3, 4, 5] rfl)
            · replace h := (if_pos c170).symm.trans h
              refine lv_iconst (v := (-1 : Int32)) hx hb dX10_burnt_67 (by decide) ?_
              obtain ⟨e1, e2⟩ := Prod.mk.inj (hret _ h)
              exact hR _ _ _ _ _ (congrArg some e1) rfl (by rw [e2]; exact hP) hS dX10_burnt_68
def fX10_lay_b2 (n : Nat) (r1 : Nat) (lb2 : Nat) (v3 : Int32) (v : Int32 × bq_S) : Option ((Int32 × bq_S) ⊕ (Int32 × bq_S)) :=
  un2 v (fun v4 x5 =>
  if (Int32.ofNat lb2) ≤ v4 then
  some (.inr (v4, x5))
  else
  if ok_i v4 lb2 then
  if ok_i (v3 + v4) 40 then
  bd (bq_sI x5 13 (v3 + v4).toNatClampNeg (x5.1 r1 v4.toNatClampNeg)) (fun x8 =>
  bd (v4 + (1 : Int32)) (fun v10 =>
  some (.inl (v10, x8))))
  else none
  else none)
def fX10_lay (n : Nat) (q1 : Nat) (la1 : Nat) (p2 : Int32) (x0 : bq_S) : Option (Int32 × bq_S) :=
  (wh n (fX10_lay_b2 n q1 la1 p2) ((0 : Int32), x0)).bind (fun e11 => un2 e11 (fun v12 x13 =>
  some ((p2 + (Int32.ofNat la1)), x13)))
theorem dX10_lay_0 : decode cX10_lay 0 = .ok (.iconst 0, 1) := by decide +kernel
theorem dX10_lay_1 : decode cX10_lay 1 = .ok (.istore_n 3, 1) := by decide +kernel
theorem dX10_lay_2 : decode cX10_lay 2 = .ok (.iload_n 3, 1) := by decide +kernel
theorem dX10_lay_3 : decode cX10_lay 3 = .ok (.aload_n 1, 1) := by decide +kernel
theorem dX10_lay_4 : decode cX10_lay 4 = .ok (.arraylength, 1) := by decide +kernel
theorem dX10_lay_5 : decode cX10_lay 5 = .ok (.if_icmp .ge 20, 3) := by decide +kernel
theorem dX10_lay_8 : decode cX10_lay 8 = .ok (.aload_n 0, 1) := by decide +kernel
theorem dX10_lay_9 : decode cX10_lay 9 = .ok (.getfield 46, 3) := by decide +kernel
theorem dX10_lay_12 : decode cX10_lay 12 = .ok (.iload_n 2, 1) := by decide +kernel
theorem dX10_lay_13 : decode cX10_lay 13 = .ok (.iload_n 3, 1) := by decide +kernel
theorem dX10_lay_14 : decode cX10_lay 14 = .ok (.iadd, 1) := by decide +kernel
theorem dX10_lay_15 : decode cX10_lay 15 = .ok (.aload_n 1, 1) := by decide +kernel
theorem dX10_lay_16 : decode cX10_lay 16 = .ok (.iload_n 3, 1) := by decide +kernel
theorem dX10_lay_17 : decode cX10_lay 17 = .ok (.iaload, 1) := by decide +kernel
theorem dX10_lay_18 : decode cX10_lay 18 = .ok (.iastore, 1) := by decide +kernel
theorem dX10_lay_19 : decode cX10_lay 19 = .ok (.iinc 3 1, 3) := by decide +kernel
theorem dX10_lay_22 : decode cX10_lay 22 = .ok (.goto (-20), 3) := by decide +kernel
theorem dX10_lay_25 : decode cX10_lay 25 = .ok (.iload_n 2, 1) := by decide +kernel
theorem dX10_lay_26 : decode cX10_lay 26 = .ok (.aload_n 1, 1) := by decide +kernel
theorem dX10_lay_27 : decode cX10_lay 27 = .ok (.arraylength, 1) := by decide +kernel
theorem dX10_lay_28 : decode cX10_lay 28 = .ok (.iadd, 1) := by decide +kernel
theorem dX10_lay_29 : decode cX10_lay 29 = .ok (.ireturn, 1) := by decide +kernel
set_option maxHeartbeats 4000000 in
set_option maxRecDepth 100000 in
theorem cX10_lay_k_0_1 {l : Launch} {D : va_G} {a : Nat → Nat} {k : Nat → ClassId} {n : Nat} {p2 : Int32} {x0 xz : bq_S} {rz : Int32} (h : fX10_lay n 1 8 p2 x0 = some (rz, xz)) : bq_M l D bq_cl (bq_ty k) (bq_wM a k) yX10_lay cX10_lay 4 (some .int) { frames := 0, cells := 0, slots := 0, locals := 0 } [.ref (a 0), .ref (a 1), .int p2] x0 (some rz) xz := by
  refine bq_ofW RX10 [(0, .ref (a 0)), (1, .ref (a 1)), (2, .int p2)] (by decide +kernel) rfl (Nat.le_of_ble_eq_true rfl) rfl (bq_adM a k) ?_
  intro p e s m below meth c A Q ls S hK hD hA hR hS hP hl
  have hx := S.1; have hb := S.2.1; have hml := S.2.2.1; have hown := S.2.2.2.1; have hts := S.2.2.2.2
  have hret : ∀ z, some z = some (rz, xz) → (rz, xz) = z := fun z h => (Option.some.inj h).symm
  unfold fX10_lay at h
  refine lv_iconst (v := (0 : Int32)) hx hb dX10_lay_0 (by decide) ?_
  refine lv_istore_n (lv' := [(3, .int (0 : Int32)), (0, .ref (a 0)), (1, .ref (a 1)), (2, .int p2)]) hx hb dX10_lay_1 rfl hl (by decide) rfl (fun ls hl => ?_)
  have hl2 : ∀ (v3 : Int32) (kf : Nat) (v4 : Int32) (x5 : bq_S) (eo : Int32 × bq_S) (H : Heap) (locs : List Loc) (ls : Array Slot), wh kf (fX10_lay_b2 n 1 8 v3) (v4, x5) = some eo → va_P D bq_cl (bq_wM a k x5) H → va_S A s.heap H locs → lv_has ls 4 [(0, .ref (a 0)), (1, .ref (a 1)), (2, .int v3), (3, .int v4)] → (∀ (H : Heap) (locs : List Loc) (ls : Array Slot) (v12 : Int32) (x13 : bq_S), eo = (v12, x13) → va_P D bq_cl (bq_wM a k x13) H → va_S A s.heap H locs → lv_has ls 4 [(1, .ref (a 1)), (2, .int v3)] → W p l e { frames := 0, cells := 0, slots := 0, locals := 0 } s m [.ref (a 0), .ref (a 1), .int p2].toArray below meth c H locs 0 0 Q (F0 m 25 ls [])) → W p l e { frames := 0, cells := 0, slots := 0, locals := 0 } s m [.ref (a 0), .ref (a 1), .int p2].toArray below meth c H locs 0 0 Q (F0 m 2 ls []) := by
    intro v3 kf
    induction kf with
    | zero => intro v4 x5 eo H locs ls h; cases h
    | succ kf ih =>
      intro v4 x5 eo H locs ls h hP hS hl kx
      obtain ⟨out, h, hw⟩ := wh_s h
      unfold fX10_lay_b2 at h
      replace h := un2_e h
      refine lv_iload_n hx hb dX10_lay_2 rfl (lv_at hl 3 rfl) ?_
      refine lv_aload_n hx hb dX10_lay_3 rfl (lv_at hl 1 rfl) ?_
      refine va_alen (D := D) (v := (8 : Int32)) hx hb hK hP 1 0 rfl rfl rfl dX10_lay_4 ?_
      refine lv_icmp_ge (tgt := 25) hx hb dX10_lay_5 (by decide) (fun c6 => ?_) (fun c6 => ?_)
      · replace h := (if_pos c6).symm.trans h
        cases h
        exact kx _ _ _ _ _ (Option.some.inj hw).symm hP hS (lv_sub hl [1, 2] rfl)
      · replace h := (if_neg c6).symm.trans h
        refine lv_aload_n hx hb dX10_lay_8 rfl (lv_at hl 0 rfl) ?_
        refine bq_get (q0 := 0) S hK hP fl_X10_46_X10_20 rfl rfl rfl dX10_lay_9 ?_
        refine lv_iload_n hx hb dX10_lay_12 rfl (lv_at hl 2 rfl) ?_
        refine lv_iload_n hx hb dX10_lay_13 rfl (lv_at hl 3 rfl) ?_
        refine lv_iadd hx hb dX10_lay_14 ?_
        refine lv_aload_n hx hb dX10_lay_15 rfl (lv_at hl 1 rfl) ?_
        refine lv_iload_n hx hb dX10_lay_16 rfl (lv_at hl 3 rfl) ?_
        obtain ⟨g7, h⟩ := bq_gd h
        refine va_iald (D := D) hx hb hK hP 1 0 rfl rfl g7 dX10_lay_17 ?_
        obtain ⟨g9, h⟩ := bq_gd h
        obtain ⟨x8, hx8, h⟩ := bq_b h
        refine bq_iast (x1 := x8) (q0 := 13) (t0 := 0) S hK hD hP hS rfl rfl g9 (by rw [hx8]; rfl) dX10_lay_18 (fun H locs hP hS => ?_)
        obtain ⟨v10, hv10, h⟩ := bq_b h
        refine lv_iinc (v := v10) (lv' := [(3, .int v10), (0, .ref (a 0)), (1, .ref (a 1)), (2, .int v3)]) hx hb dX10_lay_19 hl (k := 3) rfl (by rw [hv10]; rfl) (by decide) rfl (fun ls hl => ?_)
        refine lv_goto (tgt := 2) hx hb dX10_lay_22 (by decide) ?_
        cases h
        exact ih _ _ _ _ _ _ hw hP hS (lv_sub hl [1, 2, 3, 0] rfl) kx
  obtain ⟨e11, he11, h⟩ := Option.bind_eq_some_iff.mp h
  refine hl2 _ n _ _ e11 _ _ _ he11 hP hS (lv_sub hl [1, 2, 3, 0] rfl) (fun H locs ls v12 x13 hz hP hS hl => ?_)
  subst hz
  replace h := un2_e h
  refine lv_iload_n hx hb dX10_lay_25 rfl (lv_at hl 1 rfl) ?_
  refine lv_aload_n hx hb dX10_lay_26 rfl (lv_at hl 0 rfl) ?_
  refine va_alen (D := D) (v := (8 : Int32)) hx hb hK hP 1 0 rfl rfl rfl dX10_lay_27 ?_
  refine lv_iadd hx hb dX10_lay_28 ?_
  obtain ⟨e1, e2⟩ := Prod.mk.inj (hret _ h)
  exact hR _ _ _ _ _ (congrArg some e1) rfl (by rw [e2]; exact hP) hS dX10_lay_29
set_option maxHeartbeats 4000000 in
set_option maxRecDepth 100000 in
theorem cX10_lay_k_0_2 {l : Launch} {D : va_G} {a : Nat → Nat} {k : Nat → ClassId} {n : Nat} {p2 : Int32} {x0 xz : bq_S} {rz : Int32} (h : fX10_lay n 2 8 p2 x0 = some (rz, xz)) : bq_M l D bq_cl (bq_ty k) (bq_wM a k) yX10_lay cX10_lay 4 (some .int) { frames := 0, cells := 0, slots := 0, locals := 0 } [.ref (a 0), .ref (a 2), .int p2] x0 (some rz) xz := by
  refine bq_ofW RX10 [(0, .ref (a 0)), (1, .ref (a 2)), (2, .int p2)] (by decide +kernel) rfl (Nat.le_of_ble_eq_true rfl) rfl (bq_adM a k) ?_
  intro p e s m below meth c A Q ls S hK hD hA hR hS hP hl
  have hx := S.1; have hb := S.2.1; have hml := S.2.2.1; have hown := S.2.2.2.1; have hts := S.2.2.2.2
  have hret : ∀ z, some z = some (rz, xz) → (rz, xz) = z := fun z h => (Option.some.inj h).symm
  unfold fX10_lay at h
  refine lv_iconst (v := (0 : Int32)) hx hb dX10_lay_0 (by decide) ?_
  refine lv_istore_n (lv' := [(3, .int (0 : Int32)), (0, .ref (a 0)), (1, .ref (a 2)), (2, .int p2)]) hx hb dX10_lay_1 rfl hl (by decide) rfl (fun ls hl => ?_)
  have hl2 : ∀ (v3 : Int32) (kf : Nat) (v4 : Int32) (x5 : bq_S) (eo : Int32 × bq_S) (H : Heap) (locs : List Loc) (ls : Array Slot), wh kf (fX10_lay_b2 n 2 8 v3) (v4, x5) = some eo → va_P D bq_cl (bq_wM a k x5) H → va_S A s.heap H locs → lv_has ls 4 [(0, .ref (a 0)), (1, .ref (a 2)), (2, .int v3), (3, .int v4)] → (∀ (H : Heap) (locs : List Loc) (ls : Array Slot) (v12 : Int32) (x13 : bq_S), eo = (v12, x13) → va_P D bq_cl (bq_wM a k x13) H → va_S A s.heap H locs → lv_has ls 4 [(1, .ref (a 2)), (2, .int v3)] → W p l e { frames := 0, cells := 0, slots := 0, locals := 0 } s m [.ref (a 0), .ref (a 2), .int p2].toArray below meth c H locs 0 0 Q (F0 m 25 ls [])) → W p l e { frames := 0, cells := 0, slots := 0, locals := 0 } s m [.ref (a 0), .ref (a 2), .int p2].toArray below meth c H locs 0 0 Q (F0 m 2 ls []) := by
    intro v3 kf
    induction kf with
    | zero => intro v4 x5 eo H locs ls h; cases h
    | succ kf ih =>
      intro v4 x5 eo H locs ls h hP hS hl kx
      obtain ⟨out, h, hw⟩ := wh_s h
      unfold fX10_lay_b2 at h
      replace h := un2_e h
      refine lv_iload_n hx hb dX10_lay_2 rfl (lv_at hl 3 rfl) ?_
      refine lv_aload_n hx hb dX10_lay_3 rfl (lv_at hl 1 rfl) ?_
      refine va_alen (D := D) (v := (8 : Int32)) hx hb hK hP 2 0 rfl rfl rfl dX10_lay_4 ?_
      refine lv_icmp_ge (tgt := 25) hx hb dX10_lay_5 (by decide) (fun c6 => ?_) (fun c6 => ?_)
      · replace h := (if_pos c6).symm.trans h
        cases h
        exact kx _ _ _ _ _ (Option.some.inj hw).symm hP hS (lv_sub hl [1, 2] rfl)
      · replace h := (if_neg c6).symm.trans h
        refine lv_aload_n hx hb dX10_lay_8 rfl (lv_at hl 0 rfl) ?_
        refine bq_get (q0 := 0) S hK hP fl_X10_46_X10_20 rfl rfl rfl dX10_lay_9 ?_
        refine lv_iload_n hx hb dX10_lay_12 rfl (lv_at hl 2 rfl) ?_
        refine lv_iload_n hx hb dX10_lay_13 rfl (lv_at hl 3 rfl) ?_
        refine lv_iadd hx hb dX10_lay_14 ?_
        refine lv_aload_n hx hb dX10_lay_15 rfl (lv_at hl 1 rfl) ?_
        refine lv_iload_n hx hb dX10_lay_16 rfl (lv_at hl 3 rfl) ?_
        obtain ⟨g7, h⟩ := bq_gd h
        refine va_iald (D := D) hx hb hK hP 2 0 rfl rfl g7 dX10_lay_17 ?_
        obtain ⟨g9, h⟩ := bq_gd h
        obtain ⟨x8, hx8, h⟩ := bq_b h
        refine bq_iast (x1 := x8) (q0 := 13) (t0 := 0) S hK hD hP hS rfl rfl g9 (by rw [hx8]; rfl) dX10_lay_18 (fun H locs hP hS => ?_)
        obtain ⟨v10, hv10, h⟩ := bq_b h
        refine lv_iinc (v := v10) (lv' := [(3, .int v10), (0, .ref (a 0)), (1, .ref (a 2)), (2, .int v3)]) hx hb dX10_lay_19 hl (k := 3) rfl (by rw [hv10]; rfl) (by decide) rfl (fun ls hl => ?_)
        refine lv_goto (tgt := 2) hx hb dX10_lay_22 (by decide) ?_
        cases h
        exact ih _ _ _ _ _ _ hw hP hS (lv_sub hl [1, 2, 3, 0] rfl) kx
  obtain ⟨e11, he11, h⟩ := Option.bind_eq_some_iff.mp h
  refine hl2 _ n _ _ e11 _ _ _ he11 hP hS (lv_sub hl [1, 2, 3, 0] rfl) (fun H locs ls v12 x13 hz hP hS hl => ?_)
  subst hz
  replace h := un2_e h
  refine lv_iload_n hx hb dX10_lay_25 rfl (lv_at hl 1 rfl) ?_
  refine lv_aload_n hx hb dX10_lay_26 rfl (lv_at hl 0 rfl) ?_
  refine va_alen (D := D) (v := (8 : Int32)) hx hb hK hP 2 0 rfl rfl rfl dX10_lay_27 ?_
  refine lv_iadd hx hb dX10_lay_28 ?_
  obtain ⟨e1, e2⟩ := Prod.mk.inj (hret _ h)
  exact hR _ _ _ _ _ (congrArg some e1) rfl (by rw [e2]; exact hP) hS dX10_lay_29
set_option maxHeartbeats 4000000 in
set_option maxRecDepth 100000 in
theorem cX10_lay_k_0_3 {l : Launch} {D : va_G} {a : Nat → Nat} {k : Nat → ClassId} {n : Nat} {p2 : Int32} {x0 xz : bq_S} {rz : Int32} (h : fX10_lay n 3 8 p2 x0 = some (rz, xz)) : bq_M l D bq_cl (bq_ty k) (bq_wM a k) yX10_lay cX10_lay 4 (some .int) { frames := 0, cells := 0, slots := 0, locals := 0 } [.ref (a 0), .ref (a 3), .int p2] x0 (some rz) xz := by
  refine bq_ofW RX10 [(0, .ref (a 0)), (1, .ref (a 3)), (2, .int p2)] (by decide +kernel) rfl (Nat.le_of_ble_eq_true rfl) rfl (bq_adM a k) ?_
  intro p e s m below meth c A Q ls S hK hD hA hR hS hP hl
  have hx := S.1; have hb := S.2.1; have hml := S.2.2.1; have hown := S.2.2.2.1; have hts := S.2.2.2.2
  have hret : ∀ z, some z = some (rz, xz) → (rz, xz) = z := fun z h => (Option.some.inj h).symm
  unfold fX10_lay at h
  refine lv_iconst (v := (0 : Int32)) hx hb dX10_lay_0 (by decide) ?_
  refine lv_istore_n (lv' := [(3, .int (0 : Int32)), (0, .ref (a 0)), (1, .ref (a 3)), (2, .int p2)]) hx hb dX10_lay_1 rfl hl (by decide) rfl (fun ls hl => ?_)
  have hl2 : ∀ (v3 : Int32) (kf : Nat) (v4 : Int32) (x5 : bq_S) (eo : Int32 × bq_S) (H : Heap) (locs : List Loc) (ls : Array Slot), wh kf (fX10_lay_b2 n 3 8 v3) (v4, x5) = some eo → va_P D bq_cl (bq_wM a k x5) H → va_S A s.heap H locs → lv_has ls 4 [(0, .ref (a 0)), (1, .ref (a 3)), (2, .int v3), (3, .int v4)] → (∀ (H : Heap) (locs : List Loc) (ls : Array Slot) (v12 : Int32) (x13 : bq_S), eo = (v12, x13) → va_P D bq_cl (bq_wM a k x13) H → va_S A s.heap H locs → lv_has ls 4 [(1, .ref (a 3)), (2, .int v3)] → W p l e { frames := 0, cells := 0, slots := 0, locals := 0 } s m [.ref (a 0), .ref (a 3), .int p2].toArray below meth c H locs 0 0 Q (F0 m 25 ls [])) → W p l e { frames := 0, cells := 0, slots := 0, locals := 0 } s m [.ref (a 0), .ref (a 3), .int p2].toArray below meth c H locs 0 0 Q (F0 m 2 ls []) := by
    intro v3 kf
    induction kf with
    | zero => intro v4 x5 eo H locs ls h; cases h
    | succ kf ih =>
      intro v4 x5 eo H locs ls h hP hS hl kx
      obtain ⟨out, h, hw⟩ := wh_s h
      unfold fX10_lay_b2 at h
      replace h := un2_e h
      refine lv_iload_n hx hb dX10_lay_2 rfl (lv_at hl 3 rfl) ?_
      refine lv_aload_n hx hb dX10_lay_3 rfl (lv_at hl 1 rfl) ?_
      refine va_alen (D := D) (v := (8 : Int32)) hx hb hK hP 3 0 rfl rfl rfl dX10_lay_4 ?_
      refine lv_icmp_ge (tgt := 25) hx hb dX10_lay_5 (by decide) (fun c6 => ?_) (fun c6 => ?_)
      · replace h := (if_pos c6).symm.trans h
        cases h
        exact kx _ _ _ _ _ (Option.some.inj hw).symm hP hS (lv_sub hl [1, 2] rfl)
      · replace h := (if_neg c6).symm.trans h
        refine lv_aload_n hx hb dX10_lay_8 rfl (lv_at hl 0 rfl) ?_
        refine bq_get (q0 := 0) S hK hP fl_X10_46_X10_20 rfl rfl rfl dX10_lay_9 ?_
        refine lv_iload_n hx hb dX10_lay_12 rfl (lv_at hl 2 rfl) ?_
        refine lv_iload_n hx hb dX10_lay_13 rfl (lv_at hl 3 rfl) ?_
        refine lv_iadd hx hb dX10_lay_14 ?_
        refine lv_aload_n hx hb dX10_lay_15 rfl (lv_at hl 1 rfl) ?_
        refine lv_iload_n hx hb dX10_lay_16 rfl (lv_at hl 3 rfl) ?_
        obtain ⟨g7, h⟩ := bq_gd h
        refine va_iald (D := D) hx hb hK hP 3 0 rfl rfl g7 dX10_lay_17 ?_
        obtain ⟨g9, h⟩ := bq_gd h
        obtain ⟨x8, hx8, h⟩ := bq_b h
        refine bq_iast (x1 := x8) (q0 := 13) (t0 := 0) S hK hD hP hS rfl rfl g9 (by rw [hx8]; rfl) dX10_lay_18 (fun H locs hP hS => ?_)
        obtain ⟨v10, hv10, h⟩ := bq_b h
        refine lv_iinc (v := v10) (lv' := [(3, .int v10), (0, .ref (a 0)), (1, .ref (a 3)), (2, .int v3)]) hx hb dX10_lay_19 hl (k := 3) rfl (by rw [hv10]; rfl) (by decide) rfl (fun ls hl => ?_)
        refine lv_goto (tgt := 2) hx hb dX10_lay_22 (by decide) ?_
        cases h
        exact ih _ _ _ _ _ _ hw hP hS (lv_sub hl [1, 2, 3, 0] rfl) kx
  obtain ⟨e11, he11, h⟩ := Option.bind_eq_some_iff.mp h
  refine hl2 _ n _ _ e11 _ _ _ he11 hP hS (lv_sub hl [1, 2, 3, 0] rfl) (fun H locs ls v12 x13 hz hP hS hl => ?_)
  subst hz
  replace h := un2_e h
  refine lv_iload_n hx hb dX10_lay_25 rfl (lv_at hl 1 rfl) ?_
  refine lv_aload_n hx hb dX10_lay_26 rfl (lv_at hl 0 rfl) ?_
  refine va_alen (D := D) (v := (8 : Int32)) hx hb hK hP 3 0 rfl rfl rfl dX10_lay_27 ?_
  refine lv_iadd hx hb dX10_lay_28 ?_
  obtain ⟨e1, e2⟩ := Prod.mk.inj (hret _ h)
  exact hR _ _ _ _ _ (congrArg some e1) rfl (by rw [e2]; exact hP) hS dX10_lay_29
set_option maxHeartbeats 4000000 in
set_option maxRecDepth 100000 in
theorem cX10_lay_k_0_4 {l : Launch} {D : va_G} {a : Nat → Nat} {k : Nat → ClassId} {n : Nat} {p2 : Int32} {x0 xz : bq_S} {rz : Int32} (h : fX10_lay n 4 2 p2 x0 = some (rz, xz)) : bq_M l D bq_cl (bq_ty k) (bq_wM a k) yX10_lay cX10_lay 4 (some .int) { frames := 0, cells := 0, slots := 0, locals := 0 } [.ref (a 0), .ref (a 4), .int p2] x0 (some rz) xz := by
  refine bq_ofW RX10 [(0, .ref (a 0)), (1, .ref (a 4)), (2, .int p2)] (by decide +kernel) rfl (Nat.le_of_ble_eq_true rfl) rfl (bq_adM a k) ?_
  intro p e s m below meth c A Q ls S hK hD hA hR hS hP hl
  have hx := S.1; have hb := S.2.1; have hml := S.2.2.1; have hown := S.2.2.2.1; have hts := S.2.2.2.2
  have hret : ∀ z, some z = some (rz, xz) → (rz, xz) = z := fun z h => (Option.some.inj h).symm
  unfold fX10_lay at h
  refine lv_iconst (v := (0 : Int32)) hx hb dX10_lay_0 (by decide) ?_
  refine lv_istore_n (lv' := [(3, .int (0 : Int32)), (0, .ref (a 0)), (1, .ref (a 4)), (2, .int p2)]) hx hb dX10_lay_1 rfl hl (by decide) rfl (fun ls hl => ?_)
  have hl2 : ∀ (v3 : Int32) (kf : Nat) (v4 : Int32) (x5 : bq_S) (eo : Int32 × bq_S) (H : Heap) (locs : List Loc) (ls : Array Slot), wh kf (fX10_lay_b2 n 4 2 v3) (v4, x5) = some eo → va_P D bq_cl (bq_wM a k x5) H → va_S A s.heap H locs → lv_has ls 4 [(0, .ref (a 0)), (1, .ref (a 4)), (2, .int v3), (3, .int v4)] → (∀ (H : Heap) (locs : List Loc) (ls : Array Slot) (v12 : Int32) (x13 : bq_S), eo = (v12, x13) → va_P D bq_cl (bq_wM a k x13) H → va_S A s.heap H locs → lv_has ls 4 [(1, .ref (a 4)), (2, .int v3)] → W p l e { frames := 0, cells := 0, slots := 0, locals := 0 } s m [.ref (a 0), .ref (a 4), .int p2].toArray below meth c H locs 0 0 Q (F0 m 25 ls [])) → W p l e { frames := 0, cells := 0, slots := 0, locals := 0 } s m [.ref (a 0), .ref (a 4), .int p2].toArray below meth c H locs 0 0 Q (F0 m 2 ls []) := by
    intro v3 kf
    induction kf with
    | zero => intro v4 x5 eo H locs ls h; cases h
    | succ kf ih =>
      intro v4 x5 eo H locs ls h hP hS hl kx
      obtain ⟨out, h, hw⟩ := wh_s h
      unfold fX10_lay_b2 at h
      replace h := un2_e h
      refine lv_iload_n hx hb dX10_lay_2 rfl (lv_at hl 3 rfl) ?_
      refine lv_aload_n hx hb dX10_lay_3 rfl (lv_at hl 1 rfl) ?_
      refine va_alen (D := D) (v := (2 : Int32)) hx hb hK hP 4 0 rfl rfl rfl dX10_lay_4 ?_
      refine lv_icmp_ge (tgt := 25) hx hb dX10_lay_5 (by decide) (fun c6 => ?_) (fun c6 => ?_)
      · replace h := (if_pos c6).symm.trans h
        cases h
        exact kx _ _ _ _ _ (Option.some.inj hw).symm hP hS (lv_sub hl [1, 2] rfl)
      · replace h := (if_neg c6).symm.trans h
        refine lv_aload_n hx hb dX10_lay_8 rfl (lv_at hl 0 rfl) ?_
        refine bq_get (q0 := 0) S hK hP fl_X10_46_X10_20 rfl rfl rfl dX10_lay_9 ?_
        refine lv_iload_n hx hb dX10_lay_12 rfl (lv_at hl 2 rfl) ?_
        refine lv_iload_n hx hb dX10_lay_13 rfl (lv_at hl 3 rfl) ?_
        refine lv_iadd hx hb dX10_lay_14 ?_
        refine lv_aload_n hx hb dX10_lay_15 rfl (lv_at hl 1 rfl) ?_
        refine lv_iload_n hx hb dX10_lay_16 rfl (lv_at hl 3 rfl) ?_
        obtain ⟨g7, h⟩ := bq_gd h
        refine va_iald (D := D) hx hb hK hP 4 0 rfl rfl g7 dX10_lay_17 ?_
        obtain ⟨g9, h⟩ := bq_gd h
        obtain ⟨x8, hx8, h⟩ := bq_b h
        refine bq_iast (x1 := x8) (q0 := 13) (t0 := 0) S hK hD hP hS rfl rfl g9 (by rw [hx8]; rfl) dX10_lay_18 (fun H locs hP hS => ?_)
        obtain ⟨v10, hv10, h⟩ := bq_b h
        refine lv_iinc (v := v10) (lv' := [(3, .int v10), (0, .ref (a 0)), (1, .ref (a 4)), (2, .int v3)]) hx hb dX10_lay_19 hl (k := 3) rfl (by rw [hv10]; rfl) (by decide) rfl (fun ls hl => ?_)
        refine lv_goto (tgt := 2) hx hb dX10_lay_22 (by decide) ?_
        cases h
        exact ih _ _ _ _ _ _ hw hP hS (lv_sub hl [1, 2, 3, 0] rfl) kx
  obtain ⟨e11, he11, h⟩ := Option.bind_eq_some_iff.mp h
  refine hl2 _ n _ _ e11 _ _ _ he11 hP hS (lv_sub hl [1, 2, 3, 0] rfl) (fun H locs ls v12 x13 hz hP hS hl => ?_)
  subst hz
  replace h := un2_e h
  refine lv_iload_n hx hb dX10_lay_25 rfl (lv_at hl 1 rfl) ?_
  refine lv_aload_n hx hb dX10_lay_26 rfl (lv_at hl 0 rfl) ?_
  refine va_alen (D := D) (v := (2 : Int32)) hx hb hK hP 4 0 rfl rfl rfl dX10_lay_27 ?_
  refine lv_iadd hx hb dX10_lay_28 ?_
  obtain ⟨e1, e2⟩ := Prod.mk.inj (hret _ h)
  exact hR _ _ _ _ _ (congrArg some e1) rfl (by rw [e2]; exact hP) hS dX10_lay_29
set_option maxHeartbeats 4000000 in
set_option maxRecDepth 100000 in
theorem cX10_lay_k_0_5 {l : Launch} {D : va_G} {a : Nat → Nat} {k : Nat → ClassId} {n : Nat} {p2 : Int32} {x0 xz : bq_S} {rz : Int32} (h : fX10_lay n 5 8 p2 x0 = some (rz, xz)) : bq_M l D bq_cl (bq_ty k) (bq_wM a k) yX10_lay cX10_lay 4 (some .int) { frames := 0, cells := 0, slots := 0, locals := 0 } [.ref (a 0), .ref (a 5), .int p2] x0 (some rz) xz := by
  refine bq_ofW RX10 [(0, .ref (a 0)), (1, .ref (a 5)), (2, .int p2)] (by decide +kernel) rfl (Nat.le_of_ble_eq_true rfl) rfl (bq_adM a k) ?_
  intro p e s m below meth c A Q ls S hK hD hA hR hS hP hl
  have hx := S.1; have hb := S.2.1; have hml := S.2.2.1; have hown := S.2.2.2.1; have hts := S.2.2.2.2
  have hret : ∀ z, some z = some (rz, xz) → (rz, xz) = z := fun z h => (Option.some.inj h).symm
  unfold fX10_lay at h
  refine lv_iconst (v := (0 : Int32)) hx hb dX10_lay_0 (by decide) ?_
  refine lv_istore_n (lv' := [(3, .int (0 : Int32)), (0, .ref (a 0)), (1, .ref (a 5)), (2, .int p2)]) hx hb dX10_lay_1 rfl hl (by decide) rfl (fun ls hl => ?_)
  have hl2 : ∀ (v3 : Int32) (kf : Nat) (v4 : Int32) (x5 : bq_S) (eo : Int32 × bq_S) (H : Heap) (locs : List Loc) (ls : Array Slot), wh kf (fX10_lay_b2 n 5 8 v3) (v4, x5) = some eo → va_P D bq_cl (bq_wM a k x5) H → va_S A s.heap H locs → lv_has ls 4 [(0, .ref (a 0)), (1, .ref (a 5)), (2, .int v3), (3, .int v4)] → (∀ (H : Heap) (locs : List Loc) (ls : Array Slot) (v12 : Int32) (x13 : bq_S), eo = (v12, x13) → va_P D bq_cl (bq_wM a k x13) H → va_S A s.heap H locs → lv_has ls 4 [(1, .ref (a 5)), (2, .int v3)] → W p l e { frames := 0, cells := 0, slots := 0, locals := 0 } s m [.ref (a 0), .ref (a 5), .int p2].toArray below meth c H locs 0 0 Q (F0 m 25 ls [])) → W p l e { frames := 0, cells := 0, slots := 0, locals := 0 } s m [.ref (a 0), .ref (a 5), .int p2].toArray below meth c H locs 0 0 Q (F0 m 2 ls []) := by
    intro v3 kf
    induction kf with
    | zero => intro v4 x5 eo H locs ls h; cases h
    | succ kf ih =>
      intro v4 x5 eo H locs ls h hP hS hl kx
      obtain ⟨out, h, hw⟩ := wh_s h
      unfold fX10_lay_b2 at h
      replace h := un2_e h
      refine lv_iload_n hx hb dX10_lay_2 rfl (lv_at hl 3 rfl) ?_
      refine lv_aload_n hx hb dX10_lay_3 rfl (lv_at hl 1 rfl) ?_
      refine va_alen (D := D) (v := (8 : Int32)) hx hb hK hP 5 0 rfl rfl rfl dX10_lay_4 ?_
      refine lv_icmp_ge (tgt := 25) hx hb dX10_lay_5 (by decide) (fun c6 => ?_) (fun c6 => ?_)
      · replace h := (if_pos c6).symm.trans h
        cases h
        exact kx _ _ _ _ _ (Option.some.inj hw).symm hP hS (lv_sub hl [1, 2] rfl)
      · replace h := (if_neg c6).symm.trans h
        refine lv_aload_n hx hb dX10_lay_8 rfl (lv_at hl 0 rfl) ?_
        refine bq_get (q0 := 0) S hK hP fl_X10_46_X10_20 rfl rfl rfl dX10_lay_9 ?_
        refine lv_iload_n hx hb dX10_lay_12 rfl (lv_at hl 2 rfl) ?_
        refine lv_iload_n hx hb dX10_lay_13 rfl (lv_at hl 3 rfl) ?_
        refine lv_iadd hx hb dX10_lay_14 ?_
        refine lv_aload_n hx hb dX10_lay_15 rfl (lv_at hl 1 rfl) ?_
        refine lv_iload_n hx hb dX10_lay_16 rfl (lv_at hl 3 rfl) ?_
        obtain ⟨g7, h⟩ := bq_gd h
        refine va_iald (D := D) hx hb hK hP 5 0 rfl rfl g7 dX10_lay_17 ?_
        obtain ⟨g9, h⟩ := bq_gd h
        obtain ⟨x8, hx8, h⟩ := bq_b h
        refine bq_iast (x1 := x8) (q0 := 13) (t0 := 0) S hK hD hP hS rfl rfl g9 (by rw [hx8]; rfl) dX10_lay_18 (fun H locs hP hS => ?_)
        obtain ⟨v10, hv10, h⟩ := bq_b h
        refine lv_iinc (v := v10) (lv' := [(3, .int v10), (0, .ref (a 0)), (1, .ref (a 5)), (2, .int v3)]) hx hb dX10_lay_19 hl (k := 3) rfl (by rw [hv10]; rfl) (by decide) rfl (fun ls hl => ?_)
        refine lv_goto (tgt := 2) hx hb dX10_lay_22 (by decide) ?_
        cases h
        exact ih _ _ _ _ _ _ hw hP hS (lv_sub hl [1, 2, 3, 0] rfl) kx
  obtain ⟨e11, he11, h⟩ := Option.bind_eq_some_iff.mp h
  refine hl2 _ n _ _ e11 _ _ _ he11 hP hS (lv_sub hl [1, 2, 3, 0] rfl) (fun H locs ls v12 x13 hz hP hS hl => ?_)
  subst hz
  replace h := un2_e h
  refine lv_iload_n hx hb dX10_lay_25 rfl (lv_at hl 1 rfl) ?_
  refine lv_aload_n hx hb dX10_lay_26 rfl (lv_at hl 0 rfl) ?_
  refine va_alen (D := D) (v := (8 : Int32)) hx hb hK hP 5 0 rfl rfl rfl dX10_lay_27 ?_
  refine lv_iadd hx hb dX10_lay_28 ?_
  obtain ⟨e1, e2⟩ := Prod.mk.inj (hret _ h)
  exact hR _ _ _ _ _ (congrArg some e1) rfl (by rw [e2]; exact hP) hS dX10_lay_29
def fX10_image (n : Nat) (x0 : bq_S) : Option (Int32 × bq_S) :=
  (fX10_lay n 1 8 (0 : Int32) x0).bind (fun o1 => un2 o1 (fun v3 x2 =>
  (fX10_lay n 2 8 v3 x2).bind (fun o4 => un2 o4 (fun v6 x5 =>
  (fX10_lay n 3 8 v6 x5).bind (fun o7 => un2 o7 (fun v9 x8 =>
  (fX10_lay n 4 2 v9 x8).bind (fun o10 => un2 o10 (fun v12 x11 =>
  (fX10_lay n 5 8 v12 x11).bind (fun o13 => un2 o13 (fun v15 x14 =>
  if ok_i v15 40 then
  bd (bq_sI x14 13 v15.toNatClampNeg (x14.1 0 0)) (fun x16 =>
  if ok_i (v15 + (1 : Int32)) 40 then
  bd (bq_sI x16 13 (v15 + (1 : Int32)).toNatClampNeg (x16.1 0 4)) (fun x18 =>
  if ok_i (v15 + (2 : Int32)) 40 then
  bd (bq_sI x18 13 (v15 + (2 : Int32)).toNatClampNeg (x18.1 0 6)) (fun x20 =>
  bd (bq_sI x20 0 21 (1 : Int32)) (fun x22 =>
  some ((1 : Int32), x22)))
  else none)
  else none)
  else none))))))))))
theorem dX10_image_0 : decode cX10_image 0 = .ok (.aload_n 0, 1) := by decide +kernel
theorem dX10_image_1 : decode cX10_image 1 = .ok (.aload_n 0, 1) := by decide +kernel
theorem dX10_image_2 : decode cX10_image 2 = .ok (.getfield 7, 3) := by decide +kernel
theorem dX10_image_5 : decode cX10_image 5 = .ok (.iconst 0, 1) := by decide +kernel
theorem dX10_image_6 : decode cX10_image 6 = .ok (.invokevirtual 180, 3) := by decide +kernel
theorem dX10_image_9 : decode cX10_image 9 = .ok (.istore_n 1, 1) := by decide +kernel
theorem dX10_image_10 : decode cX10_image 10 = .ok (.aload_n 0, 1) := by decide +kernel
theorem dX10_image_11 : decode cX10_image 11 = .ok (.aload_n 0, 1) := by decide +kernel
theorem dX10_image_12 : decode cX10_image 12 = .ok (.getfield 13, 3) := by decide +kernel
theorem dX10_image_15 : decode cX10_image 15 = .ok (.iload_n 1, 1) := by decide +kernel
theorem dX10_image_16 : decode cX10_image 16 = .ok (.invokevirtual 180, 3) := by decide +kernel
theorem dX10_image_19 : decode cX10_image 19 = .ok (.istore_n 1, 1) := by decide +kernel
theorem dX10_image_20 : decode cX10_image 20 = .ok (.aload_n 0, 1) := by decide +kernel
theorem dX10_image_21 : decode cX10_image 21 = .ok (.aload_n 0, 1) := by decide +kernel
theorem dX10_image_22 : decode cX10_image 22 = .ok (.getfield 16, 3) := by decide +kernel
theorem dX10_image_25 : decode cX10_image 25 = .ok (.iload_n 1, 1) := by decide +kernel
theorem dX10_image_26 : decode cX10_image 26 = .ok (.invokevirtual 180, 3) := by decide +kernel
theorem dX10_image_29 : decode cX10_image 29 = .ok (.istore_n 1, 1) := by decide +kernel
theorem dX10_image_30 : decode cX10_image 30 = .ok (.aload_n 0, 1) := by decide +kernel
theorem dX10_image_31 : decode cX10_image 31 = .ok (.aload_n 0, 1) := by decide +kernel
theorem dX10_image_32 : decode cX10_image 32 = .ok (.getfield 19, 3) := by decide +kernel
theorem dX10_image_35 : decode cX10_image 35 = .ok (.iload_n 1, 1) := by decide +kernel
theorem dX10_image_36 : decode cX10_image 36 = .ok (.invokevirtual 180, 3) := by decide +kernel
theorem dX10_image_39 : decode cX10_image 39 = .ok (.istore_n 1, 1) := by decide +kernel
theorem dX10_image_40 : decode cX10_image 40 = .ok (.aload_n 0, 1) := by decide +kernel
theorem dX10_image_41 : decode cX10_image 41 = .ok (.aload_n 0, 1) := by decide +kernel
theorem dX10_image_42 : decode cX10_image 42 = .ok (.getfield 22, 3) := by decide +kernel
theorem dX10_image_45 : decode cX10_image 45 = .ok (.iload_n 1, 1) := by decide +kernel
theorem dX10_image_46 : decode cX10_image 46 = .ok (.invokevirtual 180, 3) := by decide +kernel
theorem dX10_image_49 : decode cX10_image 49 = .ok (.istore_n 1, 1) := by decide +kernel
theorem dX10_image_50 : decode cX10_image 50 = .ok (.aload_n 0, 1) := by decide +kernel
theorem dX10_image_51 : decode cX10_image 51 = .ok (.getfield 46, 3) := by decide +kernel
theorem dX10_image_54 : decode cX10_image 54 = .ok (.iload_n 1, 1) := by decide +kernel
theorem dX10_image_55 : decode cX10_image 55 = .ok (.aload_n 0, 1) := by decide +kernel
theorem dX10_image_56 : decode cX10_image 56 = .ok (.getfield 62, 3) := by decide +kernel
theorem dX10_image_59 : decode cX10_image 59 = .ok (.iastore, 1) := by decide +kernel
theorem dX10_image_60 : decode cX10_image 60 = .ok (.aload_n 0, 1) := by decide +kernel
theorem dX10_image_61 : decode cX10_image 61 = .ok (.getfield 46, 3) := by decide +kernel
theorem dX10_image_64 : decode cX10_image 64 = .ok (.iload_n 1, 1) := by decide +kernel
theorem dX10_image_65 : decode cX10_image 65 = .ok (.iconst 1, 1) := by decide +kernel
theorem dX10_image_66 : decode cX10_image 66 = .ok (.iadd, 1) := by decide +kernel
theorem dX10_image_67 : decode cX10_image 67 = .ok (.aload_n 0, 1) := by decide +kernel
theorem dX10_image_68 : decode cX10_image 68 = .ok (.getfield 76, 3) := by decide +kernel
theorem dX10_image_71 : decode cX10_image 71 = .ok (.iastore, 1) := by decide +kernel
theorem dX10_image_72 : decode cX10_image 72 = .ok (.aload_n 0, 1) := by decide +kernel
theorem dX10_image_73 : decode cX10_image 73 = .ok (.getfield 46, 3) := by decide +kernel
theorem dX10_image_76 : decode cX10_image 76 = .ok (.iload_n 1, 1) := by decide +kernel
theorem dX10_image_77 : decode cX10_image 77 = .ok (.iconst 2, 1) := by decide +kernel
theorem dX10_image_78 : decode cX10_image 78 = .ok (.iadd, 1) := by decide +kernel
theorem dX10_image_79 : decode cX10_image 79 = .ok (.aload_n 0, 1) := by decide +kernel
theorem dX10_image_80 : decode cX10_image 80 = .ok (.getfield 126, 3) := by decide +kernel
theorem dX10_image_83 : decode cX10_image 83 = .ok (.iastore, 1) := by decide +kernel
theorem dX10_image_84 : decode cX10_image 84 = .ok (.aload_n 0, 1) := by decide +kernel
theorem dX10_image_85 : decode cX10_image 85 = .ok (.iconst 1, 1) := by decide +kernel
theorem dX10_image_86 : decode cX10_image 86 = .ok (.putfield 184, 3) := by decide +kernel
theorem dX10_image_89 : decode cX10_image 89 = .ok (.iconst 1, 1) := by decide +kernel
theorem dX10_image_90 : decode cX10_image 90 = .ok (.ireturn, 1) := by decide +kernel
set_option maxHeartbeats 4000000 in
set_option maxRecDepth 100000 in
theorem cX10_image_k_0 {l : Launch} {D : va_G} {a : Nat → Nat} {k : Nat → ClassId} {n : Nat} {x0 xz : bq_S} {rz : Int32} (h : fX10_image n  x0 = some (rz, xz)) : bq_M l D bq_cl (bq_ty k) (bq_wM a k) yX10_image cX10_image 2 (some .int) { frames := 1, cells := 0, slots := 0, locals := 23 } [.ref (a 0)] x0 (some rz) xz := by
  refine bq_ofW RX10 [(0, .ref (a 0))] (by decide +kernel) rfl (Nat.le_of_ble_eq_true rfl) rfl (bq_adM a k) ?_
  intro p e s m below meth c A Q ls S hK hD hA hR hS hP hl
  have hx := S.1; have hb := S.2.1; have hml := S.2.2.1; have hown := S.2.2.2.1; have hts := S.2.2.2.2
  have hret : ∀ z, some z = some (rz, xz) → (rz, xz) = z := fun z h => (Option.some.inj h).symm
  unfold fX10_image at h
  refine lv_aload_n hx hb dX10_image_0 rfl (lv_at hl 0 rfl) ?_
  refine lv_aload_n hx hb dX10_image_1 rfl (lv_at hl 0 rfl) ?_
  refine bq_get (q0 := 0) S hK hP fl_X10_7_X10_1 rfl rfl rfl dX10_image_2 ?_
  refine lv_iconst (v := (0 : Int32)) hx hb dX10_image_5 (by decide) ?_
  obtain ⟨o1, ho1, h⟩ := Option.bind_eq_some_iff.mp h
  obtain ⟨v3, x2⟩ := o1
  replace h := un2_e h
  refine bq_callVi (q0 := 0) (As := [.ref (a 1), .int _]) S hK hD hA hP hS (cX10_lay_k_0_1 ho1) hd_yX10_lay ml_X10_180 in_yX10_lay (hts _ sl_X10_X10_yX10_lay) ⟨rfl, rfl⟩ ⟨by decide, by decide⟩ rfl rfl rfl hl.1 rfl (Nat.le_of_ble_eq_true rfl) ⟨Nat.zero_le _, Nat.zero_le _⟩ dX10_image_6 (fun H locs hP hS => ?_)
  refine lv_istore_n (lv' := [(1, .int v3), (0, .ref (a 0))]) hx hb dX10_image_9 rfl hl (by decide) rfl (fun ls hl => ?_)
  refine lv_aload_n hx hb dX10_image_10 rfl (lv_at hl 1 rfl) ?_
  refine lv_aload_n hx hb dX10_image_11 rfl (lv_at hl 1 rfl) ?_
  refine bq_get (q0 := 0) S hK hP fl_X10_13_X10_2 rfl rfl rfl dX10_image_12 ?_
  refine lv_iload_n hx hb dX10_image_15 rfl (lv_at hl 0 rfl) ?_
  obtain ⟨o4, ho4, h⟩ := Option.bind_eq_some_iff.mp h
  obtain ⟨v6, x5⟩ := o4
  replace h := un2_e h
  refine bq_callVi (q0 := 0) (As := [.ref (a 2), .int _]) S hK hD hA hP hS (cX10_lay_k_0_2 ho4) hd_yX10_lay ml_X10_180 in_yX10_lay (hts _ sl_X10_X10_yX10_lay) ⟨rfl, rfl⟩ ⟨by decide, by decide⟩ rfl rfl rfl hl.1 rfl (Nat.le_of_ble_eq_true rfl) ⟨Nat.zero_le _, Nat.zero_le _⟩ dX10_image_16 (fun H locs hP hS => ?_)
  refine lv_istore_n (lv' := [(1, .int v6), (0, .ref (a 0))]) hx hb dX10_image_19 rfl hl (by decide) rfl (fun ls hl => ?_)
  refine lv_aload_n hx hb dX10_image_20 rfl (lv_at hl 1 rfl) ?_
  refine lv_aload_n hx hb dX10_image_21 rfl (lv_at hl 1 rfl) ?_
  refine bq_get (q0 := 0) S hK hP fl_X10_16_X10_3 rfl rfl rfl dX10_image_22 ?_
  refine lv_iload_n hx hb dX10_image_25 rfl (lv_at hl 0 rfl) ?_
  obtain ⟨o7, ho7, h⟩ := Option.bind_eq_some_iff.mp h
  obtain ⟨v9, x8⟩ := o7
  replace h := un2_e h
  refine bq_callVi (q0 := 0) (As := [.ref (a 3), .int _]) S hK hD hA hP hS (cX10_lay_k_0_3 ho7) hd_yX10_lay ml_X10_180 in_yX10_lay (hts _ sl_X10_X10_yX10_lay) ⟨rfl, rfl⟩ ⟨by decide, by decide⟩ rfl rfl rfl hl.1 rfl (Nat.le_of_ble_eq_true rfl) ⟨Nat.zero_le _, Nat.zero_le _⟩ dX10_image_26 (fun H locs hP hS => ?_)
  refine lv_istore_n (lv' := [(1, .int v9), (0, .ref (a 0))]) hx hb dX10_image_29 rfl hl (by decide) rfl (fun ls hl => ?_)
  refine lv_aload_n hx hb dX10_image_30 rfl (lv_at hl 1 rfl) ?_
  refine lv_aload_n hx hb dX10_image_31 rfl (lv_at hl 1 rfl) ?_
  refine bq_get (q0 := 0) S hK hP fl_X10_19_X10_5 rfl rfl rfl dX10_image_32 ?_
  refine lv_iload_n hx hb dX10_image_35 rfl (lv_at hl 0 rfl) ?_
  obtain ⟨o10, ho10, h⟩ := Option.bind_eq_some_iff.mp h
  obtain ⟨v12, x11⟩ := o10
  replace h := un2_e h
  refine bq_callVi (q0 := 0) (As := [.ref (a 4), .int _]) S hK hD hA hP hS (cX10_lay_k_0_4 ho10) hd_yX10_lay ml_X10_180 in_yX10_lay (hts _ sl_X10_X10_yX10_lay) ⟨rfl, rfl⟩ ⟨by decide, by decide⟩ rfl rfl rfl hl.1 rfl (Nat.le_of_ble_eq_true rfl) ⟨Nat.zero_le _, Nat.zero_le _⟩ dX10_image_36 (fun H locs hP hS => ?_)
  refine lv_istore_n (lv' := [(1, .int v12), (0, .ref (a 0))]) hx hb dX10_image_39 rfl hl (by decide) rfl (fun ls hl => ?_)
  refine lv_aload_n hx hb dX10_image_40 rfl (lv_at hl 1 rfl) ?_
  refine lv_aload_n hx hb dX10_image_41 rfl (lv_at hl 1 rfl) ?_
  refine bq_get (q0 := 0) S hK hP fl_X10_22_X10_7 rfl rfl rfl dX10_image_42 ?_
  refine lv_iload_n hx hb dX10_image_45 rfl (lv_at hl 0 rfl) ?_
  obtain ⟨o13, ho13, h⟩ := Option.bind_eq_some_iff.mp h
  obtain ⟨v15, x14⟩ := o13
  replace h := un2_e h
  refine bq_callVi (q0 := 0) (As := [.ref (a 5), .int _]) S hK hD hA hP hS (cX10_lay_k_0_5 ho13) hd_yX10_lay ml_X10_180 in_yX10_lay (hts _ sl_X10_X10_yX10_lay) ⟨rfl, rfl⟩ ⟨by decide, by decide⟩ rfl rfl rfl hl.1 rfl (Nat.le_of_ble_eq_true rfl) ⟨Nat.zero_le _, Nat.zero_le _⟩ dX10_image_46 (fun H locs hP hS => ?_)
  refine lv_istore_n (lv' := [(1, .int v15), (0, .ref (a 0))]) hx hb dX10_image_49 rfl hl (by decide) rfl (fun ls hl => ?_)
  refine lv_aload_n hx hb dX10_image_50 rfl (lv_at hl 1 rfl) ?_
  refine bq_get (q0 := 0) S hK hP fl_X10_46_X10_20 rfl rfl rfl dX10_image_51 ?_
  refine lv_iload_n hx hb dX10_image_54 rfl (lv_at hl 0 rfl) ?_
  refine lv_aload_n hx hb dX10_image_55 rfl (lv_at hl 1 rfl) ?_
  refine bq_get (q0 := 0) S hK hP fl_X10_62_X10_0 rfl rfl rfl dX10_image_56 ?_
  obtain ⟨g17, h⟩ := bq_gd h
  obtain ⟨x16, hx16, h⟩ := bq_b h
  refine bq_iast (x1 := x16) (q0 := 13) (t0 := 0) S hK hD hP hS rfl rfl g17 (by rw [hx16]; rfl) dX10_image_59 (fun H locs hP hS => ?_)
  refine lv_aload_n hx hb dX10_image_60 rfl (lv_at hl 1 rfl) ?_
  refine bq_get (q0 := 0) S hK hP fl_X10_46_X10_20 rfl rfl rfl dX10_image_61 ?_
  refine lv_iload_n hx hb dX10_image_64 rfl (lv_at hl 0 rfl) ?_
  refine lv_iconst (v := (1 : Int32)) hx hb dX10_image_65 (by decide) ?_
  refine lv_iadd hx hb dX10_image_66 ?_
  refine lv_aload_n hx hb dX10_image_67 rfl (lv_at hl 1 rfl) ?_
  refine bq_get (q0 := 0) S hK hP fl_X10_76_X10_4 rfl rfl rfl dX10_image_68 ?_
  obtain ⟨g19, h⟩ := bq_gd h
  obtain ⟨x18, hx18, h⟩ := bq_b h
  refine bq_iast (x1 := x18) (q0 := 13) (t0 := 0) S hK hD hP hS rfl rfl g19 (by rw [hx18]; rfl) dX10_image_71 (fun H locs hP hS => ?_)
  refine lv_aload_n hx hb dX10_image_72 rfl (lv_at hl 1 rfl) ?_
  refine bq_get (q0 := 0) S hK hP fl_X10_46_X10_20 rfl rfl rfl dX10_image_73 ?_
  refine lv_iload_n hx hb dX10_image_76 rfl (lv_at hl 0 rfl) ?_
  refine lv_iconst (v := (2 : Int32)) hx hb dX10_image_77 (by decide) ?_
  refine lv_iadd hx hb dX10_image_78 ?_
  refine lv_aload_n hx hb dX10_image_79 rfl (lv_at hl 1 rfl) ?_
  refine bq_get (q0 := 0) S hK hP fl_X10_126_X10_6 rfl rfl rfl dX10_image_80 ?_
  obtain ⟨g21, h⟩ := bq_gd h
  obtain ⟨x20, hx20, h⟩ := bq_b h
  refine bq_iast (x1 := x20) (q0 := 13) (t0 := 0) S hK hD hP hS rfl rfl g21 (by rw [hx20]; rfl) dX10_image_83 (fun H locs hP hS => ?_)
  refine lv_aload_n hx hb dX10_image_84 rfl (lv_at hl 1 rfl) ?_
  refine lv_iconst (v := (1 : Int32)) hx hb dX10_image_85 (by decide) ?_
  obtain ⟨x22, hx22, h⟩ := bq_b h
  refine bq_put (x1 := x22) (q0 := 0) (ty := .boolean) S hK hD hP hS fl_X10_184_X10_21 bt_X10 rfl (by decide +kernel) rfl rfl (Nat.le_of_ble_eq_true rfl) rfl rfl (by rw [hx22]; rfl) dX10_image_86 (fun H locs hP hS => ?_)
  refine lv_iconst (v := (1 : Int32)) hx hb dX10_image_89 (by decide) ?_
  obtain ⟨e1, e2⟩ := Prod.mk.inj (hret _ h)
  exact hR _ _ _ _ _ (congrArg some e1) rfl (by rw [e2]; exact hP) hS dX10_image_90
def fX10_gives_b2 (n : Nat) (v1 : Int32) (r2 : Nat) (lb3 : Nat) (v : Int32 × bq_S) : Option ((Int32 × bq_S) ⊕ (Int32 × bq_S)) :=
  un2 v (fun v4 x5 =>
  if (Int32.ofNat lb3) ≤ v4 then
  some (.inr (v4, x5))
  else
  if ok_i (v1 + v4) 40 then
  if ok_i v4 lb3 then
  bd (bq_sI x5 r2 v4.toNatClampNeg (x5.1 13 (v1 + v4).toNatClampNeg)) (fun x8 =>
  bd (v4 + (1 : Int32)) (fun v10 =>
  some (.inl (v10, x8))))
  else none
  else none)
def fX10_gives (n : Nat) (p1 : Int32) (q2 : Nat) (la2 : Nat) (x0 : bq_S) : Option (Int32 × bq_S) :=
  (wh n (fX10_gives_b2 n p1 q2 la2) ((0 : Int32), x0)).bind (fun e11 => un2 e11 (fun v12 x13 =>
  some ((p1 + (Int32.ofNat la2)), x13)))
theorem dX10_gives_0 : decode cX10_gives 0 = .ok (.iconst 0, 1) := by decide +kernel
theorem dX10_gives_1 : decode cX10_gives 1 = .ok (.istore_n 3, 1) := by decide +kernel
theorem dX10_gives_2 : decode cX10_gives 2 = .ok (.iload_n 3, 1) := by decide +kernel
theorem dX10_gives_3 : decode cX10_gives 3 = .ok (.aload_n 2, 1) := by decide +kernel
theorem dX10_gives_4 : decode cX10_gives 4 = .ok (.arraylength, 1) := by decide +kernel
theorem dX10_gives_5 : decode cX10_gives 5 = .ok (.if_icmp .ge 20, 3) := by decide +kernel
theorem dX10_gives_8 : decode cX10_gives 8 = .ok (.aload_n 2, 1) := by decide +kernel
theorem dX10_gives_9 : decode cX10_gives 9 = .ok (.iload_n 3, 1) := by decide +kernel
theorem dX10_gives_10 : decode cX10_gives 10 = .ok (.aload_n 0, 1) := by decide +kernel
theorem dX10_gives_11 : decode cX10_gives 11 = .ok (.getfield 46, 3) := by decide +kernel
theorem dX10_gives_14 : decode cX10_gives 14 = .ok (.iload_n 1, 1) := by decide +kernel
theorem dX10_gives_15 : decode cX10_gives 15 = .ok (.iload_n 3, 1) := by decide +kernel
theorem dX10_gives_16 : decode cX10_gives 16 = .ok (.iadd, 1) := by decide +kernel
theorem dX10_gives_17 : decode cX10_gives 17 = .ok (.iaload, 1) := by decide +kernel
theorem dX10_gives_18 : decode cX10_gives 18 = .ok (.iastore, 1) := by decide +kernel
theorem dX10_gives_19 : decode cX10_gives 19 = .ok (.iinc 3 1, 3) := by decide +kernel
theorem dX10_gives_22 : decode cX10_gives 22 = .ok (.goto (-20), 3) := by decide +kernel
theorem dX10_gives_25 : decode cX10_gives 25 = .ok (.iload_n 1, 1) := by decide +kernel
theorem dX10_gives_26 : decode cX10_gives 26 = .ok (.aload_n 2, 1) := by decide +kernel
theorem dX10_gives_27 : decode cX10_gives 27 = .ok (.arraylength, 1) := by decide +kernel
theorem dX10_gives_28 : decode cX10_gives 28 = .ok (.iadd, 1) := by decide +kernel
theorem dX10_gives_29 : decode cX10_gives 29 = .ok (.ireturn, 1) := by decide +kernel
set_option maxHeartbeats 4000000 in
set_option maxRecDepth 100000 in
theorem cX10_gives_k_0_1 {l : Launch} {D : va_G} {a : Nat → Nat} {k : Nat → ClassId} {n : Nat} {p1 : Int32} {x0 xz : bq_S} {rz : Int32} (h : fX10_gives n p1 1 8 x0 = some (rz, xz)) : bq_M l D bq_cl (bq_ty k) (bq_wM a k) yX10_gives cX10_gives 4 (some .int) { frames := 0, cells := 0, slots := 0, locals := 0 } [.ref (a 0), .int p1, .ref (a 1)] x0 (some rz) xz := by
  refine bq_ofW RX10 [(0, .ref (a 0)), (1, .int p1), (2, .ref (a 1))] (by decide +kernel) rfl (Nat.le_of_ble_eq_true rfl) rfl (bq_adM a k) ?_
  intro p e s m below meth c A Q ls S hK hD hA hR hS hP hl
  have hx := S.1; have hb := S.2.1; have hml := S.2.2.1; have hown := S.2.2.2.1; have hts := S.2.2.2.2
  have hret : ∀ z, some z = some (rz, xz) → (rz, xz) = z := fun z h => (Option.some.inj h).symm
  unfold fX10_gives at h
  refine lv_iconst (v := (0 : Int32)) hx hb dX10_gives_0 (by decide) ?_
  refine lv_istore_n (lv' := [(3, .int (0 : Int32)), (0, .ref (a 0)), (1, .int p1), (2, .ref (a 1))]) hx hb dX10_gives_1 rfl hl (by decide) rfl (fun ls hl => ?_)
  have hl2 : ∀ (v1 : Int32) (kf : Nat) (v4 : Int32) (x5 : bq_S) (eo : Int32 × bq_S) (H : Heap) (locs : List Loc) (ls : Array Slot), wh kf (fX10_gives_b2 n v1 1 8) (v4, x5) = some eo → va_P D bq_cl (bq_wM a k x5) H → va_S A s.heap H locs → lv_has ls 4 [(0, .ref (a 0)), (1, .int v1), (2, .ref (a 1)), (3, .int v4)] → (∀ (H : Heap) (locs : List Loc) (ls : Array Slot) (v12 : Int32) (x13 : bq_S), eo = (v12, x13) → va_P D bq_cl (bq_wM a k x13) H → va_S A s.heap H locs → lv_has ls 4 [(1, .int v1), (2, .ref (a 1))] → W p l e { frames := 0, cells := 0, slots := 0, locals := 0 } s m [.ref (a 0), .int p1, .ref (a 1)].toArray below meth c H locs 0 0 Q (F0 m 25 ls [])) → W p l e { frames := 0, cells := 0, slots := 0, locals := 0 } s m [.ref (a 0), .int p1, .ref (a 1)].toArray below meth c H locs 0 0 Q (F0 m 2 ls []) := by
    intro v1 kf
    induction kf with
    | zero => intro v4 x5 eo H locs ls h; cases h
    | succ kf ih =>
      intro v4 x5 eo H locs ls h hP hS hl kx
      obtain ⟨out, h, hw⟩ := wh_s h
      unfold fX10_gives_b2 at h
      replace h := un2_e h
      refine lv_iload_n hx hb dX10_gives_2 rfl (lv_at hl 3 rfl) ?_
      refine lv_aload_n hx hb dX10_gives_3 rfl (lv_at hl 2 rfl) ?_
      refine va_alen (D := D) (v := (8 : Int32)) hx hb hK hP 1 0 rfl rfl rfl dX10_gives_4 ?_
      refine lv_icmp_ge (tgt := 25) hx hb dX10_gives_5 (by decide) (fun c6 => ?_) (fun c6 => ?_)
      · replace h := (if_pos c6).symm.trans h
        cases h
        exact kx _ _ _ _ _ (Option.some.inj hw).symm hP hS (lv_sub hl [1, 2] rfl)
      · replace h := (if_neg c6).symm.trans h
        refine lv_aload_n hx hb dX10_gives_8 rfl (lv_at hl 2 rfl) ?_
        refine lv_iload_n hx hb dX10_gives_9 rfl (lv_at hl 3 rfl) ?_
        refine lv_aload_n hx hb dX10_gives_10 rfl (lv_at hl 0 rfl) ?_
        refine bq_get (q0 := 0) S hK hP fl_X10_46_X10_20 rfl rfl rfl dX10_gives_11 ?_
        refine lv_iload_n hx hb dX10_gives_14 rfl (lv_at hl 1 rfl) ?_
        refine lv_iload_n hx hb dX10_gives_15 rfl (lv_at hl 3 rfl) ?_
        refine lv_iadd hx hb dX10_gives_16 ?_
        obtain ⟨g7, h⟩ := bq_gd h
        refine va_iald (D := D) hx hb hK hP 13 0 rfl rfl g7 dX10_gives_17 ?_
        obtain ⟨g9, h⟩ := bq_gd h
        obtain ⟨x8, hx8, h⟩ := bq_b h
        refine bq_iast (x1 := x8) (q0 := 1) (t0 := 0) S hK hD hP hS rfl rfl g9 (by rw [hx8]; rfl) dX10_gives_18 (fun H locs hP hS => ?_)
        obtain ⟨v10, hv10, h⟩ := bq_b h
        refine lv_iinc (v := v10) (lv' := [(3, .int v10), (0, .ref (a 0)), (1, .int v1), (2, .ref (a 1))]) hx hb dX10_gives_19 hl (k := 3) rfl (by rw [hv10]; rfl) (by decide) rfl (fun ls hl => ?_)
        refine lv_goto (tgt := 2) hx hb dX10_gives_22 (by decide) ?_
        cases h
        exact ih _ _ _ _ _ _ hw hP hS (lv_sub hl [1, 2, 3, 0] rfl) kx
  obtain ⟨e11, he11, h⟩ := Option.bind_eq_some_iff.mp h
  refine hl2 _ n _ _ e11 _ _ _ he11 hP hS (lv_sub hl [1, 2, 3, 0] rfl) (fun H locs ls v12 x13 hz hP hS hl => ?_)
  subst hz
  replace h := un2_e h
  refine lv_iload_n hx hb dX10_gives_25 rfl (lv_at hl 0 rfl) ?_
  refine lv_aload_n hx hb dX10_gives_26 rfl (lv_at hl 1 rfl) ?_
  refine va_alen (D := D) (v := (8 : Int32)) hx hb hK hP 1 0 rfl rfl rfl dX10_gives_27 ?_
  refine lv_iadd hx hb dX10_gives_28 ?_
  obtain ⟨e1, e2⟩ := Prod.mk.inj (hret _ h)
  exact hR _ _ _ _ _ (congrArg some e1) rfl (by rw [e2]; exact hP) hS dX10_gives_29
set_option maxHeartbeats 4000000 in
set_option maxRecDepth 100000 in
theorem cX10_gives_k_0_2 {l : Launch} {D : va_G} {a : Nat → Nat} {k : Nat → ClassId} {n : Nat} {p1 : Int32} {x0 xz : bq_S} {rz : Int32} (h : fX10_gives n p1 2 8 x0 = some (rz, xz)) : bq_M l D bq_cl (bq_ty k) (bq_wM a k) yX10_gives cX10_gives 4 (some .int) { frames := 0, cells := 0, slots := 0, locals := 0 } [.ref (a 0), .int p1, .ref (a 2)] x0 (some rz) xz := by
  refine bq_ofW RX10 [(0, .ref (a 0)), (1, .int p1), (2, .ref (a 2))] (by decide +kernel) rfl (Nat.le_of_ble_eq_true rfl) rfl (bq_adM a k) ?_
  intro p e s m below meth c A Q ls S hK hD hA hR hS hP hl
  have hx := S.1; have hb := S.2.1; have hml := S.2.2.1; have hown := S.2.2.2.1; have hts := S.2.2.2.2
  have hret : ∀ z, some z = some (rz, xz) → (rz, xz) = z := fun z h => (Option.some.inj h).symm
  unfold fX10_gives at h
  refine lv_iconst (v := (0 : Int32)) hx hb dX10_gives_0 (by decide) ?_
  refine lv_istore_n (lv' := [(3, .int (0 : Int32)), (0, .ref (a 0)), (1, .int p1), (2, .ref (a 2))]) hx hb dX10_gives_1 rfl hl (by decide) rfl (fun ls hl => ?_)
  have hl2 : ∀ (v1 : Int32) (kf : Nat) (v4 : Int32) (x5 : bq_S) (eo : Int32 × bq_S) (H : Heap) (locs : List Loc) (ls : Array Slot), wh kf (fX10_gives_b2 n v1 2 8) (v4, x5) = some eo → va_P D bq_cl (bq_wM a k x5) H → va_S A s.heap H locs → lv_has ls 4 [(0, .ref (a 0)), (1, .int v1), (2, .ref (a 2)), (3, .int v4)] → (∀ (H : Heap) (locs : List Loc) (ls : Array Slot) (v12 : Int32) (x13 : bq_S), eo = (v12, x13) → va_P D bq_cl (bq_wM a k x13) H → va_S A s.heap H locs → lv_has ls 4 [(1, .int v1), (2, .ref (a 2))] → W p l e { frames := 0, cells := 0, slots := 0, locals := 0 } s m [.ref (a 0), .int p1, .ref (a 2)].toArray below meth c H locs 0 0 Q (F0 m 25 ls [])) → W p l e { frames := 0, cells := 0, slots := 0, locals := 0 } s m [.ref (a 0), .int p1, .ref (a 2)].toArray below meth c H locs 0 0 Q (F0 m 2 ls []) := by
    intro v1 kf
    induction kf with
    | zero => intro v4 x5 eo H locs ls h; cases h
    | succ kf ih =>
      intro v4 x5 eo H locs ls h hP hS hl kx
      obtain ⟨out, h, hw⟩ := wh_s h
      unfold fX10_gives_b2 at h
      replace h := un2_e h
      refine lv_iload_n hx hb dX10_gives_2 rfl (lv_at hl 3 rfl) ?_
      refine lv_aload_n hx hb dX10_gives_3 rfl (lv_at hl 2 rfl) ?_
      refine va_alen (D := D) (v := (8 : Int32)) hx hb hK hP 2 0 rfl rfl rfl dX10_gives_4 ?_
      refine lv_icmp_ge (tgt := 25) hx hb dX10_gives_5 (by decide) (fun c6 => ?_) (fun c6 => ?_)
      · replace h := (if_pos c6).symm.trans h
        cases h
        exact kx _ _ _ _ _ (Option.some.inj hw).symm hP hS (lv_sub hl [1, 2] rfl)
      · replace h := (if_neg c6).symm.trans h
        refine lv_aload_n hx hb dX10_gives_8 rfl (lv_at hl 2 rfl) ?_
        refine lv_iload_n hx hb dX10_gives_9 rfl (lv_at hl 3 rfl) ?_
        refine lv_aload_n hx hb dX10_gives_10 rfl (lv_at hl 0 rfl) ?_
        refine bq_get (q0 := 0) S hK hP fl_X10_46_X10_20 rfl rfl rfl dX10_gives_11 ?_
        refine lv_iload_n hx hb dX10_gives_14 rfl (lv_at hl 1 rfl) ?_
        refine lv_iload_n hx hb dX10_gives_15 rfl (lv_at hl 3 rfl) ?_
        refine lv_iadd hx hb dX10_gives_16 ?_
        obtain ⟨g7, h⟩ := bq_gd h
        refine va_iald (D := D) hx hb hK hP 13 0 rfl rfl g7 dX10_gives_17 ?_
        obtain ⟨g9, h⟩ := bq_gd h
        obtain ⟨x8, hx8, h⟩ := bq_b h
        refine bq_iast (x1 := x8) (q0 := 2) (t0 := 0) S hK hD hP hS rfl rfl g9 (by rw [hx8]; rfl) dX10_gives_18 (fun H locs hP hS => ?_)
        obtain ⟨v10, hv10, h⟩ := bq_b h
        refine lv_iinc (v := v10) (lv' := [(3, .int v10), (0, .ref (a 0)), (1, .int v1), (2, .ref (a 2))]) hx hb dX10_gives_19 hl (k := 3) rfl (by rw [hv10]; rfl) (by decide) rfl (fun ls hl => ?_)
        refine lv_goto (tgt := 2) hx hb dX10_gives_22 (by decide) ?_
        cases h
        exact ih _ _ _ _ _ _ hw hP hS (lv_sub hl [1, 2, 3, 0] rfl) kx
  obtain ⟨e11, he11, h⟩ := Option.bind_eq_some_iff.mp h
  refine hl2 _ n _ _ e11 _ _ _ he11 hP hS (lv_sub hl [1, 2, 3, 0] rfl) (fun H locs ls v12 x13 hz hP hS hl => ?_)
  subst hz
  replace h := un2_e h
  refine lv_iload_n hx hb dX10_gives_25 rfl (lv_at hl 0 rfl) ?_
  refine lv_aload_n hx hb dX10_gives_26 rfl (lv_at hl 1 rfl) ?_
  refine va_alen (D := D) (v := (8 : Int32)) hx hb hK hP 2 0 rfl rfl rfl dX10_gives_27 ?_
  refine lv_iadd hx hb dX10_gives_28 ?_
  obtain ⟨e1, e2⟩ := Prod.mk.inj (hret _ h)
  exact hR _ _ _ _ _ (congrArg some e1) rfl (by rw [e2]; exact hP) hS dX10_gives_29
set_option maxHeartbeats 4000000 in
set_option maxRecDepth 100000 in
theorem cX10_gives_k_0_3 {l : Launch} {D : va_G} {a : Nat → Nat} {k : Nat → ClassId} {n : Nat} {p1 : Int32} {x0 xz : bq_S} {rz : Int32} (h : fX10_gives n p1 3 8 x0 = some (rz, xz)) : bq_M l D bq_cl (bq_ty k) (bq_wM a k) yX10_gives cX10_gives 4 (some .int) { frames := 0, cells := 0, slots := 0, locals := 0 } [.ref (a 0), .int p1, .ref (a 3)] x0 (some rz) xz := by
  refine bq_ofW RX10 [(0, .ref (a 0)), (1, .int p1), (2, .ref (a 3))] (by decide +kernel) rfl (Nat.le_of_ble_eq_true rfl) rfl (bq_adM a k) ?_
  intro p e s m below meth c A Q ls S hK hD hA hR hS hP hl
  have hx := S.1; have hb := S.2.1; have hml := S.2.2.1; have hown := S.2.2.2.1; have hts := S.2.2.2.2
  have hret : ∀ z, some z = some (rz, xz) → (rz, xz) = z := fun z h => (Option.some.inj h).symm
  unfold fX10_gives at h
  refine lv_iconst (v := (0 : Int32)) hx hb dX10_gives_0 (by decide) ?_
  refine lv_istore_n (lv' := [(3, .int (0 : Int32)), (0, .ref (a 0)), (1, .int p1), (2, .ref (a 3))]) hx hb dX10_gives_1 rfl hl (by decide) rfl (fun ls hl => ?_)
  have hl2 : ∀ (v1 : Int32) (kf : Nat) (v4 : Int32) (x5 : bq_S) (eo : Int32 × bq_S) (H : Heap) (locs : List Loc) (ls : Array Slot), wh kf (fX10_gives_b2 n v1 3 8) (v4, x5) = some eo → va_P D bq_cl (bq_wM a k x5) H → va_S A s.heap H locs → lv_has ls 4 [(0, .ref (a 0)), (1, .int v1), (2, .ref (a 3)), (3, .int v4)] → (∀ (H : Heap) (locs : List Loc) (ls : Array Slot) (v12 : Int32) (x13 : bq_S), eo = (v12, x13) → va_P D bq_cl (bq_wM a k x13) H → va_S A s.heap H locs → lv_has ls 4 [(1, .int v1), (2, .ref (a 3))] → W p l e { frames := 0, cells := 0, slots := 0, locals := 0 } s m [.ref (a 0), .int p1, .ref (a 3)].toArray below meth c H locs 0 0 Q (F0 m 25 ls [])) → W p l e { frames := 0, cells := 0, slots := 0, locals := 0 } s m [.ref (a 0), .int p1, .ref (a 3)].toArray below meth c H locs 0 0 Q (F0 m 2 ls []) := by
    intro v1 kf
    induction kf with
    | zero => intro v4 x5 eo H locs ls h; cases h
    | succ kf ih =>
      intro v4 x5 eo H locs ls h hP hS hl kx
      obtain ⟨out, h, hw⟩ := wh_s h
      unfold fX10_gives_b2 at h
      replace h := un2_e h
      refine lv_iload_n hx hb dX10_gives_2 rfl (lv_at hl 3 rfl) ?_
      refine lv_aload_n hx hb dX10_gives_3 rfl (lv_at hl 2 rfl) ?_
      refine va_alen (D := D) (v := (8 : Int32)) hx hb hK hP 3 0 rfl rfl rfl dX10_gives_4 ?_
      refine lv_icmp_ge (tgt := 25) hx hb dX10_gives_5 (by decide) (fun c6 => ?_) (fun c6 => ?_)
      · replace h := (if_pos c6).symm.trans h
        cases h
        exact kx _ _ _ _ _ (Option.some.inj hw).symm hP hS (lv_sub hl [1, 2] rfl)
      · replace h := (if_neg c6).symm.trans h
        refine lv_aload_n hx hb dX10_gives_8 rfl (lv_at hl 2 rfl) ?_
        refine lv_iload_n hx hb dX10_gives_9 rfl (lv_at hl 3 rfl) ?_
        refine lv_aload_n hx hb dX10_gives_10 rfl (lv_at hl 0 rfl) ?_
        refine bq_get (q0 := 0) S hK hP fl_X10_46_X10_20 rfl rfl rfl dX10_gives_11 ?_
        refine lv_iload_n hx hb dX10_gives_14 rfl (lv_at hl 1 rfl) ?_
        refine lv_iload_n hx hb dX10_gives_15 rfl (lv_at hl 3 rfl) ?_
        refine lv_iadd hx hb dX10_gives_16 ?_
        obtain ⟨g7, h⟩ := bq_gd h
        refine va_iald (D := D) hx hb hK hP 13 0 rfl rfl g7 dX10_gives_17 ?_
        obtain ⟨g9, h⟩ := bq_gd h
        obtain ⟨x8, hx8, h⟩ := bq_b h
        refine bq_iast (x1 := x8) (q0 := 3) (t0 := 0) S hK hD hP hS rfl rfl g9 (by rw [hx8]; rfl) dX10_gives_18 (fun H locs hP hS => ?_)
        obtain ⟨v10, hv10, h⟩ := bq_b h
        refine lv_iinc (v := v10) (lv' := [(3, .int v10), (0, .ref (a 0)), (1, .int v1), (2, .ref (a 3))]) hx hb dX10_gives_19 hl (k := 3) rfl (by rw [hv10]; rfl) (by decide) rfl (fun ls hl => ?_)
        refine lv_goto (tgt := 2) hx hb dX10_gives_22 (by decide) ?_
        cases h
        exact ih _ _ _ _ _ _ hw hP hS (lv_sub hl [1, 2, 3, 0] rfl) kx
  obtain ⟨e11, he11, h⟩ := Option.bind_eq_some_iff.mp h
  refine hl2 _ n _ _ e11 _ _ _ he11 hP hS (lv_sub hl [1, 2, 3, 0] rfl) (fun H locs ls v12 x13 hz hP hS hl => ?_)
  subst hz
  replace h := un2_e h
  refine lv_iload_n hx hb dX10_gives_25 rfl (lv_at hl 0 rfl) ?_
  refine lv_aload_n hx hb dX10_gives_26 rfl (lv_at hl 1 rfl) ?_
  refine va_alen (D := D) (v := (8 : Int32)) hx hb hK hP 3 0 rfl rfl rfl dX10_gives_27 ?_
  refine lv_iadd hx hb dX10_gives_28 ?_
  obtain ⟨e1, e2⟩ := Prod.mk.inj (hret _ h)
  exact hR _ _ _ _ _ (congrArg some e1) rfl (by rw [e2]; exact hP) hS dX10_gives_29
set_option maxHeartbeats 4000000 in
set_option maxRecDepth 100000 in
theorem cX10_gives_k_0_4 {l : Launch} {D : va_G} {a : Nat → Nat} {k : Nat → ClassId} {n : Nat} {p1 : Int32} {x0 xz : bq_S} {rz : Int32} (h : fX10_gives n p1 4 2 x0 = some (rz, xz)) : bq_M l D bq_cl (bq_ty k) (bq_wM a k) yX10_gives cX10_gives 4 (some .int) { frames := 0, cells := 0, slots := 0, locals := 0 } [.ref (a 0), .int p1, .ref (a 4)] x0 (some rz) xz := by
  refine bq_ofW RX10 [(0, .ref (a 0)), (1, .int p1), (2, .ref (a 4))] (by decide +kernel) rfl (Nat.le_of_ble_eq_true rfl) rfl (bq_adM a k) ?_
  intro p e s m below meth c A Q ls S hK hD hA hR hS hP hl
  have hx := S.1; have hb := S.2.1; have hml := S.2.2.1; have hown := S.2.2.2.1; have hts := S.2.2.2.2
  have hret : ∀ z, some z = some (rz, xz) → (rz, xz) = z := fun z h => (Option.some.inj h).symm
  unfold fX10_gives at h
  refine lv_iconst (v := (0 : Int32)) hx hb dX10_gives_0 (by decide) ?_
  refine lv_istore_n (lv' := [(3, .int (0 : Int32)), (0, .ref (a 0)), (1, .int p1), (2, .ref (a 4))]) hx hb dX10_gives_1 rfl hl (by decide) rfl (fun ls hl => ?_)
  have hl2 : ∀ (v1 : Int32) (kf : Nat) (v4 : Int32) (x5 : bq_S) (eo : Int32 × bq_S) (H : Heap) (locs : List Loc) (ls : Array Slot), wh kf (fX10_gives_b2 n v1 4 2) (v4, x5) = some eo → va_P D bq_cl (bq_wM a k x5) H → va_S A s.heap H locs → lv_has ls 4 [(0, .ref (a 0)), (1, .int v1), (2, .ref (a 4)), (3, .int v4)] → (∀ (H : Heap) (locs : List Loc) (ls : Array Slot) (v12 : Int32) (x13 : bq_S), eo = (v12, x13) → va_P D bq_cl (bq_wM a k x13) H → va_S A s.heap H locs → lv_has ls 4 [(1, .int v1), (2, .ref (a 4))] → W p l e { frames := 0, cells := 0, slots := 0, locals := 0 } s m [.ref (a 0), .int p1, .ref (a 4)].toArray below meth c H locs 0 0 Q (F0 m 25 ls [])) → W p l e { frames := 0, cells := 0, slots := 0, locals := 0 } s m [.ref (a 0), .int p1, .ref (a 4)].toArray below meth c H locs 0 0 Q (F0 m 2 ls []) := by
    intro v1 kf
    induction kf with
    | zero => intro v4 x5 eo H locs ls h; cases h
    | succ kf ih =>
      intro v4 x5 eo H locs ls h hP hS hl kx
      obtain ⟨out, h, hw⟩ := wh_s h
      unfold fX10_gives_b2 at h
      replace h := un2_e h
      refine lv_iload_n hx hb dX10_gives_2 rfl (lv_at hl 3 rfl) ?_
      refine lv_aload_n hx hb dX10_gives_3 rfl (lv_at hl 2 rfl) ?_
      refine va_alen (D := D) (v := (2 : Int32)) hx hb hK hP 4 0 rfl rfl rfl dX10_gives_4 ?_
      refine lv_icmp_ge (tgt := 25) hx hb dX10_gives_5 (by decide) (fun c6 => ?_) (fun c6 => ?_)
      · replace h := (if_pos c6).symm.trans h
        cases h
        exact kx _ _ _ _ _ (Option.some.inj hw).symm hP hS (lv_sub hl [1, 2] rfl)
      · replace h := (if_neg c6).symm.trans h
        refine lv_aload_n hx hb dX10_gives_8 rfl (lv_at hl 2 rfl) ?_
        refine lv_iload_n hx hb dX10_gives_9 rfl (lv_at hl 3 rfl) ?_
        refine lv_aload_n hx hb dX10_gives_10 rfl (lv_at hl 0 rfl) ?_
        refine bq_get (q0 := 0) S hK hP fl_X10_46_X10_20 rfl rfl rfl dX10_gives_11 ?_
        refine lv_iload_n hx hb dX10_gives_14 rfl (lv_at hl 1 rfl) ?_
        refine lv_iload_n hx hb dX10_gives_15 rfl (lv_at hl 3 rfl) ?_
        refine lv_iadd hx hb dX10_gives_16 ?_
        obtain ⟨g7, h⟩ := bq_gd h
        refine va_iald (D := D) hx hb hK hP 13 0 rfl rfl g7 dX10_gives_17 ?_
        obtain ⟨g9, h⟩ := bq_gd h
        obtain ⟨x8, hx8, h⟩ := bq_b h
        refine bq_iast (x1 := x8) (q0 := 4) (t0 := 0) S hK hD hP hS rfl rfl g9 (by rw [hx8]; rfl) dX10_gives_18 (fun H locs hP hS => ?_)
        obtain ⟨v10, hv10, h⟩ := bq_b h
        refine lv_iinc (v := v10) (lv' := [(3, .int v10), (0, .ref (a 0)), (1, .int v1), (2, .ref (a 4))]) hx hb dX10_gives_19 hl (k := 3) rfl (by rw [hv10]; rfl) (by decide) rfl (fun ls hl => ?_)
        refine lv_goto (tgt := 2) hx hb dX10_gives_22 (by decide) ?_
        cases h
        exact ih _ _ _ _ _ _ hw hP hS (lv_sub hl [1, 2, 3, 0] rfl) kx
  obtain ⟨e11, he11, h⟩ := Option.bind_eq_some_iff.mp h
  refine hl2 _ n _ _ e11 _ _ _ he11 hP hS (lv_sub hl [1, 2, 3, 0] rfl) (fun H locs ls v12 x13 hz hP hS hl => ?_)
  subst hz
  replace h := un2_e h
  refine lv_iload_n hx hb dX10_gives_25 rfl (lv_at hl 0 rfl) ?_
  refine lv_aload_n hx hb dX10_gives_26 rfl (lv_at hl 1 rfl) ?_
  refine va_alen (D := D) (v := (2 : Int32)) hx hb hK hP 4 0 rfl rfl rfl dX10_gives_27 ?_
  refine lv_iadd hx hb dX10_gives_28 ?_
  obtain ⟨e1, e2⟩ := Prod.mk.inj (hret _ h)
  exact hR _ _ _ _ _ (congrArg some e1) rfl (by rw [e2]; exact hP) hS dX10_gives_29
set_option maxHeartbeats 4000000 in
set_option maxRecDepth 100000 in
theorem cX10_gives_k_0_5 {l : Launch} {D : va_G} {a : Nat → Nat} {k : Nat → ClassId} {n : Nat} {p1 : Int32} {x0 xz : bq_S} {rz : Int32} (h : fX10_gives n p1 5 8 x0 = some (rz, xz)) : bq_M l D bq_cl (bq_ty k) (bq_wM a k) yX10_gives cX10_gives 4 (some .int) { frames := 0, cells := 0, slots := 0, locals := 0 } [.ref (a 0), .int p1, .ref (a 5)] x0 (some rz) xz := by
  refine bq_ofW RX10 [(0, .ref (a 0)), (1, .int p1), (2, .ref (a 5))] (by decide +kernel) rfl (Nat.le_of_ble_eq_true rfl) rfl (bq_adM a k) ?_
  intro p e s m below meth c A Q ls S hK hD hA hR hS hP hl
  have hx := S.1; have hb := S.2.1; have hml := S.2.2.1; have hown := S.2.2.2.1; have hts := S.2.2.2.2
  have hret : ∀ z, some z = some (rz, xz) → (rz, xz) = z := fun z h => (Option.some.inj h).symm
  unfold fX10_gives at h
  refine lv_iconst (v := (0 : Int32)) hx hb dX10_gives_0 (by decide) ?_
  refine lv_istore_n (lv' := [(3, .int (0 : Int32)), (0, .ref (a 0)), (1, .int p1), (2, .ref (a 5))]) hx hb dX10_gives_1 rfl hl (by decide) rfl (fun ls hl => ?_)
  have hl2 : ∀ (v1 : Int32) (kf : Nat) (v4 : Int32) (x5 : bq_S) (eo : Int32 × bq_S) (H : Heap) (locs : List Loc) (ls : Array Slot), wh kf (fX10_gives_b2 n v1 5 8) (v4, x5) = some eo → va_P D bq_cl (bq_wM a k x5) H → va_S A s.heap H locs → lv_has ls 4 [(0, .ref (a 0)), (1, .int v1), (2, .ref (a 5)), (3, .int v4)] → (∀ (H : Heap) (locs : List Loc) (ls : Array Slot) (v12 : Int32) (x13 : bq_S), eo = (v12, x13) → va_P D bq_cl (bq_wM a k x13) H → va_S A s.heap H locs → lv_has ls 4 [(1, .int v1), (2, .ref (a 5))] → W p l e { frames := 0, cells := 0, slots := 0, locals := 0 } s m [.ref (a 0), .int p1, .ref (a 5)].toArray below meth c H locs 0 0 Q (F0 m 25 ls [])) → W p l e { frames := 0, cells := 0, slots := 0, locals := 0 } s m [.ref (a 0), .int p1, .ref (a 5)].toArray below meth c H locs 0 0 Q (F0 m 2 ls []) := by
    intro v1 kf
    induction kf with
    | zero => intro v4 x5 eo H locs ls h; cases h
    | succ kf ih =>
      intro v4 x5 eo H locs ls h hP hS hl kx
      obtain ⟨out, h, hw⟩ := wh_s h
      unfold fX10_gives_b2 at h
      replace h := un2_e h
      refine lv_iload_n hx hb dX10_gives_2 rfl (lv_at hl 3 rfl) ?_
      refine lv_aload_n hx hb dX10_gives_3 rfl (lv_at hl 2 rfl) ?_
      refine va_alen (D := D) (v := (8 : Int32)) hx hb hK hP 5 0 rfl rfl rfl dX10_gives_4 ?_
      refine lv_icmp_ge (tgt := 25) hx hb dX10_gives_5 (by decide) (fun c6 => ?_) (fun c6 => ?_)
      · replace h := (if_pos c6).symm.trans h
        cases h
        exact kx _ _ _ _ _ (Option.some.inj hw).symm hP hS (lv_sub hl [1, 2] rfl)
      · replace h := (if_neg c6).symm.trans h
        refine lv_aload_n hx hb dX10_gives_8 rfl (lv_at hl 2 rfl) ?_
        refine lv_iload_n hx hb dX10_gives_9 rfl (lv_at hl 3 rfl) ?_
        refine lv_aload_n hx hb dX10_gives_10 rfl (lv_at hl 0 rfl) ?_
        refine bq_get (q0 := 0) S hK hP fl_X10_46_X10_20 rfl rfl rfl dX10_gives_11 ?_
        refine lv_iload_n hx hb dX10_gives_14 rfl (lv_at hl 1 rfl) ?_
        refine lv_iload_n hx hb dX10_gives_15 rfl (lv_at hl 3 rfl) ?_
        refine lv_iadd hx hb dX10_gives_16 ?_
        obtain ⟨g7, h⟩ := bq_gd h
        refine va_iald (D := D) hx hb hK hP 13 0 rfl rfl g7 dX10_gives_17 ?_
        obtain ⟨g9, h⟩ := bq_gd h
        obtain ⟨x8, hx8, h⟩ := bq_b h
        refine bq_iast (x1 := x8) (q0 := 5) (t0 := 0) S hK hD hP hS rfl rfl g9 (by rw [hx8]; rfl) dX10_gives_18 (fun H locs hP hS => ?_)
        obtain ⟨v10, hv10, h⟩ := bq_b h
        refine lv_iinc (v := v10) (lv' := [(3, .int v10), (0, .ref (a 0)), (1, .int v1), (2, .ref (a 5))]) hx hb dX10_gives_19 hl (k := 3) rfl (by rw [hv10]; rfl) (by decide) rfl (fun ls hl => ?_)
        refine lv_goto (tgt := 2) hx hb dX10_gives_22 (by decide) ?_
        cases h
        exact ih _ _ _ _ _ _ hw hP hS (lv_sub hl [1, 2, 3, 0] rfl) kx
  obtain ⟨e11, he11, h⟩ := Option.bind_eq_some_iff.mp h
  refine hl2 _ n _ _ e11 _ _ _ he11 hP hS (lv_sub hl [1, 2, 3, 0] rfl) (fun H locs ls v12 x13 hz hP hS hl => ?_)
  subst hz
  replace h := un2_e h
  refine lv_iload_n hx hb dX10_gives_25 rfl (lv_at hl 0 rfl) ?_
  refine lv_aload_n hx hb dX10_gives_26 rfl (lv_at hl 1 rfl) ?_
  refine va_alen (D := D) (v := (8 : Int32)) hx hb hK hP 5 0 rfl rfl rfl dX10_gives_27 ?_
  refine lv_iadd hx hb dX10_gives_28 ?_
  obtain ⟨e1, e2⟩ := Prod.mk.inj (hret _ h)
  exact hR _ _ _ _ _ (congrArg some e1) rfl (by rw [e2]; exact hP) hS dX10_gives_29
