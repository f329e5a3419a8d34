theorem bq_l6 {L j : Nat} (hL : L ≤ 3072) (hj : j ≤ L) (h : ¬ nI L - 6 < nI j) : j + 6 ≤ L := by
  rcases Nat.lt_or_ge L 6 with h6 | h6
  · exfalso
    apply h
    have h1 : ∀ L : Fin 6, ∀ j : Fin 6, nI L.val - 6 < nI j.val := by decide
    exact h1 ⟨L, h6⟩ ⟨j, by omega⟩
  · have e : nI L - 6 = nI (L - 6) := by
      have h2 : nI (L - 6) + nI 6 = nI L := by rw [nI_add]; congr 1; omega
      rw [← h2]
      show nI (L - 6) + 6 - 6 = nI (L - 6)
      exact Int32.add_sub_cancel _ _
    rw [e] at h
    rcases Nat.lt_or_ge (L - 6) j with h3 | h3
    · exact absurd (nI_lt h3 (by omega)) h
    · omega
/-- the three words more -/
theorem bq_words {args : Array Value} {s : State} (hts : ∀ w ∈ lw_tbl, w.before args s = true) : ∀ w ∈ bq_L, w.before args s = true := by
  intro w hw
  rcases List.mem_append.mp (List.mem_filter.mp hw).1 with h | h
  · have hp : (Cond.privateMethod yX8_ofLonger).before args s = true := hts _ (List.mem_of_getElem? (i := 592) (by decide +kernel))
    have hi : (Cond.instanceMethod yX8_ofLonger).before args s = true := hts _ (List.mem_of_getElem? (i := 593) (by decide +kernel))
    have hs : (Cond.sameMethod yX8_ofLonger.cls yX8_ofLonger.cls yX8_ofLonger.name yX8_ofLonger.desc).before args s = true := hts _ (List.mem_of_getElem? (i := 1195) (by decide +kernel))
    have hy : yX8_ofLonger.cls ≠ "java/lang/invoke/MethodHandle" ∧ yX8_ofLonger.cls ≠ "java/lang/invoke/VarHandle" := by decide +kernel
    rcases List.mem_cons.mp h with rfl | h
    · exact bq_selp hy (hts (.instantiable RX0 9) (List.mem_of_getElem? (i := 139) (by decide +kernel))) hp hi hs
    rcases List.mem_cons.mp h with rfl | h
    · exact bq_selp hy (hts (.instantiable RX2 6) (List.mem_of_getElem? (i := 204) (by decide +kernel))) hp hi hs
    rcases List.mem_cons.mp h with rfl | h
    · exact bq_selp hy (hts (.instantiable RX3 7) (List.mem_of_getElem? (i := 217) (by decide +kernel))) hp hi hs
    · exact absurd h List.not_mem_nil
  · exact hts w h
set_option maxHeartbeats 8000000 in
set_option maxRecDepth 100000 in
theorem law_loop {p : Program} {e : Env} {s : State} {m : MethodId} {below : List Frame} {meth : Method} {c : Code} {l : Launch} {b L : Nat} {xs : Nat → Int32} {D : va_G} {k : Nat → ClassId} {a a' : Nat → Nat} {Rl : bq_S → bq_S → Prop} {n : Nat} (hst : bq_steps Rl n) (hL : L ≤ 3072) (C0 : lw_At p s m meth c b L xs) (hK : va_K D bq_cl (bq_ty k) s) :
    ∀ (f j : Nat) (x y : bq_S), j ≤ L → L - j < f → Rl x y → ∀ (H : Heap) (locs : List Loc) (ls : Array Slot), va_P D bq_cl (bq_wC a k x ++ bq_wM a' k y) H → va_D (fun q : Nat => s.heap.size ≤ q) (bq_wC a k x ++ bq_wM a' k y) → va_S (fun q : Nat => s.heap.size ≤ q) s.heap H locs → lv_has ls 4 [(0, .ref b), (1, .ref (a 0)), (2, .ref (a' 0)), (3, .int (nI j))] →
      W p l e room_1 s m #[Value.ref b] below meth c H locs 61 2788 (lw_Z below #[Value.ref b] s) (F0 m 18 ls []) := by
  obtain ⟨hx, hb, hr, hml, hown, hts, hX, hbl, hlocks, hgv⟩ := id C0
  have hA : ∀ q : Nat, s.heap.size ≤ q → (fun q : Nat => s.heap.size ≤ q) q := fun _ h => h
  have hbA : ¬ (fun q : Nat => s.heap.size ≤ q) b := Nat.not_le.mpr hbl
  have S : CallFix p m c code 4 s #[Value.ref b] bq_L R_law := ⟨hx, hb, hml, hown, bq_words hts⟩
  intro f
  induction f with
  | zero => intro j x y h1 h2; omega
  | succ f ih =>
    intro j x y hj hf hrel H locs ls hP hD hS hl
    refine lv_iload_n hx hb dL_law_18 rfl (lv_at hl 3 rfl) ?_
    refine lv_aload_n hx hb dL_law_19 rfl (lv_at hl 0 rfl) ?_
    refine va_slen hx hb hX hbl hbA hS dL_law_20 ?_
    refine lv_bipush (v := (6 : Int32)) hx hb dL_law_21 (by decide) ?_
    refine lv_isub hx hb dL_law_23 ?_
    refine lv_icmp_gt (tgt := 1252) hx hb dL_law_24 (by decide) (fun c9 => ?_) (fun c9 => ?_)
    · refine lv_iconst (v := (1 : Int32)) hx hb dL_law_1252 (by decide) ?_
      refine va_forget (fun q hq => hS.2.2 q hq) ?_
      refine W.widen (k := 600000) (n := 7302250) (by decide) (by decide) ?_
      exact lw_ret hx hb hr hlocks dL_law_1253
    have hj6 : j + 6 ≤ L := bq_l6 hL hj c9
    have h6 : ∀ t : Nat, 0 < t → t < 6 → vp_in (nI j + Int32.ofNat t) L := fun t h1 h2 => by
      show vp_in (nI j + nI t) L
      rw [nI_add]; exact vp_in_nI (by omega) (by omega)
    have h60 : vp_in (nI j) L := vp_in_nI (by omega) (by omega)
    have htail : ∀ (x2 y2 : bq_S), Rl x2 y2 → ∀ (H : Heap) (locs : List Loc) (ls : Array Slot), va_P D bq_cl (bq_wC a k x2 ++ bq_wM a' k y2) H → va_D (fun q : Nat => s.heap.size ≤ q) (bq_wC a k x2 ++ bq_wM a' k y2) → va_S (fun q : Nat => s.heap.size ≤ q) s.heap H locs → lv_has ls 4 [(0, .ref b), (1, .ref (a 0)), (2, .ref (a' 0)), (3, .int (nI j))] →
      W p l e room_1 s m #[Value.ref b] below meth c H locs 61 2788 (lw_Z below #[Value.ref b] s) (F0 m 1246 ls []) := by
      intro x2 y2 hrel H locs ls hP hD hS hl
      refine lv_iinc (v := nI (j + 6)) (lv' := [(3, .int (nI (j + 6))), (0, .ref b), (1, .ref (a 0)), (2, .ref (a' 0))]) hx hb dL_law_1246 hl (k := 3) rfl (by show nI j + nI 6 = nI (j + 6); exact nI_add j 6) (by decide) rfl (fun ls hl => ?_)
      refine lv_goto (tgt := 18) hx hb dL_law_1249 (by decide) ?_
      exact ih (j + 6) x2 y2 hj6 (by omega) hrel H locs ls hP hD hS (lv_sub hl [1, 2, 3, 0] rfl)
    refine lv_aload_n hx hb dL_law_27 rfl (lv_at hl 0 rfl) ?_
    refine lv_iload_n hx hb dL_law_28 rfl (lv_at hl 3 rfl) ?_
    refine va_sld hx hb hX hbl hbA hS h60 dL_law_29 ?_
    refine lv_bipush (v := (31 : Int32)) hx hb dL_law_30 (by decide) ?_
    refine lv_iand hx hb dL_law_32 ?_
    refine lv_topi (fun v hv => ?_)
    by_cases c0 : v = (0 : Int32)
    · refine lv_tableIn (off := 135) (tgt := 168) hx hb dL_law_33 (by rw [c0]; decide) (by rw [c0]; decide) (by rw [c0]; rfl) (by decide) ?_
      refine lv_aload_n hx hb dL_law_168 rfl (lv_at hl 1 rfl) ?_
      refine lv_aload_n hx hb dL_law_169 rfl (lv_at hl 0 rfl) ?_
      refine lv_iload_n hx hb dL_law_170 rfl (lv_at hl 3 rfl) ?_
      refine lv_iconst (v := (1 : Int32)) hx hb dL_law_171 (by decide) ?_
      refine lv_iadd hx hb dL_law_172 ?_
      refine va_sld hx hb hX hbl hbA hS (h6 1 (by decide) (by decide)) dL_law_173 ?_
      refine lv_topi (fun p0_1 hp0_1 => ?_)
      obtain ⟨r2, x2, y2, h1, h2, hrel⟩ := hst.1 x y hrel p0_1
      refine bq_callL (wc := (bq_wC a k)) (wr := (bq_wM a' k y)) (q0 := 0) (As := [.int p0_1]) S hK hD hA hP hS (cX9_book_k_0 h1) hd_yX9_book ml_L_13 in_yX9_book (S.2.2.2.2 _ sl_X9_X9_yX9_book) ⟨rfl, rfl⟩ ⟨by decide, by decide⟩ rfl rfl rfl hl.1 rfl (Nat.le_of_ble_eq_true rfl) ⟨by decide, by decide⟩ dL_law_174 (bq_adC a k) (fun H locs hP hD hS => ?_)
      refine lv_aload_n hx hb dL_law_177 rfl (lv_at hl 2 rfl) ?_
      refine lv_aload_n hx hb dL_law_178 rfl (lv_at hl 0 rfl) ?_
      refine lv_iload_n hx hb dL_law_179 rfl (lv_at hl 3 rfl) ?_
      refine lv_iconst (v := (1 : Int32)) hx hb dL_law_180 (by decide) ?_
      refine lv_iadd hx hb dL_law_181 ?_
      refine va_sld hx hb hX hbl hbA hS (h6 1 (by decide) (by decide)) dL_law_182 ?_
      refine lv_topi (fun p1_1 hp1_1 => ?_)
      obtain rfl : p1_1 = p0_1 := hp1_1.trans hp0_1.symm
      refine bq_callL (wc := (bq_wM a' k)) (wr := (bq_wC a k x2)) (q0 := 0) (As := [.int p1_1]) S hK hD hA hP hS (cX10_book_k_0 h2) hd_yX10_book ml_L_17 in_yX10_book (S.2.2.2.2 _ sl_X10_X10_yX10_book) ⟨rfl, rfl⟩ ⟨by decide, by decide⟩ rfl rfl rfl hl.1 rfl (Nat.le_of_ble_eq_true rfl) ⟨by decide, by decide⟩ dL_law_183 (bq_adM a' k) (fun H locs hP hD hS => ?_)
      refine lv_icmp_eq (tgt := 1246) hx hb dL_law_186 (by decide) (fun _ => ?_) (fun cc => absurd rfl cc)
      exact htail x2 y2 hrel H locs ls hP hD hS hl
    by_cases c1 : v = (1 : Int32)
    · refine lv_tableIn (off := 158) (tgt := 191) hx hb dL_law_33 (by rw [c1]; decide) (by rw [c1]; decide) (by rw [c1]; rfl) (by decide) ?_
      refine lv_aload_n hx hb dL_law_191 rfl (lv_at hl 1 rfl) ?_
      refine lv_aload_n hx hb dL_law_192 rfl (lv_at hl 0 rfl) ?_
      refine lv_iload_n hx hb dL_law_193 rfl (lv_at hl 3 rfl) ?_
      refine lv_iconst (v := (1 : Int32)) hx hb dL_law_194 (by decide) ?_
      refine lv_iadd hx hb dL_law_195 ?_
      refine va_sld hx hb hX hbl hbA hS (h6 1 (by decide) (by decide)) dL_law_196 ?_
      refine lv_topi (fun p0_1 hp0_1 => ?_)
      refine lv_aload_n hx hb dL_law_197 rfl (lv_at hl 0 rfl) ?_
      refine lv_iload_n hx hb dL_law_198 rfl (lv_at hl 3 rfl) ?_
      refine lv_iconst (v := (2 : Int32)) hx hb dL_law_199 (by decide) ?_
      refine lv_iadd hx hb dL_law_200 ?_
      refine va_sld hx hb hX hbl hbA hS (h6 2 (by decide) (by decide)) dL_law_201 ?_
      refine lv_topi (fun p0_2 hp0_2 => ?_)
      refine lv_aload_n hx hb dL_law_202 rfl (lv_at hl 0 rfl) ?_
      refine lv_iload_n hx hb dL_law_203 rfl (lv_at hl 3 rfl) ?_
      refine lv_iconst (v := (3 : Int32)) hx hb dL_law_204 (by decide) ?_
      refine lv_iadd hx hb dL_law_205 ?_
      refine va_sld hx hb hX hbl hbA hS (h6 3 (by decide) (by decide)) dL_law_206 ?_
      refine lv_topi (fun p0_3 hp0_3 => ?_)
      refine lv_if_eq (tgt := 214) hx hb dL_law_207 (by decide) (fun cb => ?_) (fun cb => ?_)
      · refine lv_iconst (v := (0 : Int32)) hx hb dL_law_214 (by decide) ?_
        obtain ⟨r2, x2, y2, h1, h2, hrel⟩ := hst.2.1 x y hrel p0_1 p0_2 (0 : Int32)
        refine bq_callL (wc := (bq_wC a k)) (wr := (bq_wM a' k y)) (q0 := 0) (As := [.int p0_1, .int p0_2, .int (0 : Int32)]) S hK hD hA hP hS (cX9_quote_k_0 h1) hd_yX9_quote ml_L_18 in_yX9_quote (S.2.2.2.2 _ sl_X9_X9_yX9_quote) ⟨rfl, rfl⟩ ⟨by decide, by decide⟩ rfl rfl rfl hl.1 rfl (Nat.le_of_ble_eq_true rfl) ⟨by decide, by decide⟩ dL_law_215 (bq_adC a k) (fun H locs hP hD hS => ?_)
        refine lv_aload_n hx hb dL_law_218 rfl (lv_at hl 2 rfl) ?_
        refine lv_aload_n hx hb dL_law_219 rfl (lv_at hl 0 rfl) ?_
        refine lv_iload_n hx hb dL_law_220 rfl (lv_at hl 3 rfl) ?_
        refine lv_iconst (v := (1 : Int32)) hx hb dL_law_221 (by decide) ?_
        refine lv_iadd hx hb dL_law_222 ?_
        refine va_sld hx hb hX hbl hbA hS (h6 1 (by decide) (by decide)) dL_law_223 ?_
        refine lv_topi (fun p1_1 hp1_1 => ?_)
        obtain rfl : p1_1 = p0_1 := hp1_1.trans hp0_1.symm
        refine lv_aload_n hx hb dL_law_224 rfl (lv_at hl 0 rfl) ?_
        refine lv_iload_n hx hb dL_law_225 rfl (lv_at hl 3 rfl) ?_
        refine lv_iconst (v := (2 : Int32)) hx hb dL_law_226 (by decide) ?_
        refine lv_iadd hx hb dL_law_227 ?_
        refine va_sld hx hb hX hbl hbA hS (h6 2 (by decide) (by decide)) dL_law_228 ?_
        refine lv_topi (fun p1_2 hp1_2 => ?_)
        obtain rfl : p1_2 = p0_2 := hp1_2.trans hp0_2.symm
        refine lv_aload_n hx hb dL_law_229 rfl (lv_at hl 0 rfl) ?_
        refine lv_iload_n hx hb dL_law_230 rfl (lv_at hl 3 rfl) ?_
        refine lv_iconst (v := (3 : Int32)) hx hb dL_law_231 (by decide) ?_
        refine lv_iadd hx hb dL_law_232 ?_
        refine va_sld hx hb hX hbl hbA hS (h6 3 (by decide) (by decide)) dL_law_233 ?_
        refine lv_topi (fun p1_3 hp1_3 => ?_)
        obtain rfl : p1_3 = p0_3 := hp1_3.trans hp0_3.symm
        refine lv_if_eq (tgt := 241) hx hb dL_law_234 (by decide) (fun _ => ?_) (fun cc => absurd cb cc)
        refine lv_iconst (v := (0 : Int32)) hx hb dL_law_241 (by decide) ?_
        refine bq_callL (wc := (bq_wM a' k)) (wr := (bq_wC a k x2)) (q0 := 0) (As := [.int p1_1, .int p1_2, .int (0 : Int32)]) S hK hD hA hP hS (cX10_quote_k_0 h2) hd_yX10_quote ml_L_22 in_yX10_quote (S.2.2.2.2 _ sl_X10_X10_yX10_quote) ⟨rfl, rfl⟩ ⟨by decide, by decide⟩ rfl rfl rfl hl.1 rfl (Nat.le_of_ble_eq_true rfl) ⟨by decide, by decide⟩ dL_law_242 (bq_adM a' k) (fun H locs hP hD hS => ?_)
        refine lv_icmp_eq (tgt := 1246) hx hb dL_law_245 (by decide) (fun _ => ?_) (fun cc => absurd rfl cc)
        exact htail x2 y2 hrel H locs ls hP hD hS hl
      · refine lv_iconst (v := (1 : Int32)) hx hb dL_law_210 (by decide) ?_
        refine lv_goto (tgt := 215) hx hb dL_law_211 (by decide) ?_
        obtain ⟨r2, x2, y2, h1, h2, hrel⟩ := hst.2.1 x y hrel p0_1 p0_2 (1 : Int32)
        refine bq_callL (wc := (bq_wC a k)) (wr := (bq_wM a' k y)) (q0 := 0) (As := [.int p0_1, .int p0_2, .int (1 : Int32)]) S hK hD hA hP hS (cX9_quote_k_0 h1) hd_yX9_quote ml_L_18 in_yX9_quote (S.2.2.2.2 _ sl_X9_X9_yX9_quote) ⟨rfl, rfl⟩ ⟨by decide, by decide⟩ rfl rfl rfl hl.1 rfl (Nat.le_of_ble_eq_true rfl) ⟨by decide, by decide⟩ dL_law_215 (bq_adC a k) (fun H locs hP hD hS => ?_)
        refine lv_aload_n hx hb dL_law_218 rfl (lv_at hl 2 rfl) ?_
        refine lv_aload_n hx hb dL_law_219 rfl (lv_at hl 0 rfl) ?_
        refine lv_iload_n hx hb dL_law_220 rfl (lv_at hl 3 rfl) ?_
        refine lv_iconst (v := (1 : Int32)) hx hb dL_law_221 (by decide) ?_
        refine lv_iadd hx hb dL_law_222 ?_
        refine va_sld hx hb hX hbl hbA hS (h6 1 (by decide) (by decide)) dL_law_223 ?_
        refine lv_topi (fun p1_1 hp1_1 => ?_)
        obtain rfl : p1_1 = p0_1 := hp1_1.trans hp0_1.symm
        refine lv_aload_n hx hb dL_law_224 rfl (lv_at hl 0 rfl) ?_
        refine lv_iload_n hx hb dL_law_225 rfl (lv_at hl 3 rfl) ?_
        refine lv_iconst (v := (2 : Int32)) hx hb dL_law_226 (by decide) ?_
        refine lv_iadd hx hb dL_law_227 ?_
        refine va_sld hx hb hX hbl hbA hS (h6 2 (by decide) (by decide)) dL_law_228 ?_
        refine lv_topi (fun p1_2 hp1_2 => ?_)
        obtain rfl : p1_2 = p0_2 := hp1_2.trans hp0_2.symm
        refine lv_aload_n hx hb dL_law_229 rfl (lv_at hl 0 rfl) ?_
        refine lv_iload_n hx hb dL_law_230 rfl (lv_at hl 3 rfl) ?_
        refine lv_iconst (v := (3 : Int32)) hx hb dL_law_231 (by decide) ?_
        refine lv_iadd hx hb dL_law_232 ?_
        refine va_sld hx hb hX hbl hbA hS (h6 3 (by decide) (by decide)) dL_law_233 ?_
        refine lv_topi (fun p1_3 hp1_3 => ?_)
        obtain rfl : p1_3 = p0_3 := hp1_3.trans hp0_3.symm
        refine lv_if_eq (tgt := 241) hx hb dL_law_234 (by decide) (fun cc => absurd cc cb) (fun _ => ?_)
        refine lv_iconst (v := (1 : Int32)) hx hb dL_law_237 (by decide) ?_
        refine lv_goto (tgt := 242) hx hb dL_law_238 (by decide) ?_
        refine bq_callL (wc := (bq_wM a' k)) (wr := (bq_wC a k x2)) (q0 := 0) (As := [.int p1_1, .int p1_2, .int (1 : Int32)]) S hK hD hA hP hS (cX10_quote_k_0 h2) hd_yX10_quote ml_L_22 in_yX10_quote (S.2.2.2.2 _ sl_X10_X10_yX10_quote) ⟨rfl, rfl⟩ ⟨by decide, by decide⟩ rfl rfl rfl hl.1 rfl (Nat.le_of_ble_eq_true rfl) ⟨by decide, by decide⟩ dL_law_242 (bq_adM a' k) (fun H locs hP hD hS => ?_)
        refine lv_icmp_eq (tgt := 1246) hx hb dL_law_245 (by decide) (fun _ => ?_) (fun cc => absurd rfl cc)
        exact htail x2 y2 hrel H locs ls hP hD hS hl
    by_cases c2 : v = (2 : Int32)
    · refine lv_tableIn (off := 217) (tgt := 250) hx hb dL_law_33 (by rw [c2]; decide) (by rw [c2]; decide) (by rw [c2]; rfl) (by decide) ?_
      refine lv_aload_n hx hb dL_law_250 rfl (lv_at hl 1 rfl) ?_
      refine lv_aload_n hx hb dL_law_251 rfl (lv_at hl 0 rfl) ?_
      refine lv_iload_n hx hb dL_law_252 rfl (lv_at hl 3 rfl) ?_
      refine lv_iconst (v := (1 : Int32)) hx hb dL_law_253 (by decide) ?_
      refine lv_iadd hx hb dL_law_254 ?_
      refine va_sld hx hb hX hbl hbA hS (h6 1 (by decide) (by decide)) dL_law_255 ?_
      refine lv_topi (fun p0_1 hp0_1 => ?_)
      refine lv_aload_n hx hb dL_law_256 rfl (lv_at hl 0 rfl) ?_
      refine lv_iload_n hx hb dL_law_257 rfl (lv_at hl 3 rfl) ?_
      refine lv_iconst (v := (2 : Int32)) hx hb dL_law_258 (by decide) ?_
      refine lv_iadd hx hb dL_law_259 ?_
      refine va_sld hx hb hX hbl hbA hS (h6 2 (by decide) (by decide)) dL_law_260 ?_
      refine lv_topi (fun p0_2 hp0_2 => ?_)
      refine lv_aload_n hx hb dL_law_261 rfl (lv_at hl 0 rfl) ?_
      refine lv_iload_n hx hb dL_law_262 rfl (lv_at hl 3 rfl) ?_
      refine lv_iconst (v := (3 : Int32)) hx hb dL_law_263 (by decide) ?_
      refine lv_iadd hx hb dL_law_264 ?_
      refine va_sld hx hb hX hbl hbA hS (h6 3 (by decide) (by decide)) dL_law_265 ?_
      refine lv_topi (fun p0_3 hp0_3 => ?_)
      refine lv_if_eq (tgt := 273) hx hb dL_law_266 (by decide) (fun cb => ?_) (fun cb => ?_)
      · refine lv_iconst (v := (0 : Int32)) hx hb dL_law_273 (by decide) ?_
        obtain ⟨r2, x2, y2, h1, h2, hrel⟩ := hst.2.2.1 x y hrel p0_1 p0_2 (0 : Int32)
        refine bq_callL (wc := (bq_wC a k)) (wr := (bq_wM a' k y)) (q0 := 0) (As := [.int p0_1, .int p0_2, .int (0 : Int32)]) S hK hD hA hP hS (cX9_hate_k_0 h1) hd_yX9_hate ml_L_23 in_yX9_hate (S.2.2.2.2 _ sl_X9_X9_yX9_hate) ⟨rfl, rfl⟩ ⟨by decide, by decide⟩ rfl rfl rfl hl.1 rfl (Nat.le_of_ble_eq_true rfl) ⟨by decide, by decide⟩ dL_law_274 (bq_adC a k) (fun H locs hP hD hS => ?_)
        refine lv_aload_n hx hb dL_law_277 rfl (lv_at hl 2 rfl) ?_
        refine lv_aload_n hx hb dL_law_278 rfl (lv_at hl 0 rfl) ?_
        refine lv_iload_n hx hb dL_law_279 rfl (lv_at hl 3 rfl) ?_
        refine lv_iconst (v := (1 : Int32)) hx hb dL_law_280 (by decide) ?_
        refine lv_iadd hx hb dL_law_281 ?_
        refine va_sld hx hb hX hbl hbA hS (h6 1 (by decide) (by decide)) dL_law_282 ?_
        refine lv_topi (fun p1_1 hp1_1 => ?_)
        obtain rfl : p1_1 = p0_1 := hp1_1.trans hp0_1.symm
        refine lv_aload_n hx hb dL_law_283 rfl (lv_at hl 0 rfl) ?_
        refine lv_iload_n hx hb dL_law_284 rfl (lv_at hl 3 rfl) ?_
        refine lv_iconst (v := (2 : Int32)) hx hb dL_law_285 (by decide) ?_
        refine lv_iadd hx hb dL_law_286 ?_
        refine va_sld hx hb hX hbl hbA hS (h6 2 (by decide) (by decide)) dL_law_287 ?_
        refine lv_topi (fun p1_2 hp1_2 => ?_)
        obtain rfl : p1_2 = p0_2 := hp1_2.trans hp0_2.symm
        refine lv_aload_n hx hb dL_law_288 rfl (lv_at hl 0 rfl) ?_
        refine lv_iload_n hx hb dL_law_289 rfl (lv_at hl 3 rfl) ?_
        refine lv_iconst (v := (3 : Int32)) hx hb dL_law_290 (by decide) ?_
        refine lv_iadd hx hb dL_law_291 ?_
        refine va_sld hx hb hX hbl hbA hS (h6 3 (by decide) (by decide)) dL_law_292 ?_
        refine lv_topi (fun p1_3 hp1_3 => ?_)
        obtain rfl : p1_3 = p0_3 := hp1_3.trans hp0_3.symm
        refine lv_if_eq (tgt := 300) hx hb dL_law_293 (by decide) (fun _ => ?_) (fun cc => absurd cb cc)
        refine lv_iconst (v := (0 : Int32)) hx hb dL_law_300 (by decide) ?_
        refine bq_callL (wc := (bq_wM a' k)) (wr := (bq_wC a k x2)) (q0 := 0) (As := [.int p1_1, .int p1_2, .int (0 : Int32)]) S hK hD hA hP hS (cX10_hate_k_0 h2) hd_yX10_hate ml_L_26 in_yX10_hate (S.2.2.2.2 _ sl_X10_X10_yX10_hate) ⟨rfl, rfl⟩ ⟨by decide, by decide⟩ rfl rfl rfl hl.1 rfl (Nat.le_of_ble_eq_true rfl) ⟨by decide, by decide⟩ dL_law_301 (bq_adM a' k) (fun H locs hP hD hS => ?_)
        refine lv_icmp_eq (tgt := 1246) hx hb dL_law_304 (by decide) (fun _ => ?_) (fun cc => absurd rfl cc)
        exact htail x2 y2 hrel H locs ls hP hD hS hl
      · refine lv_iconst (v := (1 : Int32)) hx hb dL_law_269 (by decide) ?_
        refine lv_goto (tgt := 274) hx hb dL_law_270 (by decide) ?_
        obtain ⟨r2, x2, y2, h1, h2, hrel⟩ := hst.2.2.1 x y hrel p0_1 p0_2 (1 : Int32)
        refine bq_callL (wc := (bq_wC a k)) (wr := (bq_wM a' k y)) (q0 := 0) (As := [.int p0_1, .int p0_2, .int (1 : Int32)]) S hK hD hA hP hS (cX9_hate_k_0 h1) hd_yX9_hate ml_L_23 in_yX9_hate (S.2.2.2.2 _ sl_X9_X9_yX9_hate) ⟨rfl, rfl⟩ ⟨by decide, by decide⟩ rfl rfl rfl hl.1 rfl (Nat.le_of_ble_eq_true rfl) ⟨by decide, by decide⟩ dL_law_274 (bq_adC a k) (fun H locs hP hD hS => ?_)
        refine lv_aload_n hx hb dL_law_277 rfl (lv_at hl 2 rfl) ?_
        refine lv_aload_n hx hb dL_law_278 rfl (lv_at hl 0 rfl) ?_
        refine lv_iload_n hx hb dL_law_279 rfl (lv_at hl 3 rfl) ?_
        refine lv_iconst (v := (1 : Int32)) hx hb dL_law_280 (by decide) ?_
        refine lv_iadd hx hb dL_law_281 ?_
        refine va_sld hx hb hX hbl hbA hS (h6 1 (by decide) (by decide)) dL_law_282 ?_
        refine lv_topi (fun p1_1 hp1_1 => ?_)
        obtain rfl : p1_1 = p0_1 := hp1_1.trans hp0_1.symm
        refine lv_aload_n hx hb dL_law_283 rfl (lv_at hl 0 rfl) ?_
        refine lv_iload_n hx hb dL_law_284 rfl (lv_at hl 3 rfl) ?_
        refine lv_iconst (v := (2 : Int32)) hx hb dL_law_285 (by decide) ?_
        refine lv_iadd hx hb dL_law_286 ?_
        refine va_sld hx hb hX hbl hbA hS (h6 2 (by decide) (by decide)) dL_law_287 ?_
        refine lv_topi (fun p1_2 hp1_2 => ?_)
        obtain rfl : p1_2 = p0_2 := hp1_2.trans hp0_2.symm
        refine lv_aload_n hx hb dL_law_288 rfl (lv_at hl 0 rfl) ?_
        refine lv_iload_n hx hb dL_law_289 rfl (lv_at hl 3 rfl) ?_
        refine lv_iconst (v := (3 : Int32)) hx hb dL_law_290 (by decide) ?_
        refine lv_iadd hx hb dL_law_291 ?_
        refine va_sld hx hb hX hbl hbA hS (h6 3 (by decide) (by decide)) dL_law_292 ?_
        refine lv_topi (fun p1_3 hp1_3 => ?_)
        obtain rfl : p1_3 = p0_3 := hp1_3.trans hp0_3.symm
        refine lv_if_eq (tgt := 300) hx hb dL_law_293 (by decide) (fun cc => absurd cc cb) (fun _ => ?_)
        refine lv_iconst (v := (1 : Int32)) hx hb dL_law_296 (by decide) ?_
        refine lv_goto (tgt := 301) hx hb dL_law_297 (by decide) ?_
        refine bq_callL (wc := (bq_wM a' k)) (wr := (bq_wC a k x2)) (q0 := 0) (As := [.int p1_1, .int p1_2, .int (1 : Int32)]) S hK hD hA hP hS (cX10_hate_k_0 h2) hd_yX10_hate ml_L_26 in_yX10_hate (S.2.2.2.2 _ sl_X10_X10_yX10_hate) ⟨rfl, rfl⟩ ⟨by decide, by decide⟩ rfl rfl rfl hl.1 rfl (Nat.le_of_ble_eq_true rfl) ⟨by decide, by decide⟩ dL_law_301 (bq_adM a' k) (fun H locs hP hD hS => ?_)
        refine lv_icmp_eq (tgt := 1246) hx hb dL_law_304 (by decide) (fun _ => ?_) (fun cc => absurd rfl cc)
        exact htail x2 y2 hrel H locs ls hP hD hS hl
    by_cases c3 : v = (3 : Int32)
    · refine lv_tableIn (off := 276) (tgt := 309) hx hb dL_law_33 (by rw [c3]; decide) (by rw [c3]; decide) (by rw [c3]; rfl) (by decide) ?_
      refine lv_aload_n hx hb dL_law_309 rfl (lv_at hl 1 rfl) ?_
      refine lv_aload_n hx hb dL_law_310 rfl (lv_at hl 0 rfl) ?_
      refine lv_iload_n hx hb dL_law_311 rfl (lv_at hl 3 rfl) ?_
      refine lv_iconst (v := (1 : Int32)) hx hb dL_law_312 (by decide) ?_
      refine lv_iadd hx hb dL_law_313 ?_
      refine va_sld hx hb hX hbl hbA hS (h6 1 (by decide) (by decide)) dL_law_314 ?_
      refine lv_topi (fun p0_1 hp0_1 => ?_)
      refine lv_aload_n hx hb dL_law_315 rfl (lv_at hl 0 rfl) ?_
      refine lv_iload_n hx hb dL_law_316 rfl (lv_at hl 3 rfl) ?_
      refine lv_iconst (v := (2 : Int32)) hx hb dL_law_317 (by decide) ?_
      refine lv_iadd hx hb dL_law_318 ?_
      refine va_sld hx hb hX hbl hbA hS (h6 2 (by decide) (by decide)) dL_law_319 ?_
      refine lv_topi (fun p0_2 hp0_2 => ?_)
      refine lv_if_eq (tgt := 327) hx hb dL_law_320 (by decide) (fun cb => ?_) (fun cb => ?_)
      · refine lv_iconst (v := (0 : Int32)) hx hb dL_law_327 (by decide) ?_
        obtain ⟨r2, x2, y2, h1, h2, hrel⟩ := hst.2.2.2.1 x y hrel p0_1 (0 : Int32)
        refine bq_callL (wc := (bq_wC a k)) (wr := (bq_wM a' k y)) (q0 := 0) (As := [.int p0_1, .int (0 : Int32)]) S hK hD hA hP hS (cX9_prop_k_0 h1) hd_yX9_prop ml_L_27 in_yX9_prop (S.2.2.2.2 _ sl_X9_X9_yX9_prop) ⟨rfl, rfl⟩ ⟨by decide, by decide⟩ rfl rfl rfl hl.1 rfl (Nat.le_of_ble_eq_true rfl) ⟨by decide, by decide⟩ dL_law_328 (bq_adC a k) (fun H locs hP hD hS => ?_)
        refine lv_aload_n hx hb dL_law_331 rfl (lv_at hl 2 rfl) ?_
        refine lv_aload_n hx hb dL_law_332 rfl (lv_at hl 0 rfl) ?_
        refine lv_iload_n hx hb dL_law_333 rfl (lv_at hl 3 rfl) ?_
        refine lv_iconst (v := (1 : Int32)) hx hb dL_law_334 (by decide) ?_
        refine lv_iadd hx hb dL_law_335 ?_
        refine va_sld hx hb hX hbl hbA hS (h6 1 (by decide) (by decide)) dL_law_336 ?_
        refine lv_topi (fun p1_1 hp1_1 => ?_)
        obtain rfl : p1_1 = p0_1 := hp1_1.trans hp0_1.symm
        refine lv_aload_n hx hb dL_law_337 rfl (lv_at hl 0 rfl) ?_
        refine lv_iload_n hx hb dL_law_338 rfl (lv_at hl 3 rfl) ?_
        refine lv_iconst (v := (2 : Int32)) hx hb dL_law_339 (by decide) ?_
        refine lv_iadd hx hb dL_law_340 ?_
        refine va_sld hx hb hX hbl hbA hS (h6 2 (by decide) (by decide)) dL_law_341 ?_
        refine lv_topi (fun p1_2 hp1_2 => ?_)
        obtain rfl : p1_2 = p0_2 := hp1_2.trans hp0_2.symm
        refine lv_if_eq (tgt := 349) hx hb dL_law_342 (by decide) (fun _ => ?_) (fun cc => absurd cb cc)
        refine lv_iconst (v := (0 : Int32)) hx hb dL_law_349 (by decide) ?_
        refine bq_callL (wc := (bq_wM a' k)) (wr := (bq_wC a k x2)) (q0 := 0) (As := [.int p1_1, .int (0 : Int32)]) S hK hD hA hP hS (cX10_prop_k_0 h2) hd_yX10_prop ml_L_31 in_yX10_prop (S.2.2.2.2 _ sl_X10_X10_yX10_prop) ⟨rfl, rfl⟩ ⟨by decide, by decide⟩ rfl rfl rfl hl.1 rfl (Nat.le_of_ble_eq_true rfl) ⟨by decide, by decide⟩ dL_law_350 (bq_adM a' k) (fun H locs hP hD hS => ?_)
        refine lv_icmp_eq (tgt := 1246) hx hb dL_law_353 (by decide) (fun _ => ?_) (fun cc => absurd rfl cc)
        exact htail x2 y2 hrel H locs ls hP hD hS hl
      · refine lv_iconst (v := (1 : Int32)) hx hb dL_law_323 (by decide) ?_
        refine lv_goto (tgt := 328) hx hb dL_law_324 (by decide) ?_
        obtain ⟨r2, x2, y2, h1, h2, hrel⟩ := hst.2.2.2.1 x y hrel p0_1 (1 : Int32)
        refine bq_callL (wc := (bq_wC a k)) (wr := (bq_wM a' k y)) (q0 := 0) (As := [.int p0_1, .int (1 : Int32)]) S hK hD hA hP hS (cX9_prop_k_0 h1) hd_yX9_prop ml_L_27 in_yX9_prop (S.2.2.2.2 _ sl_X9_X9_yX9_prop) ⟨rfl, rfl⟩ ⟨by decide, by decide⟩ rfl rfl rfl hl.1 rfl (Nat.le_of_ble_eq_true rfl) ⟨by decide, by decide⟩ dL_law_328 (bq_adC a k) (fun H locs hP hD hS => ?_)
        refine lv_aload_n hx hb dL_law_331 rfl (lv_at hl 2 rfl) ?_
        refine lv_aload_n hx hb dL_law_332 rfl (lv_at hl 0 rfl) ?_
        refine lv_iload_n hx hb dL_law_333 rfl (lv_at hl 3 rfl) ?_
        refine lv_iconst (v := (1 : Int32)) hx hb dL_law_334 (by decide) ?_
        refine lv_iadd hx hb dL_law_335 ?_
        refine va_sld hx hb hX hbl hbA hS (h6 1 (by decide) (by decide)) dL_law_336 ?_
        refine lv_topi (fun p1_1 hp1_1 => ?_)
        obtain rfl : p1_1 = p0_1 := hp1_1.trans hp0_1.symm
        refine lv_aload_n hx hb dL_law_337 rfl (lv_at hl 0 rfl) ?_
        refine lv_iload_n hx hb dL_law_338 rfl (lv_at hl 3 rfl) ?_
        refine lv_iconst (v := (2 : Int32)) hx hb dL_law_339 (by decide) ?_
        refine lv_iadd hx hb dL_law_340 ?_
        refine va_sld hx hb hX hbl hbA hS (h6 2 (by decide) (by decide)) dL_law_341 ?_
        refine lv_topi (fun p1_2 hp1_2 => ?_)
        obtain rfl : p1_2 = p0_2 := hp1_2.trans hp0_2.symm
        refine lv_if_eq (tgt := 349) hx hb dL_law_342 (by decide) (fun cc => absurd cc cb) (fun _ => ?_)
        refine lv_iconst (v := (1 : Int32)) hx hb dL_law_345 (by decide) ?_
        refine lv_goto (tgt := 350) hx hb dL_law_346 (by decide) ?_
        refine bq_callL (wc := (bq_wM a' k)) (wr := (bq_wC a k x2)) (q0 := 0) (As := [.int p1_1, .int (1 : Int32)]) S hK hD hA hP hS (cX10_prop_k_0 h2) hd_yX10_prop ml_L_31 in_yX10_prop (S.2.2.2.2 _ sl_X10_X10_yX10_prop) ⟨rfl, rfl⟩ ⟨by decide, by decide⟩ rfl rfl rfl hl.1 rfl (Nat.le_of_ble_eq_true rfl) ⟨by decide, by decide⟩ dL_law_350 (bq_adM a' k) (fun H locs hP hD hS => ?_)
        refine lv_icmp_eq (tgt := 1246) hx hb dL_law_353 (by decide) (fun _ => ?_) (fun cc => absurd rfl cc)
        exact htail x2 y2 hrel H locs ls hP hD hS hl
    by_cases c4 : v = (4 : Int32)
    · refine lv_tableIn (off := 325) (tgt := 358) hx hb dL_law_33 (by rw [c4]; decide) (by rw [c4]; decide) (by rw [c4]; rfl) (by decide) ?_
      refine lv_aload_n hx hb dL_law_358 rfl (lv_at hl 1 rfl) ?_
      refine lv_aload_n hx hb dL_law_359 rfl (lv_at hl 0 rfl) ?_
      refine lv_iload_n hx hb dL_law_360 rfl (lv_at hl 3 rfl) ?_
      refine lv_iconst (v := (1 : Int32)) hx hb dL_law_361 (by decide) ?_
      refine lv_iadd hx hb dL_law_362 ?_
      refine va_sld hx hb hX hbl hbA hS (h6 1 (by decide) (by decide)) dL_law_363 ?_
      refine lv_topi (fun p0_1 hp0_1 => ?_)
      refine lv_aload_n hx hb dL_law_364 rfl (lv_at hl 0 rfl) ?_
      refine lv_iload_n hx hb dL_law_365 rfl (lv_at hl 3 rfl) ?_
      refine lv_iconst (v := (2 : Int32)) hx hb dL_law_366 (by decide) ?_
      refine lv_iadd hx hb dL_law_367 ?_
      refine va_sld hx hb hX hbl hbA hS (h6 2 (by decide) (by decide)) dL_law_368 ?_
      refine lv_topi (fun p0_2 hp0_2 => ?_)
      obtain ⟨r2, x2, y2, h1, h2, hrel⟩ := hst.2.2.2.2.1 x y hrel p0_1 p0_2
      refine bq_callL (wc := (bq_wC a k)) (wr := (bq_wM a' k y)) (q0 := 0) (As := [.int p0_1, .int p0_2]) S hK hD hA hP hS (cX9_thick_k_0 h1) hd_yX9_thick ml_L_32 in_yX9_thick (S.2.2.2.2 _ sl_X9_X9_yX9_thick) ⟨rfl, rfl⟩ ⟨by decide, by decide⟩ rfl rfl rfl hl.1 rfl (Nat.le_of_ble_eq_true rfl) ⟨by decide, by decide⟩ dL_law_369 (bq_adC a k) (fun H locs hP hD hS => ?_)
      refine lv_aload_n hx hb dL_law_372 rfl (lv_at hl 2 rfl) ?_
      refine lv_aload_n hx hb dL_law_373 rfl (lv_at hl 0 rfl) ?_
      refine lv_iload_n hx hb dL_law_374 rfl (lv_at hl 3 rfl) ?_
      refine lv_iconst (v := (1 : Int32)) hx hb dL_law_375 (by decide) ?_
      refine lv_iadd hx hb dL_law_376 ?_
      refine va_sld hx hb hX hbl hbA hS (h6 1 (by decide) (by decide)) dL_law_377 ?_
      refine lv_topi (fun p1_1 hp1_1 => ?_)
      obtain rfl : p1_1 = p0_1 := hp1_1.trans hp0_1.symm
      refine lv_aload_n hx hb dL_law_378 rfl (lv_at hl 0 rfl) ?_
      refine lv_iload_n hx hb dL_law_379 rfl (lv_at hl 3 rfl) ?_
      refine lv_iconst (v := (2 : Int32)) hx hb dL_law_380 (by decide) ?_
      refine lv_iadd hx hb dL_law_381 ?_
      refine va_sld hx hb hX hbl hbA hS (h6 2 (by decide) (by decide)) dL_law_382 ?_
      refine lv_topi (fun p1_2 hp1_2 => ?_)
      obtain rfl : p1_2 = p0_2 := hp1_2.trans hp0_2.symm
      refine bq_callL (wc := (bq_wM a' k)) (wr := (bq_wC a k x2)) (q0 := 0) (As := [.int p1_1, .int p1_2]) S hK hD hA hP hS (cX10_thick_k_0 h2) hd_yX10_thick ml_L_36 in_yX10_thick (S.2.2.2.2 _ sl_X10_X10_yX10_thick) ⟨rfl, rfl⟩ ⟨by decide, by decide⟩ rfl rfl rfl hl.1 rfl (Nat.le_of_ble_eq_true rfl) ⟨by decide, by decide⟩ dL_law_383 (bq_adM a' k) (fun H locs hP hD hS => ?_)
      refine lv_icmp_eq (tgt := 1246) hx hb dL_law_386 (by decide) (fun _ => ?_) (fun cc => absurd rfl cc)
      exact htail x2 y2 hrel H locs ls hP hD hS hl
    by_cases c5 : v = (5 : Int32)
    · refine lv_tableIn (off := 358) (tgt := 391) hx hb dL_law_33 (by rw [c5]; decide) (by rw [c5]; decide) (by rw [c5]; rfl) (by decide) ?_
      refine lv_aload_n hx hb dL_law_391 rfl (lv_at hl 1 rfl) ?_
      refine lv_aload_n hx hb dL_law_392 rfl (lv_at hl 0 rfl) ?_
      refine lv_iload_n hx hb dL_law_393 rfl (lv_at hl 3 rfl) ?_
      refine lv_iconst (v := (1 : Int32)) hx hb dL_law_394 (by decide) ?_
      refine lv_iadd hx hb dL_law_395 ?_
      refine va_sld hx hb hX hbl hbA hS (h6 1 (by decide) (by decide)) dL_law_396 ?_
      refine lv_topi (fun p0_1 hp0_1 => ?_)
      refine lv_aload_n hx hb dL_law_397 rfl (lv_at hl 0 rfl) ?_
      refine lv_iload_n hx hb dL_law_398 rfl (lv_at hl 3 rfl) ?_
      refine lv_iconst (v := (2 : Int32)) hx hb dL_law_399 (by decide) ?_
      refine lv_iadd hx hb dL_law_400 ?_
      refine va_sld hx hb hX hbl hbA hS (h6 2 (by decide) (by decide)) dL_law_401 ?_
      refine lv_topi (fun p0_2 hp0_2 => ?_)
      obtain ⟨r2, x2, y2, h1, h2, hrel⟩ := hst.2.2.2.2.2.1 x y hrel p0_1 p0_2
      refine bq_callL (wc := (bq_wC a k)) (wr := (bq_wM a' k y)) (q0 := 0) (As := [.int p0_1, .int p0_2]) S hK hD hA hP hS (cX9_rule_k_0 h1) hd_yX9_rule ml_L_37 in_yX9_rule (S.2.2.2.2 _ sl_X9_X9_yX9_rule) ⟨rfl, rfl⟩ ⟨by decide, by decide⟩ rfl rfl rfl hl.1 rfl (Nat.le_of_ble_eq_true rfl) ⟨by decide, by decide⟩ dL_law_402 (bq_adC a k) (fun H locs hP hD hS => ?_)
      refine lv_aload_n hx hb dL_law_405 rfl (lv_at hl 2 rfl) ?_
      refine lv_aload_n hx hb dL_law_406 rfl (lv_at hl 0 rfl) ?_
      refine lv_iload_n hx hb dL_law_407 rfl (lv_at hl 3 rfl) ?_
      refine lv_iconst (v := (1 : Int32)) hx hb dL_law_408 (by decide) ?_
      refine lv_iadd hx hb dL_law_409 ?_
      refine va_sld hx hb hX hbl hbA hS (h6 1 (by decide) (by decide)) dL_law_410 ?_
      refine lv_topi (fun p1_1 hp1_1 => ?_)
      obtain rfl : p1_1 = p0_1 := hp1_1.trans hp0_1.symm
      refine lv_aload_n hx hb dL_law_411 rfl (lv_at hl 0 rfl) ?_
      refine lv_iload_n hx hb dL_law_412 rfl (lv_at hl 3 rfl) ?_
      refine lv_iconst (v := (2 : Int32)) hx hb dL_law_413 (by decide) ?_
      refine lv_iadd hx hb dL_law_414 ?_
      refine va_sld hx hb hX hbl hbA hS (h6 2 (by decide) (by decide)) dL_law_415 ?_
      refine lv_topi (fun p1_2 hp1_2 => ?_)
      obtain rfl : p1_2 = p0_2 := hp1_2.trans hp0_2.symm
      refine bq_callL (wc := (bq_wM a' k)) (wr := (bq_wC a k x2)) (q0 := 0) (As := [.int p1_1, .int p1_2]) S hK hD hA hP hS (cX10_rule_k_0 h2) hd_yX10_rule ml_L_40 in_yX10_rule (S.2.2.2.2 _ sl_X10_X10_yX10_rule) ⟨rfl, rfl⟩ ⟨by decide, by decide⟩ rfl rfl rfl hl.1 rfl (Nat.le_of_ble_eq_true rfl) ⟨by decide, by decide⟩ dL_law_416 (bq_adM a' k) (fun H locs hP hD hS => ?_)
      refine lv_icmp_eq (tgt := 1246) hx hb dL_law_419 (by decide) (fun _ => ?_) (fun cc => absurd rfl cc)
      exact htail x2 y2 hrel H locs ls hP hD hS hl
    by_cases c6 : v = (6 : Int32)
    · refine lv_tableIn (off := 391) (tgt := 424) hx hb dL_law_33 (by rw [c6]; decide) (by rw [c6]; decide) (by rw [c6]; rfl) (by decide) ?_
      refine lv_aload_n hx hb dL_law_424 rfl (lv_at hl 1 rfl) ?_
      refine lv_aload_n hx hb dL_law_425 rfl (lv_at hl 0 rfl) ?_
      refine lv_iload_n hx hb dL_law_426 rfl (lv_at hl 3 rfl) ?_
      refine lv_iconst (v := (1 : Int32)) hx hb dL_law_427 (by decide) ?_
      refine lv_iadd hx hb dL_law_428 ?_
      refine va_sld hx hb hX hbl hbA hS (h6 1 (by decide) (by decide)) dL_law_429 ?_
      refine lv_topi (fun p0_1 hp0_1 => ?_)
      refine lv_aload_n hx hb dL_law_430 rfl (lv_at hl 0 rfl) ?_
      refine lv_iload_n hx hb dL_law_431 rfl (lv_at hl 3 rfl) ?_
      refine lv_iconst (v := (2 : Int32)) hx hb dL_law_432 (by decide) ?_
      refine lv_iadd hx hb dL_law_433 ?_
      refine va_sld hx hb hX hbl hbA hS (h6 2 (by decide) (by decide)) dL_law_434 ?_
      refine lv_topi (fun p0_2 hp0_2 => ?_)
      obtain ⟨r2, x2, y2, h1, h2, hrel⟩ := hst.2.2.2.2.2.2.1 x y hrel p0_1 p0_2
      refine bq_callL (wc := (bq_wC a k)) (wr := (bq_wM a' k y)) (q0 := 0) (As := [.int p0_1, .int p0_2]) S hK hD hA hP hS (cX9_touch_k_0 h1) hd_yX9_touch ml_L_41 in_yX9_touch (S.2.2.2.2 _ sl_X9_X9_yX9_touch) ⟨rfl, rfl⟩ ⟨by decide, by decide⟩ rfl rfl rfl hl.1 rfl (Nat.le_of_ble_eq_true rfl) ⟨by decide, by decide⟩ dL_law_435 (bq_adC a k) (fun H locs hP hD hS => ?_)
      refine lv_aload_n hx hb dL_law_438 rfl (lv_at hl 2 rfl) ?_
      refine lv_aload_n hx hb dL_law_439 rfl (lv_at hl 0 rfl) ?_
      refine lv_iload_n hx hb dL_law_440 rfl (lv_at hl 3 rfl) ?_
      refine lv_iconst (v := (1 : Int32)) hx hb dL_law_441 (by decide) ?_
      refine lv_iadd hx hb dL_law_442 ?_
      refine va_sld hx hb hX hbl hbA hS (h6 1 (by decide) (by decide)) dL_law_443 ?_
      refine lv_topi (fun p1_1 hp1_1 => ?_)
      obtain rfl : p1_1 = p0_1 := hp1_1.trans hp0_1.symm
      refine lv_aload_n hx hb dL_law_444 rfl (lv_at hl 0 rfl) ?_
      refine lv_iload_n hx hb dL_law_445 rfl (lv_at hl 3 rfl) ?_
      refine lv_iconst (v := (2 : Int32)) hx hb dL_law_446 (by decide) ?_
      refine lv_iadd hx hb dL_law_447 ?_
      refine va_sld hx hb hX hbl hbA hS (h6 2 (by decide) (by decide)) dL_law_448 ?_
      refine lv_topi (fun p1_2 hp1_2 => ?_)
      obtain rfl : p1_2 = p0_2 := hp1_2.trans hp0_2.symm
      refine bq_callL (wc := (bq_wM a' k)) (wr := (bq_wC a k x2)) (q0 := 0) (As := [.int p1_1, .int p1_2]) S hK hD hA hP hS (cX10_touch_k_0 h2) hd_yX10_touch ml_L_44 in_yX10_touch (S.2.2.2.2 _ sl_X10_X10_yX10_touch) ⟨rfl, rfl⟩ ⟨by decide, by decide⟩ rfl rfl rfl hl.1 rfl (Nat.le_of_ble_eq_true rfl) ⟨by decide, by decide⟩ dL_law_449 (bq_adM a' k) (fun H locs hP hD hS => ?_)
      refine lv_icmp_eq (tgt := 1246) hx hb dL_law_452 (by decide) (fun _ => ?_) (fun cc => absurd rfl cc)
      exact htail x2 y2 hrel H locs ls hP hD hS hl
    by_cases c7 : v = (7 : Int32)
    · refine lv_tableIn (off := 424) (tgt := 457) hx hb dL_law_33 (by rw [c7]; decide) (by rw [c7]; decide) (by rw [c7]; rfl) (by decide) ?_
      refine lv_aload_n hx hb dL_law_457 rfl (lv_at hl 1 rfl) ?_
      refine lv_aload_n hx hb dL_law_458 rfl (lv_at hl 0 rfl) ?_
      refine lv_iload_n hx hb dL_law_459 rfl (lv_at hl 3 rfl) ?_
      refine lv_iconst (v := (1 : Int32)) hx hb dL_law_460 (by decide) ?_
      refine lv_iadd hx hb dL_law_461 ?_
      refine va_sld hx hb hX hbl hbA hS (h6 1 (by decide) (by decide)) dL_law_462 ?_
      refine lv_topi (fun p0_1 hp0_1 => ?_)
      refine lv_i2l hx hb dL_law_463 rfl ?_
      refine lv_bipush (v := (32 : Int32)) hx hb dL_law_464 (by decide) ?_
      refine lv_lshl hx hb dL_law_466 rfl ?_
      refine lv_aload_n hx hb dL_law_467 rfl (lv_at hl 0 rfl) ?_
      refine lv_iload_n hx hb dL_law_468 rfl (lv_at hl 3 rfl) ?_
      refine lv_iconst (v := (2 : Int32)) hx hb dL_law_469 (by decide) ?_
      refine lv_iadd hx hb dL_law_470 ?_
      refine va_sld hx hb hX hbl hbA hS (h6 2 (by decide) (by decide)) dL_law_471 ?_
      refine lv_topi (fun p0_2 hp0_2 => ?_)
      refine lv_i2l hx hb dL_law_472 rfl ?_
      refine lv_ldc2 hx hb hown (S.2.2.2.2 _ kl_L_45) dL_law_473 ?_
      refine lv_land hx hb dL_law_476 ?_
      refine lv_lor hx hb dL_law_477 ?_
      refine lv_topl (fun q0 hq0 => ?_)
      refine lv_aload_n hx hb dL_law_478 rfl (lv_at hl 0 rfl) ?_
      refine lv_iload_n hx hb dL_law_479 rfl (lv_at hl 3 rfl) ?_
      refine lv_iconst (v := (3 : Int32)) hx hb dL_law_480 (by decide) ?_
      refine lv_iadd hx hb dL_law_481 ?_
      refine va_sld hx hb hX hbl hbA hS (h6 3 (by decide) (by decide)) dL_law_482 ?_
      refine lv_topi (fun p0_3 hp0_3 => ?_)
      obtain ⟨r2, x2, y2, h1, h2, hrel⟩ := hst.2.2.2.2.2.2.2.1 x y hrel q0 p0_3
      refine bq_callL (wc := (bq_wC a k)) (wr := (bq_wM a' k y)) (q0 := 0) (As := [.long q0, .int p0_3]) S hK hD hA hP hS (cX9_type_k_0 h1) hd_yX9_type ml_L_47 in_yX9_type (S.2.2.2.2 _ sl_X9_X9_yX9_type) ⟨rfl, rfl⟩ ⟨by decide, by decide⟩ rfl rfl rfl hl.1 rfl (Nat.le_of_ble_eq_true rfl) ⟨by decide, by decide⟩ dL_law_483 (bq_adC a k) (fun H locs hP hD hS => ?_)
      refine lv_aload_n hx hb dL_law_486 rfl (lv_at hl 2 rfl) ?_
      refine lv_aload_n hx hb dL_law_487 rfl (lv_at hl 0 rfl) ?_
      refine lv_iload_n hx hb dL_law_488 rfl (lv_at hl 3 rfl) ?_
      refine lv_iconst (v := (1 : Int32)) hx hb dL_law_489 (by decide) ?_
      refine lv_iadd hx hb dL_law_490 ?_
      refine va_sld hx hb hX hbl hbA hS (h6 1 (by decide) (by decide)) dL_law_491 ?_
      refine lv_topi (fun p1_1 hp1_1 => ?_)
      obtain rfl : p1_1 = p0_1 := hp1_1.trans hp0_1.symm
      refine lv_i2l hx hb dL_law_492 rfl ?_
      refine lv_bipush (v := (32 : Int32)) hx hb dL_law_493 (by decide) ?_
      refine lv_lshl hx hb dL_law_495 rfl ?_
      refine lv_aload_n hx hb dL_law_496 rfl (lv_at hl 0 rfl) ?_
      refine lv_iload_n hx hb dL_law_497 rfl (lv_at hl 3 rfl) ?_
      refine lv_iconst (v := (2 : Int32)) hx hb dL_law_498 (by decide) ?_
      refine lv_iadd hx hb dL_law_499 ?_
      refine va_sld hx hb hX hbl hbA hS (h6 2 (by decide) (by decide)) dL_law_500 ?_
      refine lv_topi (fun p1_2 hp1_2 => ?_)
      obtain rfl : p1_2 = p0_2 := hp1_2.trans hp0_2.symm
      refine lv_i2l hx hb dL_law_501 rfl ?_
      refine lv_ldc2 hx hb hown (S.2.2.2.2 _ kl_L_45) dL_law_502 ?_
      refine lv_land hx hb dL_law_505 ?_
      refine lv_lor hx hb dL_law_506 ?_
      refine lv_topl (fun q1 hq1 => ?_)
      obtain rfl : q1 = q0 := hq1.trans hq0.symm
      refine lv_aload_n hx hb dL_law_507 rfl (lv_at hl 0 rfl) ?_
      refine lv_iload_n hx hb dL_law_508 rfl (lv_at hl 3 rfl) ?_
      refine lv_iconst (v := (3 : Int32)) hx hb dL_law_509 (by decide) ?_
      refine lv_iadd hx hb dL_law_510 ?_
      refine va_sld hx hb hX hbl hbA hS (h6 3 (by decide) (by decide)) dL_law_511 ?_
      refine lv_topi (fun p1_3 hp1_3 => ?_)
      obtain rfl : p1_3 = p0_3 := hp1_3.trans hp0_3.symm
      refine bq_callL (wc := (bq_wM a' k)) (wr := (bq_wC a k x2)) (q0 := 0) (As := [.long q1, .int p1_3]) S hK hD hA hP hS (cX10_type_k_0 h2) hd_yX10_type ml_L_51 in_yX10_type (S.2.2.2.2 _ sl_X10_X10_yX10_type) ⟨rfl, rfl⟩ ⟨by decide, by decide⟩ rfl rfl rfl hl.1 rfl (Nat.le_of_ble_eq_true rfl) ⟨by decide, by decide⟩ dL_law_512 (bq_adM a' k) (fun H locs hP hD hS => ?_)
      refine lv_icmp_eq (tgt := 1246) hx hb dL_law_515 (by decide) (fun _ => ?_) (fun cc => absurd rfl cc)
      exact htail x2 y2 hrel H locs ls hP hD hS hl
    by_cases c8 : v = (8 : Int32)
    · refine lv_tableIn (off := 487) (tgt := 520) hx hb dL_law_33 (by rw [c8]; decide) (by rw [c8]; decide) (by rw [c8]; rfl) (by decide) ?_
      refine lv_aload_n hx hb dL_law_520 rfl (lv_at hl 1 rfl) ?_
      obtain ⟨r2, x2, y2, h1, h2, hrel⟩ := hst.2.2.2.2.2.2.2.2.1 x y hrel 
      refine bq_callL (wc := (bq_wC a k)) (wr := (bq_wM a' k y)) (q0 := 0) (As := []) S hK hD hA hP hS (cX9_books_k_0 h1) hd_yX9_books ml_L_52 in_yX9_books (S.2.2.2.2 _ sl_X9_X9_yX9_books) ⟨rfl, rfl⟩ ⟨by decide, by decide⟩ rfl rfl rfl hl.1 rfl (Nat.le_of_ble_eq_true rfl) ⟨by decide, by decide⟩ dL_law_521 (bq_adC a k) (fun H locs hP hD hS => ?_)
      refine lv_aload_n hx hb dL_law_524 rfl (lv_at hl 2 rfl) ?_
      refine bq_callL (wc := (bq_wM a' k)) (wr := (bq_wC a k x2)) (q0 := 0) (As := []) S hK hD hA hP hS (cX10_books_k_0 h2) hd_yX10_books ml_L_56 in_yX10_books (S.2.2.2.2 _ sl_X10_X10_yX10_books) ⟨rfl, rfl⟩ ⟨by decide, by decide⟩ rfl rfl rfl hl.1 rfl (Nat.le_of_ble_eq_true rfl) ⟨by decide, by decide⟩ dL_law_525 (bq_adM a' k) (fun H locs hP hD hS => ?_)
      refine lv_icmp_eq (tgt := 1246) hx hb dL_law_528 (by decide) (fun _ => ?_) (fun cc => absurd rfl cc)
      exact htail x2 y2 hrel H locs ls hP hD hS hl
    by_cases c9 : v = (9 : Int32)
    · refine lv_tableIn (off := 500) (tgt := 533) hx hb dL_law_33 (by rw [c9]; decide) (by rw [c9]; decide) (by rw [c9]; rfl) (by decide) ?_
      refine lv_aload_n hx hb dL_law_533 rfl (lv_at hl 1 rfl) ?_
      obtain ⟨r2, x2, y2, h1, h2, hrel⟩ := hst.2.2.2.2.2.2.2.2.2.1 x y hrel 
      refine bq_callL (wc := (bq_wC a k)) (wr := (bq_wM a' k y)) (q0 := 0) (As := []) S hK hD hA hP hS (cX9_hall_k_0 h1) hd_yX9_hall ml_L_57 in_yX9_hall (S.2.2.2.2 _ sl_X9_X9_yX9_hall) ⟨rfl, rfl⟩ ⟨by decide, by decide⟩ rfl rfl rfl hl.1 rfl (Nat.le_of_ble_eq_true rfl) ⟨by decide, by decide⟩ dL_law_534 (bq_adC a k) (fun H locs hP hD hS => ?_)
      refine lv_aload_n hx hb dL_law_537 rfl (lv_at hl 2 rfl) ?_
      refine bq_callL (wc := (bq_wM a' k)) (wr := (bq_wC a k x2)) (q0 := 0) (As := []) S hK hD hA hP hS (cX10_hall_k_0 h2) hd_yX10_hall ml_L_60 in_yX10_hall (S.2.2.2.2 _ sl_X10_X10_yX10_hall) ⟨rfl, rfl⟩ ⟨by decide, by decide⟩ rfl rfl rfl hl.1 rfl (Nat.le_of_ble_eq_true rfl) ⟨by decide, by decide⟩ dL_law_538 (bq_adM a' k) (fun H locs hP hD hS => ?_)
      refine lv_icmp_eq (tgt := 1246) hx hb dL_law_541 (by decide) (fun _ => ?_) (fun cc => absurd rfl cc)
      exact htail x2 y2 hrel H locs ls hP hD hS hl
    by_cases c10 : v = (10 : Int32)
    · refine lv_tableIn (off := 513) (tgt := 546) hx hb dL_law_33 (by rw [c10]; decide) (by rw [c10]; decide) (by rw [c10]; rfl) (by decide) ?_
      refine lv_aload_n hx hb dL_law_546 rfl (lv_at hl 1 rfl) ?_
      refine lv_aload_n hx hb dL_law_547 rfl (lv_at hl 0 rfl) ?_
      refine lv_iload_n hx hb dL_law_548 rfl (lv_at hl 3 rfl) ?_
      refine lv_iconst (v := (1 : Int32)) hx hb dL_law_549 (by decide) ?_
      refine lv_iadd hx hb dL_law_550 ?_
      refine va_sld hx hb hX hbl hbA hS (h6 1 (by decide) (by decide)) dL_law_551 ?_
      refine lv_topi (fun p0_1 hp0_1 => ?_)
      obtain ⟨r2, x2, y2, h1, h2, hrel⟩ := hst.2.2.2.2.2.2.2.2.2.2.1 x y hrel p0_1
      refine bq_callL (wc := (bq_wC a k)) (wr := (bq_wM a' k y)) (q0 := 0) (As := [.int p0_1]) S hK hD hA hP hS (cX9_at_k_0 h1) hd_yX9_at ml_L_61 in_yX9_at (S.2.2.2.2 _ sl_X9_X9_yX9_at) ⟨rfl, rfl⟩ ⟨by decide, by decide⟩ rfl rfl rfl hl.1 rfl (Nat.le_of_ble_eq_true rfl) ⟨by decide, by decide⟩ dL_law_552 (bq_adC a k) (fun H locs hP hD hS => ?_)
      refine lv_aload_n hx hb dL_law_555 rfl (lv_at hl 2 rfl) ?_
      refine lv_aload_n hx hb dL_law_556 rfl (lv_at hl 0 rfl) ?_
      refine lv_iload_n hx hb dL_law_557 rfl (lv_at hl 3 rfl) ?_
      refine lv_iconst (v := (1 : Int32)) hx hb dL_law_558 (by decide) ?_
      refine lv_iadd hx hb dL_law_559 ?_
      refine va_sld hx hb hX hbl hbA hS (h6 1 (by decide) (by decide)) dL_law_560 ?_
      refine lv_topi (fun p1_1 hp1_1 => ?_)
      obtain rfl : p1_1 = p0_1 := hp1_1.trans hp0_1.symm
      refine bq_callL (wc := (bq_wM a' k)) (wr := (bq_wC a k x2)) (q0 := 0) (As := [.int p1_1]) S hK hD hA hP hS (cX10_at_k_0 h2) hd_yX10_at ml_L_64 in_yX10_at (S.2.2.2.2 _ sl_X10_X10_yX10_at) ⟨rfl, rfl⟩ ⟨by decide, by decide⟩ rfl rfl rfl hl.1 rfl (Nat.le_of_ble_eq_true rfl) ⟨by decide, by decide⟩ dL_law_561 (bq_adM a' k) (fun H locs hP hD hS => ?_)
      refine lv_icmp_eq (tgt := 1246) hx hb dL_law_564 (by decide) (fun _ => ?_) (fun cc => absurd rfl cc)
      exact htail x2 y2 hrel H locs ls hP hD hS hl
    by_cases c11 : v = (11 : Int32)
    · refine lv_tableIn (off := 536) (tgt := 569) hx hb dL_law_33 (by rw [c11]; decide) (by rw [c11]; decide) (by rw [c11]; rfl) (by decide) ?_
      refine lv_aload_n hx hb dL_law_569 rfl (lv_at hl 1 rfl) ?_
      refine lv_aload_n hx hb dL_law_570 rfl (lv_at hl 0 rfl) ?_
      refine lv_iload_n hx hb dL_law_571 rfl (lv_at hl 3 rfl) ?_
      refine lv_iconst (v := (1 : Int32)) hx hb dL_law_572 (by decide) ?_
      refine lv_iadd hx hb dL_law_573 ?_
      refine va_sld hx hb hX hbl hbA hS (h6 1 (by decide) (by decide)) dL_law_574 ?_
      refine lv_topi (fun p0_1 hp0_1 => ?_)
      obtain ⟨r2, x2, y2, h1, h2, hrel⟩ := hst.2.2.2.2.2.2.2.2.2.2.2.1 x y hrel p0_1
      refine bq_callL (wc := (bq_wC a k)) (wr := (bq_wM a' k y)) (q0 := 0) (As := [.int p0_1]) S hK hD hA hP hS (cX9_count_k_0 h1) hd_yX9_count ml_L_65 in_yX9_count (S.2.2.2.2 _ sl_X9_X9_yX9_count) ⟨rfl, rfl⟩ ⟨by decide, by decide⟩ rfl rfl rfl hl.1 rfl (Nat.le_of_ble_eq_true rfl) ⟨by decide, by decide⟩ dL_law_575 (bq_adC a k) (fun H locs hP hD hS => ?_)
      refine lv_aload_n hx hb dL_law_578 rfl (lv_at hl 2 rfl) ?_
      refine lv_aload_n hx hb dL_law_579 rfl (lv_at hl 0 rfl) ?_
      refine lv_iload_n hx hb dL_law_580 rfl (lv_at hl 3 rfl) ?_
      refine lv_iconst (v := (1 : Int32)) hx hb dL_law_581 (by decide) ?_
      refine lv_iadd hx hb dL_law_582 ?_
      refine va_sld hx hb hX hbl hbA hS (h6 1 (by decide) (by decide)) dL_law_583 ?_
      refine lv_topi (fun p1_1 hp1_1 => ?_)
      obtain rfl : p1_1 = p0_1 := hp1_1.trans hp0_1.symm
      refine bq_callL (wc := (bq_wM a' k)) (wr := (bq_wC a k x2)) (q0 := 0) (As := [.int p1_1]) S hK hD hA hP hS (cX10_count_k_0 h2) hd_yX10_count ml_L_68 in_yX10_count (S.2.2.2.2 _ sl_X10_X10_yX10_count) ⟨rfl, rfl⟩ ⟨by decide, by decide⟩ rfl rfl rfl hl.1 rfl (Nat.le_of_ble_eq_true rfl) ⟨by decide, by decide⟩ dL_law_584 (bq_adM a' k) (fun H locs hP hD hS => ?_)
      refine lv_icmp_eq (tgt := 1246) hx hb dL_law_587 (by decide) (fun _ => ?_) (fun cc => absurd rfl cc)
      exact htail x2 y2 hrel H locs ls hP hD hS hl
    by_cases c12 : v = (12 : Int32)
    · refine lv_tableIn (off := 559) (tgt := 592) hx hb dL_law_33 (by rw [c12]; decide) (by rw [c12]; decide) (by rw [c12]; rfl) (by decide) ?_
      refine lv_aload_n hx hb dL_law_592 rfl (lv_at hl 1 rfl) ?_
      obtain ⟨r2, x2, y2, h1, h2, hrel⟩ := hst.2.2.2.2.2.2.2.2.2.2.2.2.1 x y hrel 
      refine bq_callL (wc := (bq_wC a k)) (wr := (bq_wM a' k y)) (q0 := 0) (As := []) S hK hD hA hP hS (cX9_judged_k_0 h1) hd_yX9_judged ml_L_69 in_yX9_judged (S.2.2.2.2 _ sl_X9_X9_yX9_judged) ⟨rfl, rfl⟩ ⟨by decide, by decide⟩ rfl rfl rfl hl.1 rfl (Nat.le_of_ble_eq_true rfl) ⟨by decide, by decide⟩ dL_law_593 (bq_adC a k) (fun H locs hP hD hS => ?_)
      refine lv_aload_n hx hb dL_law_596 rfl (lv_at hl 2 rfl) ?_
      refine bq_callL (wc := (bq_wM a' k)) (wr := (bq_wC a k x2)) (q0 := 0) (As := []) S hK hD hA hP hS (cX10_judged_k_0 h2) hd_yX10_judged ml_L_72 in_yX10_judged (S.2.2.2.2 _ sl_X10_X10_yX10_judged) ⟨rfl, rfl⟩ ⟨by decide, by decide⟩ rfl rfl rfl hl.1 rfl (Nat.le_of_ble_eq_true rfl) ⟨by decide, by decide⟩ dL_law_597 (bq_adM a' k) (fun H locs hP hD hS => ?_)
      refine lv_icmp_eq (tgt := 1246) hx hb dL_law_600 (by decide) (fun _ => ?_) (fun cc => absurd rfl cc)
      exact htail x2 y2 hrel H locs ls hP hD hS hl
    by_cases c13 : v = (13 : Int32)
    · refine lv_tableIn (off := 572) (tgt := 605) hx hb dL_law_33 (by rw [c13]; decide) (by rw [c13]; decide) (by rw [c13]; rfl) (by decide) ?_
      refine lv_aload_n hx hb dL_law_605 rfl (lv_at hl 1 rfl) ?_
      refine lv_aload_n hx hb dL_law_606 rfl (lv_at hl 0 rfl) ?_
      refine lv_iload_n hx hb dL_law_607 rfl (lv_at hl 3 rfl) ?_
      refine lv_iconst (v := (1 : Int32)) hx hb dL_law_608 (by decide) ?_
      refine lv_iadd hx hb dL_law_609 ?_
      refine va_sld hx hb hX hbl hbA hS (h6 1 (by decide) (by decide)) dL_law_610 ?_
      refine lv_topi (fun p0_1 hp0_1 => ?_)
      obtain ⟨r2, x2, y2, h1, h2, hrel⟩ := hst.2.2.2.2.2.2.2.2.2.2.2.2.2.1 x y hrel p0_1
      refine bq_callL (wc := (bq_wC a k)) (wr := (bq_wM a' k y)) (q0 := 0) (As := [.int p0_1]) S hK hD hA hP hS (cX9_rows_k_0 h1) hd_yX9_rows ml_L_73 in_yX9_rows (S.2.2.2.2 _ sl_X9_X9_yX9_rows) ⟨rfl, rfl⟩ ⟨by decide, by decide⟩ rfl rfl rfl hl.1 rfl (Nat.le_of_ble_eq_true rfl) ⟨by decide, by decide⟩ dL_law_611 (bq_adC a k) (fun H locs hP hD hS => ?_)
      refine lv_aload_n hx hb dL_law_614 rfl (lv_at hl 2 rfl) ?_
      refine lv_aload_n hx hb dL_law_615 rfl (lv_at hl 0 rfl) ?_
      refine lv_iload_n hx hb dL_law_616 rfl (lv_at hl 3 rfl) ?_
      refine lv_iconst (v := (1 : Int32)) hx hb dL_law_617 (by decide) ?_
      refine lv_iadd hx hb dL_law_618 ?_
      refine va_sld hx hb hX hbl hbA hS (h6 1 (by decide) (by decide)) dL_law_619 ?_
      refine lv_topi (fun p1_1 hp1_1 => ?_)
      obtain rfl : p1_1 = p0_1 := hp1_1.trans hp0_1.symm
      refine bq_callL (wc := (bq_wM a' k)) (wr := (bq_wC a k x2)) (q0 := 0) (As := [.int p1_1]) S hK hD hA hP hS (cX10_rows_k_0 h2) hd_yX10_rows ml_L_76 in_yX10_rows (S.2.2.2.2 _ sl_X10_X10_yX10_rows) ⟨rfl, rfl⟩ ⟨by decide, by decide⟩ rfl rfl rfl hl.1 rfl (Nat.le_of_ble_eq_true rfl) ⟨by decide, by decide⟩ dL_law_620 (bq_adM a' k) (fun H locs hP hD hS => ?_)
      refine lv_icmp_eq (tgt := 1246) hx hb dL_law_623 (by decide) (fun _ => ?_) (fun cc => absurd rfl cc)
      exact htail x2 y2 hrel H locs ls hP hD hS hl
    by_cases c14 : v = (14 : Int32)
    · refine lv_tableIn (off := 595) (tgt := 628) hx hb dL_law_33 (by rw [c14]; decide) (by rw [c14]; decide) (by rw [c14]; rfl) (by decide) ?_
      refine lv_aload_n hx hb dL_law_628 rfl (lv_at hl 1 rfl) ?_
      refine lv_aload_n hx hb dL_law_629 rfl (lv_at hl 0 rfl) ?_
      refine lv_iload_n hx hb dL_law_630 rfl (lv_at hl 3 rfl) ?_
      refine lv_iconst (v := (1 : Int32)) hx hb dL_law_631 (by decide) ?_
      refine lv_iadd hx hb dL_law_632 ?_
      refine va_sld hx hb hX hbl hbA hS (h6 1 (by decide) (by decide)) dL_law_633 ?_
      refine lv_topi (fun p0_1 hp0_1 => ?_)
      refine lv_aload_n hx hb dL_law_634 rfl (lv_at hl 0 rfl) ?_
      refine lv_iload_n hx hb dL_law_635 rfl (lv_at hl 3 rfl) ?_
      refine lv_iconst (v := (2 : Int32)) hx hb dL_law_636 (by decide) ?_
      refine lv_iadd hx hb dL_law_637 ?_
      refine va_sld hx hb hX hbl hbA hS (h6 2 (by decide) (by decide)) dL_law_638 ?_
      refine lv_topi (fun p0_2 hp0_2 => ?_)
      refine lv_aload_n hx hb dL_law_639 rfl (lv_at hl 0 rfl) ?_
      refine lv_iload_n hx hb dL_law_640 rfl (lv_at hl 3 rfl) ?_
      refine lv_iconst (v := (3 : Int32)) hx hb dL_law_641 (by decide) ?_
      refine lv_iadd hx hb dL_law_642 ?_
      refine va_sld hx hb hX hbl hbA hS (h6 3 (by decide) (by decide)) dL_law_643 ?_
      refine lv_topi (fun p0_3 hp0_3 => ?_)
      obtain ⟨r2, x2, y2, h1, h2, hrel⟩ := hst.2.2.2.2.2.2.2.2.2.2.2.2.2.2.1 x y hrel p0_1 p0_2 p0_3
      refine bq_callL (wc := (bq_wC a k)) (wr := (bq_wM a' k y)) (q0 := 0) (As := [.int p0_1, .int p0_2, .int p0_3]) S hK hD hA hP hS (cX9_row_k_0 h1) hd_yX9_row ml_L_77 in_yX9_row (S.2.2.2.2 _ sl_X9_X9_yX9_row) ⟨rfl, rfl⟩ ⟨by decide, by decide⟩ rfl rfl rfl hl.1 rfl (Nat.le_of_ble_eq_true rfl) ⟨by decide, by decide⟩ dL_law_644 (bq_adC a k) (fun H locs hP hD hS => ?_)
      refine lv_aload_n hx hb dL_law_647 rfl (lv_at hl 2 rfl) ?_
      refine lv_aload_n hx hb dL_law_648 rfl (lv_at hl 0 rfl) ?_
      refine lv_iload_n hx hb dL_law_649 rfl (lv_at hl 3 rfl) ?_
      refine lv_iconst (v := (1 : Int32)) hx hb dL_law_650 (by decide) ?_
      refine lv_iadd hx hb dL_law_651 ?_
      refine va_sld hx hb hX hbl hbA hS (h6 1 (by decide) (by decide)) dL_law_652 ?_
      refine lv_topi (fun p1_1 hp1_1 => ?_)
      obtain rfl : p1_1 = p0_1 := hp1_1.trans hp0_1.symm
      refine lv_aload_n hx hb dL_law_653 rfl (lv_at hl 0 rfl) ?_
      refine lv_iload_n hx hb dL_law_654 rfl (lv_at hl 3 rfl) ?_
      refine lv_iconst (v := (2 : Int32)) hx hb dL_law_655 (by decide) ?_
      refine lv_iadd hx hb dL_law_656 ?_
      refine va_sld hx hb hX hbl hbA hS (h6 2 (by decide) (by decide)) dL_law_657 ?_
      refine lv_topi (fun p1_2 hp1_2 => ?_)
      obtain rfl : p1_2 = p0_2 := hp1_2.trans hp0_2.symm
      refine lv_aload_n hx hb dL_law_658 rfl (lv_at hl 0 rfl) ?_
      refine lv_iload_n hx hb dL_law_659 rfl (lv_at hl 3 rfl) ?_
      refine lv_iconst (v := (3 : Int32)) hx hb dL_law_660 (by decide) ?_
      refine lv_iadd hx hb dL_law_661 ?_
      refine va_sld hx hb hX hbl hbA hS (h6 3 (by decide) (by decide)) dL_law_662 ?_
      refine lv_topi (fun p1_3 hp1_3 => ?_)
      obtain rfl : p1_3 = p0_3 := hp1_3.trans hp0_3.symm
      refine bq_callL (wc := (bq_wM a' k)) (wr := (bq_wC a k x2)) (q0 := 0) (As := [.int p1_1, .int p1_2, .int p1_3]) S hK hD hA hP hS (cX10_row_k_0 h2) hd_yX10_row ml_L_81 in_yX10_row (S.2.2.2.2 _ sl_X10_X10_yX10_row) ⟨rfl, rfl⟩ ⟨by decide, by decide⟩ rfl rfl rfl hl.1 rfl (Nat.le_of_ble_eq_true rfl) ⟨by decide, by decide⟩ dL_law_663 (bq_adM a' k) (fun H locs hP hD hS => ?_)
      refine lv_icmp_eq (tgt := 1246) hx hb dL_law_666 (by decide) (fun _ => ?_) (fun cc => absurd rfl cc)
      exact htail x2 y2 hrel H locs ls hP hD hS hl
    by_cases c15 : v = (15 : Int32)
    · refine lv_tableIn (off := 638) (tgt := 671) hx hb dL_law_33 (by rw [c15]; decide) (by rw [c15]; decide) (by rw [c15]; rfl) (by decide) ?_
      refine lv_aload_n hx hb dL_law_671 rfl (lv_at hl 1 rfl) ?_
      refine lv_aload_n hx hb dL_law_672 rfl (lv_at hl 0 rfl) ?_
      refine lv_iload_n hx hb dL_law_673 rfl (lv_at hl 3 rfl) ?_
      refine lv_iconst (v := (1 : Int32)) hx hb dL_law_674 (by decide) ?_
      refine lv_iadd hx hb dL_law_675 ?_
      refine va_sld hx hb hX hbl hbA hS (h6 1 (by decide) (by decide)) dL_law_676 ?_
      refine lv_topi (fun p0_1 hp0_1 => ?_)
      obtain ⟨r2, x2, y2, h1, h2, hrel⟩ := hst.2.2.2.2.2.2.2.2.2.2.2.2.2.2.2.1 x y hrel p0_1
      refine bq_callL (wc := (bq_wC a k)) (wr := (bq_wM a' k y)) (q0 := 0) (As := [.int p0_1]) S hK hD hA hP hS (cX9_cut_k_0 h1) hd_yX9_cut ml_L_82 in_yX9_cut (S.2.2.2.2 _ sl_X9_X9_yX9_cut) ⟨rfl, rfl⟩ ⟨by decide, by decide⟩ rfl rfl rfl hl.1 rfl (Nat.le_of_ble_eq_true rfl) ⟨by decide, by decide⟩ dL_law_677 (bq_adC a k) (fun H locs hP hD hS => ?_)
      refine lv_aload_n hx hb dL_law_680 rfl (lv_at hl 2 rfl) ?_
      refine lv_aload_n hx hb dL_law_681 rfl (lv_at hl 0 rfl) ?_
      refine lv_iload_n hx hb dL_law_682 rfl (lv_at hl 3 rfl) ?_
      refine lv_iconst (v := (1 : Int32)) hx hb dL_law_683 (by decide) ?_
      refine lv_iadd hx hb dL_law_684 ?_
      refine va_sld hx hb hX hbl hbA hS (h6 1 (by decide) (by decide)) dL_law_685 ?_
      refine lv_topi (fun p1_1 hp1_1 => ?_)
      obtain rfl : p1_1 = p0_1 := hp1_1.trans hp0_1.symm
      refine bq_callL (wc := (bq_wM a' k)) (wr := (bq_wC a k x2)) (q0 := 0) (As := [.int p1_1]) S hK hD hA hP hS (cX10_cut_k_0 h2) hd_yX10_cut ml_L_85 in_yX10_cut (S.2.2.2.2 _ sl_X10_X10_yX10_cut) ⟨rfl, rfl⟩ ⟨by decide, by decide⟩ rfl rfl rfl hl.1 rfl (Nat.le_of_ble_eq_true rfl) ⟨by decide, by decide⟩ dL_law_686 (bq_adM a' k) (fun H locs hP hD hS => ?_)
      refine lv_icmp_eq (tgt := 1246) hx hb dL_law_689 (by decide) (fun _ => ?_) (fun cc => absurd rfl cc)
      exact htail x2 y2 hrel H locs ls hP hD hS hl
    by_cases c16 : v = (16 : Int32)
    · refine lv_tableIn (off := 661) (tgt := 694) hx hb dL_law_33 (by rw [c16]; decide) (by rw [c16]; decide) (by rw [c16]; rfl) (by decide) ?_
      refine lv_aload_n hx hb dL_law_694 rfl (lv_at hl 1 rfl) ?_
      refine lv_aload_n hx hb dL_law_695 rfl (lv_at hl 0 rfl) ?_
      refine lv_iload_n hx hb dL_law_696 rfl (lv_at hl 3 rfl) ?_
      refine lv_iconst (v := (1 : Int32)) hx hb dL_law_697 (by decide) ?_
      refine lv_iadd hx hb dL_law_698 ?_
      refine va_sld hx hb hX hbl hbA hS (h6 1 (by decide) (by decide)) dL_law_699 ?_
      refine lv_topi (fun p0_1 hp0_1 => ?_)
      obtain ⟨r2, x2, y2, h1, h2, hrel⟩ := hst.2.2.2.2.2.2.2.2.2.2.2.2.2.2.2.2.1 x y hrel p0_1
      refine bq_callL (wc := (bq_wC a k)) (wr := (bq_wM a' k y)) (q0 := 0) (As := [.int p0_1]) S hK hD hA hP hS (cX9_put_k_0 h1) hd_yX9_put ml_L_86 in_yX9_put (S.2.2.2.2 _ sl_X9_X9_yX9_put) ⟨rfl, rfl⟩ ⟨by decide, by decide⟩ rfl rfl rfl hl.1 rfl (Nat.le_of_ble_eq_true rfl) ⟨by decide, by decide⟩ dL_law_700 (bq_adC a k) (fun H locs hP hD hS => ?_)
      refine lv_aload_n hx hb dL_law_703 rfl (lv_at hl 2 rfl) ?_
      refine lv_aload_n hx hb dL_law_704 rfl (lv_at hl 0 rfl) ?_
      refine lv_iload_n hx hb dL_law_705 rfl (lv_at hl 3 rfl) ?_
      refine lv_iconst (v := (1 : Int32)) hx hb dL_law_706 (by decide) ?_
      refine lv_iadd hx hb dL_law_707 ?_
      refine va_sld hx hb hX hbl hbA hS (h6 1 (by decide) (by decide)) dL_law_708 ?_
      refine lv_topi (fun p1_1 hp1_1 => ?_)
      obtain rfl : p1_1 = p0_1 := hp1_1.trans hp0_1.symm
      refine bq_callL (wc := (bq_wM a' k)) (wr := (bq_wC a k x2)) (q0 := 0) (As := [.int p1_1]) S hK hD hA hP hS (cX10_put_k_0 h2) hd_yX10_put ml_L_89 in_yX10_put (S.2.2.2.2 _ sl_X10_X10_yX10_put) ⟨rfl, rfl⟩ ⟨by decide, by decide⟩ rfl rfl rfl hl.1 rfl (Nat.le_of_ble_eq_true rfl) ⟨by decide, by decide⟩ dL_law_709 (bq_adM a' k) (fun H locs hP hD hS => ?_)
      refine lv_icmp_eq (tgt := 1246) hx hb dL_law_712 (by decide) (fun _ => ?_) (fun cc => absurd rfl cc)
      exact htail x2 y2 hrel H locs ls hP hD hS hl
    by_cases c17 : v = (17 : Int32)
    · refine lv_tableIn (off := 684) (tgt := 717) hx hb dL_law_33 (by rw [c17]; decide) (by rw [c17]; decide) (by rw [c17]; rfl) (by decide) ?_
      refine lv_aload_n hx hb dL_law_717 rfl (lv_at hl 1 rfl) ?_
      refine lv_aload_n hx hb dL_law_718 rfl (lv_at hl 0 rfl) ?_
      refine lv_iload_n hx hb dL_law_719 rfl (lv_at hl 3 rfl) ?_
      refine lv_iconst (v := (1 : Int32)) hx hb dL_law_720 (by decide) ?_
      refine lv_iadd hx hb dL_law_721 ?_
      refine va_sld hx hb hX hbl hbA hS (h6 1 (by decide) (by decide)) dL_law_722 ?_
      refine lv_topi (fun p0_1 hp0_1 => ?_)
      obtain ⟨r2, x2, y2, h1, h2, hrel⟩ := hst.2.2.2.2.2.2.2.2.2.2.2.2.2.2.2.2.2.1 x y hrel p0_1
      refine bq_callL (wc := (bq_wC a k)) (wr := (bq_wM a' k y)) (q0 := 0) (As := [.int p0_1]) S hK hD hA hP hS (cX9_lend_k_0 h1) hd_yX9_lend ml_L_90 in_yX9_lend (S.2.2.2.2 _ sl_X9_X9_yX9_lend) ⟨rfl, rfl⟩ ⟨by decide, by decide⟩ rfl rfl rfl hl.1 rfl (Nat.le_of_ble_eq_true rfl) ⟨by decide, by decide⟩ dL_law_723 (bq_adC a k) (fun H locs hP hD hS => ?_)
      refine lv_aload_n hx hb dL_law_726 rfl (lv_at hl 2 rfl) ?_
      refine lv_aload_n hx hb dL_law_727 rfl (lv_at hl 0 rfl) ?_
      refine lv_iload_n hx hb dL_law_728 rfl (lv_at hl 3 rfl) ?_
      refine lv_iconst (v := (1 : Int32)) hx hb dL_law_729 (by decide) ?_
      refine lv_iadd hx hb dL_law_730 ?_
      refine va_sld hx hb hX hbl hbA hS (h6 1 (by decide) (by decide)) dL_law_731 ?_
      refine lv_topi (fun p1_1 hp1_1 => ?_)
      obtain rfl : p1_1 = p0_1 := hp1_1.trans hp0_1.symm
      refine bq_callL (wc := (bq_wM a' k)) (wr := (bq_wC a k x2)) (q0 := 0) (As := [.int p1_1]) S hK hD hA hP hS (cX10_lend_k_0 h2) hd_yX10_lend ml_L_93 in_yX10_lend (S.2.2.2.2 _ sl_X10_X10_yX10_lend) ⟨rfl, rfl⟩ ⟨by decide, by decide⟩ rfl rfl rfl hl.1 rfl (Nat.le_of_ble_eq_true rfl) ⟨by decide, by decide⟩ dL_law_732 (bq_adM a' k) (fun H locs hP hD hS => ?_)
      refine lv_icmp_eq (tgt := 1246) hx hb dL_law_735 (by decide) (fun _ => ?_) (fun cc => absurd rfl cc)
      exact htail x2 y2 hrel H locs ls hP hD hS hl
    by_cases c18 : v = (18 : Int32)
    · refine lv_tableIn (off := 707) (tgt := 740) hx hb dL_law_33 (by rw [c18]; decide) (by rw [c18]; decide) (by rw [c18]; rfl) (by decide) ?_
      refine lv_aload_n hx hb dL_law_740 rfl (lv_at hl 1 rfl) ?_
      refine lv_aload_n hx hb dL_law_741 rfl (lv_at hl 0 rfl) ?_
      refine lv_iload_n hx hb dL_law_742 rfl (lv_at hl 3 rfl) ?_
      refine lv_iconst (v := (1 : Int32)) hx hb dL_law_743 (by decide) ?_
      refine lv_iadd hx hb dL_law_744 ?_
      refine va_sld hx hb hX hbl hbA hS (h6 1 (by decide) (by decide)) dL_law_745 ?_
      refine lv_topi (fun p0_1 hp0_1 => ?_)
      refine lv_aload_n hx hb dL_law_746 rfl (lv_at hl 0 rfl) ?_
      refine lv_iload_n hx hb dL_law_747 rfl (lv_at hl 3 rfl) ?_
      refine lv_iconst (v := (2 : Int32)) hx hb dL_law_748 (by decide) ?_
      refine lv_iadd hx hb dL_law_749 ?_
      refine va_sld hx hb hX hbl hbA hS (h6 2 (by decide) (by decide)) dL_law_750 ?_
      refine lv_topi (fun p0_2 hp0_2 => ?_)
      obtain ⟨r2, x2, y2, h1, h2, hrel⟩ := hst.2.2.2.2.2.2.2.2.2.2.2.2.2.2.2.2.2.2.1 x y hrel p0_1 p0_2
      refine bq_callL (wc := (bq_wC a k)) (wr := (bq_wM a' k y)) (q0 := 0) (As := [.int p0_1, .int p0_2]) S hK hD hA hP hS (cX9_forged_k_0 h1) hd_yX9_forged ml_L_94 in_yX9_forged (S.2.2.2.2 _ sl_X9_X9_yX9_forged) ⟨rfl, rfl⟩ ⟨by decide, by decide⟩ rfl rfl rfl hl.1 rfl (Nat.le_of_ble_eq_true rfl) ⟨by decide, by decide⟩ dL_law_751 (bq_adC a k) (fun H locs hP hD hS => ?_)
      refine lv_aload_n hx hb dL_law_754 rfl (lv_at hl 2 rfl) ?_
      refine lv_aload_n hx hb dL_law_755 rfl (lv_at hl 0 rfl) ?_
      refine lv_iload_n hx hb dL_law_756 rfl (lv_at hl 3 rfl) ?_
      refine lv_iconst (v := (1 : Int32)) hx hb dL_law_757 (by decide) ?_
      refine lv_iadd hx hb dL_law_758 ?_
      refine va_sld hx hb hX hbl hbA hS (h6 1 (by decide) (by decide)) dL_law_759 ?_
      refine lv_topi (fun p1_1 hp1_1 => ?_)
      obtain rfl : p1_1 = p0_1 := hp1_1.trans hp0_1.symm
      refine lv_aload_n hx hb dL_law_760 rfl (lv_at hl 0 rfl) ?_
      refine lv_iload_n hx hb dL_law_761 rfl (lv_at hl 3 rfl) ?_
      refine lv_iconst (v := (2 : Int32)) hx hb dL_law_762 (by decide) ?_
      refine lv_iadd hx hb dL_law_763 ?_
      refine va_sld hx hb hX hbl hbA hS (h6 2 (by decide) (by decide)) dL_law_764 ?_
      refine lv_topi (fun p1_2 hp1_2 => ?_)
      obtain rfl : p1_2 = p0_2 := hp1_2.trans hp0_2.symm
      refine bq_callL (wc := (bq_wM a' k)) (wr := (bq_wC a k x2)) (q0 := 0) (As := [.int p1_1, .int p1_2]) S hK hD hA hP hS (cX10_forged_k_0 h2) hd_yX10_forged ml_L_97 in_yX10_forged (S.2.2.2.2 _ sl_X10_X10_yX10_forged) ⟨rfl, rfl⟩ ⟨by decide, by decide⟩ rfl rfl rfl hl.1 rfl (Nat.le_of_ble_eq_true rfl) ⟨by decide, by decide⟩ dL_law_765 (bq_adM a' k) (fun H locs hP hD hS => ?_)
      refine lv_icmp_eq (tgt := 1246) hx hb dL_law_768 (by decide) (fun _ => ?_) (fun cc => absurd rfl cc)
      exact htail x2 y2 hrel H locs ls hP hD hS hl
    by_cases c19 : v = (19 : Int32)
    · refine lv_tableIn (off := 740) (tgt := 773) hx hb dL_law_33 (by rw [c19]; decide) (by rw [c19]; decide) (by rw [c19]; rfl) (by decide) ?_
      refine lv_aload_n hx hb dL_law_773 rfl (lv_at hl 1 rfl) ?_
      refine lv_aload_n hx hb dL_law_774 rfl (lv_at hl 0 rfl) ?_
      refine lv_iload_n hx hb dL_law_775 rfl (lv_at hl 3 rfl) ?_
      refine lv_iconst (v := (1 : Int32)) hx hb dL_law_776 (by decide) ?_
      refine lv_iadd hx hb dL_law_777 ?_
      refine va_sld hx hb hX hbl hbA hS (h6 1 (by decide) (by decide)) dL_law_778 ?_
      refine lv_topi (fun p0_1 hp0_1 => ?_)
      refine lv_aload_n hx hb dL_law_779 rfl (lv_at hl 0 rfl) ?_
      refine lv_iload_n hx hb dL_law_780 rfl (lv_at hl 3 rfl) ?_
      refine lv_iconst (v := (2 : Int32)) hx hb dL_law_781 (by decide) ?_
      refine lv_iadd hx hb dL_law_782 ?_
      refine va_sld hx hb hX hbl hbA hS (h6 2 (by decide) (by decide)) dL_law_783 ?_
      refine lv_topi (fun p0_2 hp0_2 => ?_)
      refine lv_aload_n hx hb dL_law_784 rfl (lv_at hl 0 rfl) ?_
      refine lv_iload_n hx hb dL_law_785 rfl (lv_at hl 3 rfl) ?_
      refine lv_iconst (v := (3 : Int32)) hx hb dL_law_786 (by decide) ?_
      refine lv_iadd hx hb dL_law_787 ?_
      refine va_sld hx hb hX hbl hbA hS (h6 3 (by decide) (by decide)) dL_law_788 ?_
      refine lv_topi (fun p0_3 hp0_3 => ?_)
      obtain ⟨r2, x2, y2, h1, h2, hrel⟩ := hst.2.2.2.2.2.2.2.2.2.2.2.2.2.2.2.2.2.2.2.1 x y hrel p0_1 p0_2 p0_3
      refine bq_callL (wc := (bq_wC a k)) (wr := (bq_wM a' k y)) (q0 := 0) (As := [.int p0_1, .int p0_2, .int p0_3]) S hK hD hA hP hS (cX9_apart_k_0 h1) hd_yX9_apart ml_L_98 in_yX9_apart (S.2.2.2.2 _ sl_X9_X9_yX9_apart) ⟨rfl, rfl⟩ ⟨by decide, by decide⟩ rfl rfl rfl hl.1 rfl (Nat.le_of_ble_eq_true rfl) ⟨by decide, by decide⟩ dL_law_789 (bq_adC a k) (fun H locs hP hD hS => ?_)
      refine lv_aload_n hx hb dL_law_792 rfl (lv_at hl 2 rfl) ?_
      refine lv_aload_n hx hb dL_law_793 rfl (lv_at hl 0 rfl) ?_
      refine lv_iload_n hx hb dL_law_794 rfl (lv_at hl 3 rfl) ?_
      refine lv_iconst (v := (1 : Int32)) hx hb dL_law_795 (by decide) ?_
      refine lv_iadd hx hb dL_law_796 ?_
      refine va_sld hx hb hX hbl hbA hS (h6 1 (by decide) (by decide)) dL_law_797 ?_
      refine lv_topi (fun p1_1 hp1_1 => ?_)
      obtain rfl : p1_1 = p0_1 := hp1_1.trans hp0_1.symm
      refine lv_aload_n hx hb dL_law_798 rfl (lv_at hl 0 rfl) ?_
      refine lv_iload_n hx hb dL_law_799 rfl (lv_at hl 3 rfl) ?_
      refine lv_iconst (v := (2 : Int32)) hx hb dL_law_800 (by decide) ?_
      refine lv_iadd hx hb dL_law_801 ?_
      refine va_sld hx hb hX hbl hbA hS (h6 2 (by decide) (by decide)) dL_law_802 ?_
      refine lv_topi (fun p1_2 hp1_2 => ?_)
      obtain rfl : p1_2 = p0_2 := hp1_2.trans hp0_2.symm
      refine lv_aload_n hx hb dL_law_803 rfl (lv_at hl 0 rfl) ?_
      refine lv_iload_n hx hb dL_law_804 rfl (lv_at hl 3 rfl) ?_
      refine lv_iconst (v := (3 : Int32)) hx hb dL_law_805 (by decide) ?_
      refine lv_iadd hx hb dL_law_806 ?_
      refine va_sld hx hb hX hbl hbA hS (h6 3 (by decide) (by decide)) dL_law_807 ?_
      refine lv_topi (fun p1_3 hp1_3 => ?_)
      obtain rfl : p1_3 = p0_3 := hp1_3.trans hp0_3.symm
      refine bq_callL (wc := (bq_wM a' k)) (wr := (bq_wC a k x2)) (q0 := 0) (As := [.int p1_1, .int p1_2, .int p1_3]) S hK hD hA hP hS (cX10_apart_k_0 h2) hd_yX10_apart ml_L_101 in_yX10_apart (S.2.2.2.2 _ sl_X10_X10_yX10_apart) ⟨rfl, rfl⟩ ⟨by decide, by decide⟩ rfl rfl rfl hl.1 rfl (Nat.le_of_ble_eq_true rfl) ⟨by decide, by decide⟩ dL_law_808 (bq_adM a' k) (fun H locs hP hD hS => ?_)
      refine lv_icmp_eq (tgt := 1246) hx hb dL_law_811 (by decide) (fun _ => ?_) (fun cc => absurd rfl cc)
      exact htail x2 y2 hrel H locs ls hP hD hS hl
    by_cases c20 : v = (20 : Int32)
    · refine lv_tableIn (off := 783) (tgt := 816) hx hb dL_law_33 (by rw [c20]; decide) (by rw [c20]; decide) (by rw [c20]; rfl) (by decide) ?_
      refine lv_aload_n hx hb dL_law_816 rfl (lv_at hl 1 rfl) ?_
      refine lv_aload_n hx hb dL_law_817 rfl (lv_at hl 0 rfl) ?_
      refine lv_iload_n hx hb dL_law_818 rfl (lv_at hl 3 rfl) ?_
      refine lv_iconst (v := (1 : Int32)) hx hb dL_law_819 (by decide) ?_
      refine lv_iadd hx hb dL_law_820 ?_
      refine va_sld hx hb hX hbl hbA hS (h6 1 (by decide) (by decide)) dL_law_821 ?_
      refine lv_topi (fun p0_1 hp0_1 => ?_)
      obtain ⟨r2, x2, y2, h1, h2, hrel⟩ := hst.2.2.2.2.2.2.2.2.2.2.2.2.2.2.2.2.2.2.2.2.1 x y hrel p0_1
      refine bq_callL (wc := (bq_wC a k)) (wr := (bq_wM a' k y)) (q0 := 0) (As := [.int p0_1]) S hK hD hA hP hS (cX9_free_k_0 h1) hd_yX9_free ml_L_102 in_yX9_free (S.2.2.2.2 _ sl_X9_X9_yX9_free) ⟨rfl, rfl⟩ ⟨by decide, by decide⟩ rfl rfl rfl hl.1 rfl (Nat.le_of_ble_eq_true rfl) ⟨by decide, by decide⟩ dL_law_822 (bq_adC a k) (fun H locs hP hD hS => ?_)
      refine lv_aload_n hx hb dL_law_825 rfl (lv_at hl 2 rfl) ?_
      refine lv_aload_n hx hb dL_law_826 rfl (lv_at hl 0 rfl) ?_
      refine lv_iload_n hx hb dL_law_827 rfl (lv_at hl 3 rfl) ?_
      refine lv_iconst (v := (1 : Int32)) hx hb dL_law_828 (by decide) ?_
      refine lv_iadd hx hb dL_law_829 ?_
      refine va_sld hx hb hX hbl hbA hS (h6 1 (by decide) (by decide)) dL_law_830 ?_
      refine lv_topi (fun p1_1 hp1_1 => ?_)
      obtain rfl : p1_1 = p0_1 := hp1_1.trans hp0_1.symm
      refine bq_callL (wc := (bq_wM a' k)) (wr := (bq_wC a k x2)) (q0 := 0) (As := [.int p1_1]) S hK hD hA hP hS (cX10_free_k_0 h2) hd_yX10_free ml_L_105 in_yX10_free (S.2.2.2.2 _ sl_X10_X10_yX10_free) ⟨rfl, rfl⟩ ⟨by decide, by decide⟩ rfl rfl rfl hl.1 rfl (Nat.le_of_ble_eq_true rfl) ⟨by decide, by decide⟩ dL_law_831 (bq_adM a' k) (fun H locs hP hD hS => ?_)
      refine lv_icmp_eq (tgt := 1246) hx hb dL_law_834 (by decide) (fun _ => ?_) (fun cc => absurd rfl cc)
      exact htail x2 y2 hrel H locs ls hP hD hS hl
    by_cases c21 : v = (21 : Int32)
    · refine lv_tableIn (off := 806) (tgt := 839) hx hb dL_law_33 (by rw [c21]; decide) (by rw [c21]; decide) (by rw [c21]; rfl) (by decide) ?_
      refine lv_aload_n hx hb dL_law_839 rfl (lv_at hl 1 rfl) ?_
      refine lv_aload_n hx hb dL_law_840 rfl (lv_at hl 0 rfl) ?_
      refine lv_iload_n hx hb dL_law_841 rfl (lv_at hl 3 rfl) ?_
      refine lv_iconst (v := (1 : Int32)) hx hb dL_law_842 (by decide) ?_
      refine lv_iadd hx hb dL_law_843 ?_
      refine va_sld hx hb hX hbl hbA hS (h6 1 (by decide) (by decide)) dL_law_844 ?_
      refine lv_topi (fun p0_1 hp0_1 => ?_)
      refine lv_aload_n hx hb dL_law_845 rfl (lv_at hl 0 rfl) ?_
      refine lv_iload_n hx hb dL_law_846 rfl (lv_at hl 3 rfl) ?_
      refine lv_iconst (v := (2 : Int32)) hx hb dL_law_847 (by decide) ?_
      refine lv_iadd hx hb dL_law_848 ?_
      refine va_sld hx hb hX hbl hbA hS (h6 2 (by decide) (by decide)) dL_law_849 ?_
      refine lv_topi (fun p0_2 hp0_2 => ?_)
      refine lv_aload_n hx hb dL_law_850 rfl (lv_at hl 0 rfl) ?_
      refine lv_iload_n hx hb dL_law_851 rfl (lv_at hl 3 rfl) ?_
      refine lv_iconst (v := (3 : Int32)) hx hb dL_law_852 (by decide) ?_
      refine lv_iadd hx hb dL_law_853 ?_
      refine va_sld hx hb hX hbl hbA hS (h6 3 (by decide) (by decide)) dL_law_854 ?_
      refine lv_topi (fun p0_3 hp0_3 => ?_)
      refine lv_aload_n hx hb dL_law_855 rfl (lv_at hl 0 rfl) ?_
      refine lv_iload_n hx hb dL_law_856 rfl (lv_at hl 3 rfl) ?_
      refine lv_iconst (v := (4 : Int32)) hx hb dL_law_857 (by decide) ?_
      refine lv_iadd hx hb dL_law_858 ?_
      refine va_sld hx hb hX hbl hbA hS (h6 4 (by decide) (by decide)) dL_law_859 ?_
      refine lv_topi (fun p0_4 hp0_4 => ?_)
      refine lv_aload_n hx hb dL_law_860 rfl (lv_at hl 0 rfl) ?_
      refine lv_iload_n hx hb dL_law_861 rfl (lv_at hl 3 rfl) ?_
      refine lv_iconst (v := (5 : Int32)) hx hb dL_law_862 (by decide) ?_
      refine lv_iadd hx hb dL_law_863 ?_
      refine va_sld hx hb hX hbl hbA hS (h6 5 (by decide) (by decide)) dL_law_864 ?_
      refine lv_topi (fun p0_5 hp0_5 => ?_)
      obtain ⟨r2, x2, y2, h1, h2, hrel⟩ := hst.2.2.2.2.2.2.2.2.2.2.2.2.2.2.2.2.2.2.2.2.2.1 x y hrel p0_1 p0_2 p0_3 p0_4 p0_5
      refine bq_callL (wc := (bq_wC a k)) (wr := (bq_wM a' k y)) (q0 := 0) (As := [.int p0_1, .int p0_2, .int p0_3, .int p0_4, .int p0_5]) S hK hD hA hP hS (cX9_burnt_k_0 h1) hd_yX9_burnt ml_L_106 in_yX9_burnt (S.2.2.2.2 _ sl_X9_X9_yX9_burnt) ⟨rfl, rfl⟩ ⟨by decide, by decide⟩ rfl rfl rfl hl.1 rfl (Nat.le_of_ble_eq_true rfl) ⟨by decide, by decide⟩ dL_law_865 (bq_adC a k) (fun H locs hP hD hS => ?_)
      refine lv_aload_n hx hb dL_law_868 rfl (lv_at hl 2 rfl) ?_
      refine lv_aload_n hx hb dL_law_869 rfl (lv_at hl 0 rfl) ?_
      refine lv_iload_n hx hb dL_law_870 rfl (lv_at hl 3 rfl) ?_
      refine lv_iconst (v := (1 : Int32)) hx hb dL_law_871 (by decide) ?_
      refine lv_iadd hx hb dL_law_872 ?_
      refine va_sld hx hb hX hbl hbA hS (h6 1 (by decide) (by decide)) dL_law_873 ?_
      refine lv_topi (fun p1_1 hp1_1 => ?_)
      obtain rfl : p1_1 = p0_1 := hp1_1.trans hp0_1.symm
      refine lv_aload_n hx hb dL_law_874 rfl (lv_at hl 0 rfl) ?_
      refine lv_iload_n hx hb dL_law_875 rfl (lv_at hl 3 rfl) ?_
      refine lv_iconst (v := (2 : Int32)) hx hb dL_law_876 (by decide) ?_
      refine lv_iadd hx hb dL_law_877 ?_
      refine va_sld hx hb hX hbl hbA hS (h6 2 (by decide) (by decide)) dL_law_878 ?_
      refine lv_topi (fun p1_2 hp1_2 => ?_)
      obtain rfl : p1_2 = p0_2 := hp1_2.trans hp0_2.symm
      refine lv_aload_n hx hb dL_law_879 rfl (lv_at hl 0 rfl) ?_
      refine lv_iload_n hx hb dL_law_880 rfl (lv_at hl 3 rfl) ?_
      refine lv_iconst (v := (3 : Int32)) hx hb dL_law_881 (by decide) ?_
      refine lv_iadd hx hb dL_law_882 ?_
      refine va_sld hx hb hX hbl hbA hS (h6 3 (by decide) (by decide)) dL_law_883 ?_
      refine lv_topi (fun p1_3 hp1_3 => ?_)
      obtain rfl : p1_3 = p0_3 := hp1_3.trans hp0_3.symm
      refine lv_aload_n hx hb dL_law_884 rfl (lv_at hl 0 rfl) ?_
      refine lv_iload_n hx hb dL_law_885 rfl (lv_at hl 3 rfl) ?_
      refine lv_iconst (v := (4 : Int32)) hx hb dL_law_886 (by decide) ?_
      refine lv_iadd hx hb dL_law_887 ?_
      refine va_sld hx hb hX hbl hbA hS (h6 4 (by decide) (by decide)) dL_law_888 ?_
      refine lv_topi (fun p1_4 hp1_4 => ?_)
      obtain rfl : p1_4 = p0_4 := hp1_4.trans hp0_4.symm
      refine lv_aload_n hx hb dL_law_889 rfl (lv_at hl 0 rfl) ?_
      refine lv_iload_n hx hb dL_law_890 rfl (lv_at hl 3 rfl) ?_
      refine lv_iconst (v := (5 : Int32)) hx hb dL_law_891 (by decide) ?_
      refine lv_iadd hx hb dL_law_892 ?_
      refine va_sld hx hb hX hbl hbA hS (h6 5 (by decide) (by decide)) dL_law_893 ?_
      refine lv_topi (fun p1_5 hp1_5 => ?_)
      obtain rfl : p1_5 = p0_5 := hp1_5.trans hp0_5.symm
      refine bq_callL (wc := (bq_wM a' k)) (wr := (bq_wC a k x2)) (q0 := 0) (As := [.int p1_1, .int p1_2, .int p1_3, .int p1_4, .int p1_5]) S hK hD hA hP hS (cX10_burnt_k_0 h2) hd_yX10_burnt ml_L_110 in_yX10_burnt (S.2.2.2.2 _ sl_X10_X10_yX10_burnt) ⟨rfl, rfl⟩ ⟨by decide, by decide⟩ rfl rfl rfl hl.1 rfl (Nat.le_of_ble_eq_true rfl) ⟨by decide, by decide⟩ dL_law_894 (bq_adM a' k) (fun H locs hP hD hS => ?_)
      refine lv_icmp_eq (tgt := 1246) hx hb dL_law_897 (by decide) (fun _ => ?_) (fun cc => absurd rfl cc)
      exact htail x2 y2 hrel H locs ls hP hD hS hl
    by_cases c22 : v = (22 : Int32)
    · refine lv_tableIn (off := 869) (tgt := 902) hx hb dL_law_33 (by rw [c22]; decide) (by rw [c22]; decide) (by rw [c22]; rfl) (by decide) ?_
      refine lv_aload_n hx hb dL_law_902 rfl (lv_at hl 1 rfl) ?_
      obtain ⟨r2, x2, y2, h1, h2, hrel⟩ := hst.2.2.2.2.2.2.2.2.2.2.2.2.2.2.2.2.2.2.2.2.2.2.1 x y hrel 
      refine bq_callL (wc := (bq_wC a k)) (wr := (bq_wM a' k y)) (q0 := 0) (As := []) S hK hD hA hP hS (cX9_image_k_0 h1) hd_yX9_image ml_L_111 in_yX9_image (S.2.2.2.2 _ sl_X9_X9_yX9_image) ⟨rfl, rfl⟩ ⟨by decide, by decide⟩ rfl rfl rfl hl.1 rfl (Nat.le_of_ble_eq_true rfl) ⟨by decide, by decide⟩ dL_law_903 (bq_adC a k) (fun H locs hP hD hS => ?_)
      refine lv_aload_n hx hb dL_law_906 rfl (lv_at hl 2 rfl) ?_
      refine bq_callL (wc := (bq_wM a' k)) (wr := (bq_wC a k x2)) (q0 := 0) (As := []) S hK hD hA hP hS (cX10_image_k_0 h2) hd_yX10_image ml_L_114 in_yX10_image (S.2.2.2.2 _ sl_X10_X10_yX10_image) ⟨rfl, rfl⟩ ⟨by decide, by decide⟩ rfl rfl rfl hl.1 rfl (Nat.le_of_ble_eq_true rfl) ⟨by decide, by decide⟩ dL_law_907 (bq_adM a' k) (fun H locs hP hD hS => ?_)
      refine lv_icmp_eq (tgt := 1246) hx hb dL_law_910 (by decide) (fun _ => ?_) (fun cc => absurd rfl cc)
      exact htail x2 y2 hrel H locs ls hP hD hS hl
    by_cases c23 : v = (23 : Int32)
    · refine lv_tableIn (off := 882) (tgt := 915) hx hb dL_law_33 (by rw [c23]; decide) (by rw [c23]; decide) (by rw [c23]; rfl) (by decide) ?_
      refine lv_aload_n hx hb dL_law_915 rfl (lv_at hl 1 rfl) ?_
      obtain ⟨r2, x2, y2, h1, h2, hrel⟩ := hst.2.2.2.2.2.2.2.2.2.2.2.2.2.2.2.2.2.2.2.2.2.2.2.1 x y hrel 
      refine bq_callL (wc := (bq_wC a k)) (wr := (bq_wM a' k y)) (q0 := 0) (As := []) S hK hD hA hP hS (cX9_restore_k_0 h1) hd_yX9_restore ml_L_115 in_yX9_restore (S.2.2.2.2 _ sl_X9_X9_yX9_restore) ⟨rfl, rfl⟩ ⟨by decide, by decide⟩ rfl rfl rfl hl.1 rfl (Nat.le_of_ble_eq_true rfl) ⟨by decide, by decide⟩ dL_law_916 (bq_adC a k) (fun H locs hP hD hS => ?_)
      refine lv_aload_n hx hb dL_law_919 rfl (lv_at hl 2 rfl) ?_
      refine bq_callL (wc := (bq_wM a' k)) (wr := (bq_wC a k x2)) (q0 := 0) (As := []) S hK hD hA hP hS (cX10_restore_k_0 h2) hd_yX10_restore ml_L_118 in_yX10_restore (S.2.2.2.2 _ sl_X10_X10_yX10_restore) ⟨rfl, rfl⟩ ⟨by decide, by decide⟩ rfl rfl rfl hl.1 rfl (Nat.le_of_ble_eq_true rfl) ⟨by decide, by decide⟩ dL_law_920 (bq_adM a' k) (fun H locs hP hD hS => ?_)
      refine lv_icmp_eq (tgt := 1246) hx hb dL_law_923 (by decide) (fun _ => ?_) (fun cc => absurd rfl cc)
      exact htail x2 y2 hrel H locs ls hP hD hS hl
    by_cases c24 : v = (24 : Int32)
    · refine lv_tableIn (off := 895) (tgt := 928) hx hb dL_law_33 (by rw [c24]; decide) (by rw [c24]; decide) (by rw [c24]; rfl) (by decide) ?_
      refine lv_aload_n hx hb dL_law_928 rfl (lv_at hl 1 rfl) ?_
      refine lv_aload_n hx hb dL_law_929 rfl (lv_at hl 0 rfl) ?_
      refine lv_iload_n hx hb dL_law_930 rfl (lv_at hl 3 rfl) ?_
      refine lv_iconst (v := (1 : Int32)) hx hb dL_law_931 (by decide) ?_
      refine lv_iadd hx hb dL_law_932 ?_
      refine va_sld hx hb hX hbl hbA hS (h6 1 (by decide) (by decide)) dL_law_933 ?_
      refine lv_topi (fun p0_1 hp0_1 => ?_)
      refine lv_aload_n hx hb dL_law_934 rfl (lv_at hl 0 rfl) ?_
      refine lv_iload_n hx hb dL_law_935 rfl (lv_at hl 3 rfl) ?_
      refine lv_iconst (v := (2 : Int32)) hx hb dL_law_936 (by decide) ?_
      refine lv_iadd hx hb dL_law_937 ?_
      refine va_sld hx hb hX hbl hbA hS (h6 2 (by decide) (by decide)) dL_law_938 ?_
      refine lv_topi (fun p0_2 hp0_2 => ?_)
      refine lv_aload_n hx hb dL_law_939 rfl (lv_at hl 0 rfl) ?_
      refine lv_iload_n hx hb dL_law_940 rfl (lv_at hl 3 rfl) ?_
      refine lv_iconst (v := (3 : Int32)) hx hb dL_law_941 (by decide) ?_
      refine lv_iadd hx hb dL_law_942 ?_
      refine va_sld hx hb hX hbl hbA hS (h6 3 (by decide) (by decide)) dL_law_943 ?_
      refine lv_topi (fun p0_3 hp0_3 => ?_)
      refine lv_aload_n hx hb dL_law_944 rfl (lv_at hl 0 rfl) ?_
      refine lv_iload_n hx hb dL_law_945 rfl (lv_at hl 3 rfl) ?_
      refine lv_iconst (v := (4 : Int32)) hx hb dL_law_946 (by decide) ?_
      refine lv_iadd hx hb dL_law_947 ?_
      refine va_sld hx hb hX hbl hbA hS (h6 4 (by decide) (by decide)) dL_law_948 ?_
      refine lv_topi (fun p0_4 hp0_4 => ?_)
      obtain ⟨r2, x2, y2, h1, h2, hrel⟩ := hst.2.2.2.2.2.2.2.2.2.2.2.2.2.2.2.2.2.2.2.2.2.2.2.2.1 x y hrel p0_1 p0_2 p0_3 p0_4
      refine bq_callL (wc := (bq_wC a k)) (wr := (bq_wM a' k y)) (q0 := 0) (As := [.int p0_1, .int p0_2, .int p0_3, .int p0_4]) S hK hD hA hP hS (cX9_walk_k_0 h1) hd_yX9_walk ml_L_119 in_yX9_walk (S.2.2.2.2 _ sl_X9_X9_yX9_walk) ⟨rfl, rfl⟩ ⟨by decide, by decide⟩ rfl rfl rfl hl.1 rfl (Nat.le_of_ble_eq_true rfl) ⟨by decide, by decide⟩ dL_law_949 (bq_adC a k) (fun H locs hP hD hS => ?_)
      refine lv_aload_n hx hb dL_law_952 rfl (lv_at hl 2 rfl) ?_
      refine lv_aload_n hx hb dL_law_953 rfl (lv_at hl 0 rfl) ?_
      refine lv_iload_n hx hb dL_law_954 rfl (lv_at hl 3 rfl) ?_
      refine lv_iconst (v := (1 : Int32)) hx hb dL_law_955 (by decide) ?_
      refine lv_iadd hx hb dL_law_956 ?_
      refine va_sld hx hb hX hbl hbA hS (h6 1 (by decide) (by decide)) dL_law_957 ?_
      refine lv_topi (fun p1_1 hp1_1 => ?_)
      obtain rfl : p1_1 = p0_1 := hp1_1.trans hp0_1.symm
      refine lv_aload_n hx hb dL_law_958 rfl (lv_at hl 0 rfl) ?_
      refine lv_iload_n hx hb dL_law_959 rfl (lv_at hl 3 rfl) ?_
      refine lv_iconst (v := (2 : Int32)) hx hb dL_law_960 (by decide) ?_
      refine lv_iadd hx hb dL_law_961 ?_
      refine va_sld hx hb hX hbl hbA hS (h6 2 (by decide) (by decide)) dL_law_962 ?_
      refine lv_topi (fun p1_2 hp1_2 => ?_)
      obtain rfl : p1_2 = p0_2 := hp1_2.trans hp0_2.symm
      refine lv_aload_n hx hb dL_law_963 rfl (lv_at hl 0 rfl) ?_
      refine lv_iload_n hx hb dL_law_964 rfl (lv_at hl 3 rfl) ?_
      refine lv_iconst (v := (3 : Int32)) hx hb dL_law_965 (by decide) ?_
      refine lv_iadd hx hb dL_law_966 ?_
      refine va_sld hx hb hX hbl hbA hS (h6 3 (by decide) (by decide)) dL_law_967 ?_
      refine lv_topi (fun p1_3 hp1_3 => ?_)
      obtain rfl : p1_3 = p0_3 := hp1_3.trans hp0_3.symm
      refine lv_aload_n hx hb dL_law_968 rfl (lv_at hl 0 rfl) ?_
      refine lv_iload_n hx hb dL_law_969 rfl (lv_at hl 3 rfl) ?_
      refine lv_iconst (v := (4 : Int32)) hx hb dL_law_970 (by decide) ?_
      refine lv_iadd hx hb dL_law_971 ?_
      refine va_sld hx hb hX hbl hbA hS (h6 4 (by decide) (by decide)) dL_law_972 ?_
      refine lv_topi (fun p1_4 hp1_4 => ?_)
      obtain rfl : p1_4 = p0_4 := hp1_4.trans hp0_4.symm
      refine bq_callL (wc := (bq_wM a' k)) (wr := (bq_wC a k x2)) (q0 := 0) (As := [.int p1_1, .int p1_2, .int p1_3, .int p1_4]) S hK hD hA hP hS (cX10_walk_k_0 h2) hd_yX10_walk ml_L_123 in_yX10_walk (S.2.2.2.2 _ sl_X10_X10_yX10_walk) ⟨rfl, rfl⟩ ⟨by decide, by decide⟩ rfl rfl rfl hl.1 rfl (Nat.le_of_ble_eq_true rfl) ⟨by decide, by decide⟩ dL_law_973 (bq_adM a' k) (fun H locs hP hD hS => ?_)
      refine lv_icmp_eq (tgt := 1246) hx hb dL_law_976 (by decide) (fun _ => ?_) (fun cc => absurd rfl cc)
      exact htail x2 y2 hrel H locs ls hP hD hS hl
    by_cases c25 : v = (25 : Int32)
    · refine lv_tableIn (off := 948) (tgt := 981) hx hb dL_law_33 (by rw [c25]; decide) (by rw [c25]; decide) (by rw [c25]; rfl) (by decide) ?_
      refine lv_aload_n hx hb dL_law_981 rfl (lv_at hl 1 rfl) ?_
      refine lv_aload_n hx hb dL_law_982 rfl (lv_at hl 0 rfl) ?_
      refine lv_iload_n hx hb dL_law_983 rfl (lv_at hl 3 rfl) ?_
      refine lv_iconst (v := (1 : Int32)) hx hb dL_law_984 (by decide) ?_
      refine lv_iadd hx hb dL_law_985 ?_
      refine va_sld hx hb hX hbl hbA hS (h6 1 (by decide) (by decide)) dL_law_986 ?_
      refine lv_topi (fun p0_1 hp0_1 => ?_)
      refine lv_aload_n hx hb dL_law_987 rfl (lv_at hl 0 rfl) ?_
      refine lv_iload_n hx hb dL_law_988 rfl (lv_at hl 3 rfl) ?_
      refine lv_iconst (v := (2 : Int32)) hx hb dL_law_989 (by decide) ?_
      refine lv_iadd hx hb dL_law_990 ?_
      refine va_sld hx hb hX hbl hbA hS (h6 2 (by decide) (by decide)) dL_law_991 ?_
      refine lv_topi (fun p0_2 hp0_2 => ?_)
      refine lv_aload_n hx hb dL_law_992 rfl (lv_at hl 0 rfl) ?_
      refine lv_iload_n hx hb dL_law_993 rfl (lv_at hl 3 rfl) ?_
      refine lv_iconst (v := (3 : Int32)) hx hb dL_law_994 (by decide) ?_
      refine lv_iadd hx hb dL_law_995 ?_
      refine va_sld hx hb hX hbl hbA hS (h6 3 (by decide) (by decide)) dL_law_996 ?_
      refine lv_topi (fun p0_3 hp0_3 => ?_)
      refine lv_aload_n hx hb dL_law_997 rfl (lv_at hl 0 rfl) ?_
      refine lv_iload_n hx hb dL_law_998 rfl (lv_at hl 3 rfl) ?_
      refine lv_iconst (v := (4 : Int32)) hx hb dL_law_999 (by decide) ?_
      refine lv_iadd hx hb dL_law_1000 ?_
      refine va_sld hx hb hX hbl hbA hS (h6 4 (by decide) (by decide)) dL_law_1001 ?_
      refine lv_topi (fun p0_4 hp0_4 => ?_)
      obtain ⟨r2, x2, y2, h1, h2, hrel⟩ := hst.2.2.2.2.2.2.2.2.2.2.2.2.2.2.2.2.2.2.2.2.2.2.2.2.2.1 x y hrel p0_1 p0_2 p0_3 p0_4
      refine bq_callL (wc := (bq_wC a k)) (wr := (bq_wM a' k y)) (q0 := 0) (As := [.int p0_1, .int p0_2, .int p0_3, .int p0_4]) S hK hD hA hP hS (cX9_joined_k_0 h1) hd_yX9_joined ml_L_124 in_yX9_joined (S.2.2.2.2 _ sl_X9_X9_yX9_joined) ⟨rfl, rfl⟩ ⟨by decide, by decide⟩ rfl rfl rfl hl.1 rfl (Nat.le_of_ble_eq_true rfl) ⟨by decide, by decide⟩ dL_law_1002 (bq_adC a k) (fun H locs hP hD hS => ?_)
      refine lv_aload_n hx hb dL_law_1005 rfl (lv_at hl 2 rfl) ?_
      refine lv_aload_n hx hb dL_law_1006 rfl (lv_at hl 0 rfl) ?_
      refine lv_iload_n hx hb dL_law_1007 rfl (lv_at hl 3 rfl) ?_
      refine lv_iconst (v := (1 : Int32)) hx hb dL_law_1008 (by decide) ?_
      refine lv_iadd hx hb dL_law_1009 ?_
      refine va_sld hx hb hX hbl hbA hS (h6 1 (by decide) (by decide)) dL_law_1010 ?_
      refine lv_topi (fun p1_1 hp1_1 => ?_)
      obtain rfl : p1_1 = p0_1 := hp1_1.trans hp0_1.symm
      refine lv_aload_n hx hb dL_law_1011 rfl (lv_at hl 0 rfl) ?_
      refine lv_iload_n hx hb dL_law_1012 rfl (lv_at hl 3 rfl) ?_
      refine lv_iconst (v := (2 : Int32)) hx hb dL_law_1013 (by decide) ?_
      refine lv_iadd hx hb dL_law_1014 ?_
      refine va_sld hx hb hX hbl hbA hS (h6 2 (by decide) (by decide)) dL_law_1015 ?_
      refine lv_topi (fun p1_2 hp1_2 => ?_)
      obtain rfl : p1_2 = p0_2 := hp1_2.trans hp0_2.symm
      refine lv_aload_n hx hb dL_law_1016 rfl (lv_at hl 0 rfl) ?_
      refine lv_iload_n hx hb dL_law_1017 rfl (lv_at hl 3 rfl) ?_
      refine lv_iconst (v := (3 : Int32)) hx hb dL_law_1018 (by decide) ?_
      refine lv_iadd hx hb dL_law_1019 ?_
      refine va_sld hx hb hX hbl hbA hS (h6 3 (by decide) (by decide)) dL_law_1020 ?_
      refine lv_topi (fun p1_3 hp1_3 => ?_)
      obtain rfl : p1_3 = p0_3 := hp1_3.trans hp0_3.symm
      refine lv_aload_n hx hb dL_law_1021 rfl (lv_at hl 0 rfl) ?_
      refine lv_iload_n hx hb dL_law_1022 rfl (lv_at hl 3 rfl) ?_
      refine lv_iconst (v := (4 : Int32)) hx hb dL_law_1023 (by decide) ?_
      refine lv_iadd hx hb dL_law_1024 ?_
      refine va_sld hx hb hX hbl hbA hS (h6 4 (by decide) (by decide)) dL_law_1025 ?_
      refine lv_topi (fun p1_4 hp1_4 => ?_)
      obtain rfl : p1_4 = p0_4 := hp1_4.trans hp0_4.symm
      refine bq_callL (wc := (bq_wM a' k)) (wr := (bq_wC a k x2)) (q0 := 0) (As := [.int p1_1, .int p1_2, .int p1_3, .int p1_4]) S hK hD hA hP hS (cX10_joined_k_0 h2) hd_yX10_joined ml_L_127 in_yX10_joined (S.2.2.2.2 _ sl_X10_X10_yX10_joined) ⟨rfl, rfl⟩ ⟨by decide, by decide⟩ rfl rfl rfl hl.1 rfl (Nat.le_of_ble_eq_true rfl) ⟨by decide, by decide⟩ dL_law_1026 (bq_adM a' k) (fun H locs hP hD hS => ?_)
      refine lv_icmp_eq (tgt := 1246) hx hb dL_law_1029 (by decide) (fun _ => ?_) (fun cc => absurd rfl cc)
      exact htail x2 y2 hrel H locs ls hP hD hS hl
    by_cases c26 : v = (26 : Int32)
    · refine lv_tableIn (off := 1001) (tgt := 1034) hx hb dL_law_33 (by rw [c26]; decide) (by rw [c26]; decide) (by rw [c26]; rfl) (by decide) ?_
      refine lv_aload_n hx hb dL_law_1034 rfl (lv_at hl 1 rfl) ?_
      refine lv_aload_n hx hb dL_law_1035 rfl (lv_at hl 0 rfl) ?_
      refine lv_iload_n hx hb dL_law_1036 rfl (lv_at hl 3 rfl) ?_
      refine lv_iconst (v := (1 : Int32)) hx hb dL_law_1037 (by decide) ?_
      refine lv_iadd hx hb dL_law_1038 ?_
      refine va_sld hx hb hX hbl hbA hS (h6 1 (by decide) (by decide)) dL_law_1039 ?_
      refine lv_topi (fun p0_1 hp0_1 => ?_)
      refine lv_aload_n hx hb dL_law_1040 rfl (lv_at hl 0 rfl) ?_
      refine lv_iload_n hx hb dL_law_1041 rfl (lv_at hl 3 rfl) ?_
      refine lv_iconst (v := (2 : Int32)) hx hb dL_law_1042 (by decide) ?_
      refine lv_iadd hx hb dL_law_1043 ?_
      refine va_sld hx hb hX hbl hbA hS (h6 2 (by decide) (by decide)) dL_law_1044 ?_
      refine lv_topi (fun p0_2 hp0_2 => ?_)
      refine lv_aload_n hx hb dL_law_1045 rfl (lv_at hl 0 rfl) ?_
      refine lv_iload_n hx hb dL_law_1046 rfl (lv_at hl 3 rfl) ?_
      refine lv_iconst (v := (3 : Int32)) hx hb dL_law_1047 (by decide) ?_
      refine lv_iadd hx hb dL_law_1048 ?_
      refine va_sld hx hb hX hbl hbA hS (h6 3 (by decide) (by decide)) dL_law_1049 ?_
      refine lv_topi (fun p0_3 hp0_3 => ?_)
      obtain ⟨r2, x2, y2, h1, h2, hrel⟩ := hst.2.2.2.2.2.2.2.2.2.2.2.2.2.2.2.2.2.2.2.2.2.2.2.2.2.2.1 x y hrel p0_1 p0_2 p0_3
      refine bq_callL (wc := (bq_wC a k)) (wr := (bq_wM a' k y)) (q0 := 0) (As := [.int p0_1, .int p0_2, .int p0_3]) S hK hD hA hP hS (cX9_sheet_k_0 h1) hd_yX9_sheet ml_L_128 in_yX9_sheet (S.2.2.2.2 _ sl_X9_X9_yX9_sheet) ⟨rfl, rfl⟩ ⟨by decide, by decide⟩ rfl rfl rfl hl.1 rfl (Nat.le_of_ble_eq_true rfl) ⟨by decide, by decide⟩ dL_law_1050 (bq_adC a k) (fun H locs hP hD hS => ?_)
      refine lv_aload_n hx hb dL_law_1053 rfl (lv_at hl 2 rfl) ?_
      refine lv_aload_n hx hb dL_law_1054 rfl (lv_at hl 0 rfl) ?_
      refine lv_iload_n hx hb dL_law_1055 rfl (lv_at hl 3 rfl) ?_
      refine lv_iconst (v := (1 : Int32)) hx hb dL_law_1056 (by decide) ?_
      refine lv_iadd hx hb dL_law_1057 ?_
      refine va_sld hx hb hX hbl hbA hS (h6 1 (by decide) (by decide)) dL_law_1058 ?_
      refine lv_topi (fun p1_1 hp1_1 => ?_)
      obtain rfl : p1_1 = p0_1 := hp1_1.trans hp0_1.symm
      refine lv_aload_n hx hb dL_law_1059 rfl (lv_at hl 0 rfl) ?_
      refine lv_iload_n hx hb dL_law_1060 rfl (lv_at hl 3 rfl) ?_
      refine lv_iconst (v := (2 : Int32)) hx hb dL_law_1061 (by decide) ?_
      refine lv_iadd hx hb dL_law_1062 ?_
      refine va_sld hx hb hX hbl hbA hS (h6 2 (by decide) (by decide)) dL_law_1063 ?_
      refine lv_topi (fun p1_2 hp1_2 => ?_)
      obtain rfl : p1_2 = p0_2 := hp1_2.trans hp0_2.symm
      refine lv_aload_n hx hb dL_law_1064 rfl (lv_at hl 0 rfl) ?_
      refine lv_iload_n hx hb dL_law_1065 rfl (lv_at hl 3 rfl) ?_
      refine lv_iconst (v := (3 : Int32)) hx hb dL_law_1066 (by decide) ?_
      refine lv_iadd hx hb dL_law_1067 ?_
      refine va_sld hx hb hX hbl hbA hS (h6 3 (by decide) (by decide)) dL_law_1068 ?_
      refine lv_topi (fun p1_3 hp1_3 => ?_)
      obtain rfl : p1_3 = p0_3 := hp1_3.trans hp0_3.symm
      refine bq_callL (wc := (bq_wM a' k)) (wr := (bq_wC a k x2)) (q0 := 0) (As := [.int p1_1, .int p1_2, .int p1_3]) S hK hD hA hP hS (cX10_sheet_k_0 h2) hd_yX10_sheet ml_L_131 in_yX10_sheet (S.2.2.2.2 _ sl_X10_X10_yX10_sheet) ⟨rfl, rfl⟩ ⟨by decide, by decide⟩ rfl rfl rfl hl.1 rfl (Nat.le_of_ble_eq_true rfl) ⟨by decide, by decide⟩ dL_law_1069 (bq_adM a' k) (fun H locs hP hD hS => ?_)
      refine lv_icmp_eq (tgt := 1246) hx hb dL_law_1072 (by decide) (fun _ => ?_) (fun cc => absurd rfl cc)
      exact htail x2 y2 hrel H locs ls hP hD hS hl
    by_cases c27 : v = (27 : Int32)
    · refine lv_tableIn (off := 1044) (tgt := 1077) hx hb dL_law_33 (by rw [c27]; decide) (by rw [c27]; decide) (by rw [c27]; rfl) (by decide) ?_
      refine lv_aload_n hx hb dL_law_1077 rfl (lv_at hl 1 rfl) ?_
      refine lv_aload_n hx hb dL_law_1078 rfl (lv_at hl 0 rfl) ?_
      refine lv_iload_n hx hb dL_law_1079 rfl (lv_at hl 3 rfl) ?_
      refine lv_iconst (v := (1 : Int32)) hx hb dL_law_1080 (by decide) ?_
      refine lv_iadd hx hb dL_law_1081 ?_
      refine va_sld hx hb hX hbl hbA hS (h6 1 (by decide) (by decide)) dL_law_1082 ?_
      refine lv_topi (fun p0_1 hp0_1 => ?_)
      obtain ⟨r2, x2, y2, h1, h2, hrel⟩ := hst.2.2.2.2.2.2.2.2.2.2.2.2.2.2.2.2.2.2.2.2.2.2.2.2.2.2.2.1 x y hrel p0_1
      refine bq_callL (wc := (bq_wC a k)) (wr := (bq_wM a' k y)) (q0 := 0) (As := [.int p0_1]) S hK hD hA hP hS (cX9_drop_k_0 h1) hd_yX9_drop ml_L_132 in_yX9_drop (S.2.2.2.2 _ sl_X9_X9_yX9_drop) ⟨rfl, rfl⟩ ⟨by decide, by decide⟩ rfl rfl rfl hl.1 rfl (Nat.le_of_ble_eq_true rfl) ⟨by decide, by decide⟩ dL_law_1083 (bq_adC a k) (fun H locs hP hD hS => ?_)
      refine lv_aload_n hx hb dL_law_1086 rfl (lv_at hl 2 rfl) ?_
      refine lv_aload_n hx hb dL_law_1087 rfl (lv_at hl 0 rfl) ?_
      refine lv_iload_n hx hb dL_law_1088 rfl (lv_at hl 3 rfl) ?_
      refine lv_iconst (v := (1 : Int32)) hx hb dL_law_1089 (by decide) ?_
      refine lv_iadd hx hb dL_law_1090 ?_
      refine va_sld hx hb hX hbl hbA hS (h6 1 (by decide) (by decide)) dL_law_1091 ?_
      refine lv_topi (fun p1_1 hp1_1 => ?_)
      obtain rfl : p1_1 = p0_1 := hp1_1.trans hp0_1.symm
      refine bq_callL (wc := (bq_wM a' k)) (wr := (bq_wC a k x2)) (q0 := 0) (As := [.int p1_1]) S hK hD hA hP hS (cX10_drop_k_0 h2) hd_yX10_drop ml_L_135 in_yX10_drop (S.2.2.2.2 _ sl_X10_X10_yX10_drop) ⟨rfl, rfl⟩ ⟨by decide, by decide⟩ rfl rfl rfl hl.1 rfl (Nat.le_of_ble_eq_true rfl) ⟨by decide, by decide⟩ dL_law_1092 (bq_adM a' k) (fun H locs hP hD hS => ?_)
      refine lv_icmp_eq (tgt := 1246) hx hb dL_law_1095 (by decide) (fun _ => ?_) (fun cc => absurd rfl cc)
      exact htail x2 y2 hrel H locs ls hP hD hS hl
    by_cases c28 : v = (28 : Int32)
    · refine lv_tableIn (off := 1067) (tgt := 1100) hx hb dL_law_33 (by rw [c28]; decide) (by rw [c28]; decide) (by rw [c28]; rfl) (by decide) ?_
      refine lv_aload_n hx hb dL_law_1100 rfl (lv_at hl 1 rfl) ?_
      refine lv_aload_n hx hb dL_law_1101 rfl (lv_at hl 0 rfl) ?_
      refine lv_iload_n hx hb dL_law_1102 rfl (lv_at hl 3 rfl) ?_
      refine lv_iconst (v := (1 : Int32)) hx hb dL_law_1103 (by decide) ?_
      refine lv_iadd hx hb dL_law_1104 ?_
      refine va_sld hx hb hX hbl hbA hS (h6 1 (by decide) (by decide)) dL_law_1105 ?_
      refine lv_topi (fun p0_1 hp0_1 => ?_)
      refine lv_aload_n hx hb dL_law_1106 rfl (lv_at hl 0 rfl) ?_
      refine lv_iload_n hx hb dL_law_1107 rfl (lv_at hl 3 rfl) ?_
      refine lv_iconst (v := (2 : Int32)) hx hb dL_law_1108 (by decide) ?_
      refine lv_iadd hx hb dL_law_1109 ?_
      refine va_sld hx hb hX hbl hbA hS (h6 2 (by decide) (by decide)) dL_law_1110 ?_
      refine lv_topi (fun p0_2 hp0_2 => ?_)
      refine lv_aload_n hx hb dL_law_1111 rfl (lv_at hl 0 rfl) ?_
      refine lv_iload_n hx hb dL_law_1112 rfl (lv_at hl 3 rfl) ?_
      refine lv_iconst (v := (3 : Int32)) hx hb dL_law_1113 (by decide) ?_
      refine lv_iadd hx hb dL_law_1114 ?_
      refine va_sld hx hb hX hbl hbA hS (h6 3 (by decide) (by decide)) dL_law_1115 ?_
      refine lv_topi (fun p0_3 hp0_3 => ?_)
      refine lv_aload_n hx hb dL_law_1116 rfl (lv_at hl 0 rfl) ?_
      refine lv_iload_n hx hb dL_law_1117 rfl (lv_at hl 3 rfl) ?_
      refine lv_iconst (v := (4 : Int32)) hx hb dL_law_1118 (by decide) ?_
      refine lv_iadd hx hb dL_law_1119 ?_
      refine va_sld hx hb hX hbl hbA hS (h6 4 (by decide) (by decide)) dL_law_1120 ?_
      refine lv_topi (fun p0_4 hp0_4 => ?_)
      refine lv_i2l hx hb dL_law_1121 rfl ?_
      refine lv_bipush (v := (32 : Int32)) hx hb dL_law_1122 (by decide) ?_
      refine lv_lshl hx hb dL_law_1124 rfl ?_
      refine lv_aload_n hx hb dL_law_1125 rfl (lv_at hl 0 rfl) ?_
      refine lv_iload_n hx hb dL_law_1126 rfl (lv_at hl 3 rfl) ?_
      refine lv_iconst (v := (5 : Int32)) hx hb dL_law_1127 (by decide) ?_
      refine lv_iadd hx hb dL_law_1128 ?_
      refine va_sld hx hb hX hbl hbA hS (h6 5 (by decide) (by decide)) dL_law_1129 ?_
      refine lv_topi (fun p0_5 hp0_5 => ?_)
      refine lv_i2l hx hb dL_law_1130 rfl ?_
      refine lv_ldc2 hx hb hown (S.2.2.2.2 _ kl_L_45) dL_law_1131 ?_
      refine lv_land hx hb dL_law_1134 ?_
      refine lv_lor hx hb dL_law_1135 ?_
      refine lv_topl (fun q0 hq0 => ?_)
      obtain ⟨r2, x2, y2, h1, h2, hrel⟩ := hst.2.2.2.2.2.2.2.2.2.2.2.2.2.2.2.2.2.2.2.2.2.2.2.2.2.2.2.2.1 x y hrel p0_1 p0_2 p0_3 q0
      refine bq_callL (wc := (bq_wC a k)) (wr := (bq_wM a' k y)) (q0 := 0) (As := [.int p0_1, .int p0_2, .int p0_3, .long q0]) S hK hD hA hP hS (cX9_item_k_0 h1) hd_yX9_item ml_L_136 in_yX9_item (S.2.2.2.2 _ sl_X9_X9_yX9_item) ⟨rfl, rfl⟩ ⟨by decide, by decide⟩ rfl rfl rfl hl.1 rfl (Nat.le_of_ble_eq_true rfl) ⟨by decide, by decide⟩ dL_law_1136 (bq_adC a k) (fun H locs hP hD hS => ?_)
      refine lv_aload_n hx hb dL_law_1139 rfl (lv_at hl 2 rfl) ?_
      refine lv_aload_n hx hb dL_law_1140 rfl (lv_at hl 0 rfl) ?_
      refine lv_iload_n hx hb dL_law_1141 rfl (lv_at hl 3 rfl) ?_
      refine lv_iconst (v := (1 : Int32)) hx hb dL_law_1142 (by decide) ?_
      refine lv_iadd hx hb dL_law_1143 ?_
      refine va_sld hx hb hX hbl hbA hS (h6 1 (by decide) (by decide)) dL_law_1144 ?_
      refine lv_topi (fun p1_1 hp1_1 => ?_)
      obtain rfl : p1_1 = p0_1 := hp1_1.trans hp0_1.symm
      refine lv_aload_n hx hb dL_law_1145 rfl (lv_at hl 0 rfl) ?_
      refine lv_iload_n hx hb dL_law_1146 rfl (lv_at hl 3 rfl) ?_
      refine lv_iconst (v := (2 : Int32)) hx hb dL_law_1147 (by decide) ?_
      refine lv_iadd hx hb dL_law_1148 ?_
      refine va_sld hx hb hX hbl hbA hS (h6 2 (by decide) (by decide)) dL_law_1149 ?_
      refine lv_topi (fun p1_2 hp1_2 => ?_)
      obtain rfl : p1_2 = p0_2 := hp1_2.trans hp0_2.symm
      refine lv_aload_n hx hb dL_law_1150 rfl (lv_at hl 0 rfl) ?_
      refine lv_iload_n hx hb dL_law_1151 rfl (lv_at hl 3 rfl) ?_
      refine lv_iconst (v := (3 : Int32)) hx hb dL_law_1152 (by decide) ?_
      refine lv_iadd hx hb dL_law_1153 ?_
      refine va_sld hx hb hX hbl hbA hS (h6 3 (by decide) (by decide)) dL_law_1154 ?_
      refine lv_topi (fun p1_3 hp1_3 => ?_)
      obtain rfl : p1_3 = p0_3 := hp1_3.trans hp0_3.symm
      refine lv_aload_n hx hb dL_law_1155 rfl (lv_at hl 0 rfl) ?_
      refine lv_iload_n hx hb dL_law_1156 rfl (lv_at hl 3 rfl) ?_
      refine lv_iconst (v := (4 : Int32)) hx hb dL_law_1157 (by decide) ?_
      refine lv_iadd hx hb dL_law_1158 ?_
      refine va_sld hx hb hX hbl hbA hS (h6 4 (by decide) (by decide)) dL_law_1159 ?_
      refine lv_topi (fun p1_4 hp1_4 => ?_)
      obtain rfl : p1_4 = p0_4 := hp1_4.trans hp0_4.symm
      refine lv_i2l hx hb dL_law_1160 rfl ?_
      refine lv_bipush (v := (32 : Int32)) hx hb dL_law_1161 (by decide) ?_
      refine lv_lshl hx hb dL_law_1163 rfl ?_
      refine lv_aload_n hx hb dL_law_1164 rfl (lv_at hl 0 rfl) ?_
      refine lv_iload_n hx hb dL_law_1165 rfl (lv_at hl 3 rfl) ?_
      refine lv_iconst (v := (5 : Int32)) hx hb dL_law_1166 (by decide) ?_
      refine lv_iadd hx hb dL_law_1167 ?_
      refine va_sld hx hb hX hbl hbA hS (h6 5 (by decide) (by decide)) dL_law_1168 ?_
      refine lv_topi (fun p1_5 hp1_5 => ?_)
      obtain rfl : p1_5 = p0_5 := hp1_5.trans hp0_5.symm
      refine lv_i2l hx hb dL_law_1169 rfl ?_
      refine lv_ldc2 hx hb hown (S.2.2.2.2 _ kl_L_45) dL_law_1170 ?_
      refine lv_land hx hb dL_law_1173 ?_
      refine lv_lor hx hb dL_law_1174 ?_
      refine lv_topl (fun q1 hq1 => ?_)
      obtain rfl : q1 = q0 := hq1.trans hq0.symm
      refine bq_callL (wc := (bq_wM a' k)) (wr := (bq_wC a k x2)) (q0 := 0) (As := [.int p1_1, .int p1_2, .int p1_3, .long q1]) S hK hD hA hP hS (cX10_item_k_0 h2) hd_yX10_item ml_L_140 in_yX10_item (S.2.2.2.2 _ sl_X10_X10_yX10_item) ⟨rfl, rfl⟩ ⟨by decide, by decide⟩ rfl rfl rfl hl.1 rfl (Nat.le_of_ble_eq_true rfl) ⟨by decide, by decide⟩ dL_law_1175 (bq_adM a' k) (fun H locs hP hD hS => ?_)
      refine lv_icmp_eq (tgt := 1246) hx hb dL_law_1178 (by decide) (fun _ => ?_) (fun cc => absurd rfl cc)
      exact htail x2 y2 hrel H locs ls hP hD hS hl
    by_cases c29 : v = (29 : Int32)
    · refine lv_tableIn (off := 1150) (tgt := 1183) hx hb dL_law_33 (by rw [c29]; decide) (by rw [c29]; decide) (by rw [c29]; rfl) (by decide) ?_
      refine lv_aload_n hx hb dL_law_1183 rfl (lv_at hl 1 rfl) ?_
      refine lv_aload_n hx hb dL_law_1184 rfl (lv_at hl 0 rfl) ?_
      refine lv_iload_n hx hb dL_law_1185 rfl (lv_at hl 3 rfl) ?_
      refine lv_iconst (v := (1 : Int32)) hx hb dL_law_1186 (by decide) ?_
      refine lv_iadd hx hb dL_law_1187 ?_
      refine va_sld hx hb hX hbl hbA hS (h6 1 (by decide) (by decide)) dL_law_1188 ?_
      refine lv_topi (fun p0_1 hp0_1 => ?_)
      refine lv_aload_n hx hb dL_law_1189 rfl (lv_at hl 0 rfl) ?_
      refine lv_iload_n hx hb dL_law_1190 rfl (lv_at hl 3 rfl) ?_
      refine lv_iconst (v := (2 : Int32)) hx hb dL_law_1191 (by decide) ?_
      refine lv_iadd hx hb dL_law_1192 ?_
      refine va_sld hx hb hX hbl hbA hS (h6 2 (by decide) (by decide)) dL_law_1193 ?_
      refine lv_topi (fun p0_2 hp0_2 => ?_)
      refine lv_aload_n hx hb dL_law_1194 rfl (lv_at hl 0 rfl) ?_
      refine lv_iload_n hx hb dL_law_1195 rfl (lv_at hl 3 rfl) ?_
      refine lv_iconst (v := (3 : Int32)) hx hb dL_law_1196 (by decide) ?_
      refine lv_iadd hx hb dL_law_1197 ?_
      refine va_sld hx hb hX hbl hbA hS (h6 3 (by decide) (by decide)) dL_law_1198 ?_
      refine lv_topi (fun p0_3 hp0_3 => ?_)
      refine lv_aload_n hx hb dL_law_1199 rfl (lv_at hl 0 rfl) ?_
      refine lv_iload_n hx hb dL_law_1200 rfl (lv_at hl 3 rfl) ?_
      refine lv_iconst (v := (4 : Int32)) hx hb dL_law_1201 (by decide) ?_
      refine lv_iadd hx hb dL_law_1202 ?_
      refine va_sld hx hb hX hbl hbA hS (h6 4 (by decide) (by decide)) dL_law_1203 ?_
      refine lv_topi (fun p0_4 hp0_4 => ?_)
      refine lv_aload_n hx hb dL_law_1204 rfl (lv_at hl 0 rfl) ?_
      refine lv_iload_n hx hb dL_law_1205 rfl (lv_at hl 3 rfl) ?_
      refine lv_iconst (v := (5 : Int32)) hx hb dL_law_1206 (by decide) ?_
      refine lv_iadd hx hb dL_law_1207 ?_
      refine va_sld hx hb hX hbl hbA hS (h6 5 (by decide) (by decide)) dL_law_1208 ?_
      refine lv_topi (fun p0_5 hp0_5 => ?_)
      obtain ⟨r2, x2, y2, h1, h2, hrel⟩ := hst.2.2.2.2.2.2.2.2.2.2.2.2.2.2.2.2.2.2.2.2.2.2.2.2.2.2.2.2.2 x y hrel p0_1 p0_2 p0_3 p0_4 p0_5
      refine bq_callL (wc := (bq_wC a k)) (wr := (bq_wM a' k y)) (q0 := 0) (As := [.int p0_1, .int p0_2, .int p0_3, .int p0_4, .int p0_5]) S hK hD hA hP hS (cX9_copy_k_0 h1) hd_yX9_copy ml_L_141 in_yX9_copy (S.2.2.2.2 _ sl_X9_X9_yX9_copy) ⟨rfl, rfl⟩ ⟨by decide, by decide⟩ rfl rfl rfl hl.1 rfl (Nat.le_of_ble_eq_true rfl) ⟨by decide, by decide⟩ dL_law_1209 (bq_adC a k) (fun H locs hP hD hS => ?_)
      refine lv_aload_n hx hb dL_law_1212 rfl (lv_at hl 2 rfl) ?_
      refine lv_aload_n hx hb dL_law_1213 rfl (lv_at hl 0 rfl) ?_
      refine lv_iload_n hx hb dL_law_1214 rfl (lv_at hl 3 rfl) ?_
      refine lv_iconst (v := (1 : Int32)) hx hb dL_law_1215 (by decide) ?_
      refine lv_iadd hx hb dL_law_1216 ?_
      refine va_sld hx hb hX hbl hbA hS (h6 1 (by decide) (by decide)) dL_law_1217 ?_
      refine lv_topi (fun p1_1 hp1_1 => ?_)
      obtain rfl : p1_1 = p0_1 := hp1_1.trans hp0_1.symm
      refine lv_aload_n hx hb dL_law_1218 rfl (lv_at hl 0 rfl) ?_
      refine lv_iload_n hx hb dL_law_1219 rfl (lv_at hl 3 rfl) ?_
      refine lv_iconst (v := (2 : Int32)) hx hb dL_law_1220 (by decide) ?_
      refine lv_iadd hx hb dL_law_1221 ?_
      refine va_sld hx hb hX hbl hbA hS (h6 2 (by decide) (by decide)) dL_law_1222 ?_
      refine lv_topi (fun p1_2 hp1_2 => ?_)
      obtain rfl : p1_2 = p0_2 := hp1_2.trans hp0_2.symm
      refine lv_aload_n hx hb dL_law_1223 rfl (lv_at hl 0 rfl) ?_
      refine lv_iload_n hx hb dL_law_1224 rfl (lv_at hl 3 rfl) ?_
      refine lv_iconst (v := (3 : Int32)) hx hb dL_law_1225 (by decide) ?_
      refine lv_iadd hx hb dL_law_1226 ?_
      refine va_sld hx hb hX hbl hbA hS (h6 3 (by decide) (by decide)) dL_law_1227 ?_
      refine lv_topi (fun p1_3 hp1_3 => ?_)
      obtain rfl : p1_3 = p0_3 := hp1_3.trans hp0_3.symm
      refine lv_aload_n hx hb dL_law_1228 rfl (lv_at hl 0 rfl) ?_
      refine lv_iload_n hx hb dL_law_1229 rfl (lv_at hl 3 rfl) ?_
      refine lv_iconst (v := (4 : Int32)) hx hb dL_law_1230 (by decide) ?_
      refine lv_iadd hx hb dL_law_1231 ?_
      refine va_sld hx hb hX hbl hbA hS (h6 4 (by decide) (by decide)) dL_law_1232 ?_
      refine lv_topi (fun p1_4 hp1_4 => ?_)
      obtain rfl : p1_4 = p0_4 := hp1_4.trans hp0_4.symm
      refine lv_aload_n hx hb dL_law_1233 rfl (lv_at hl 0 rfl) ?_
      refine lv_iload_n hx hb dL_law_1234 rfl (lv_at hl 3 rfl) ?_
      refine lv_iconst (v := (5 : Int32)) hx hb dL_law_1235 (by decide) ?_
      refine lv_iadd hx hb dL_law_1236 ?_
      refine va_sld hx hb hX hbl hbA hS (h6 5 (by decide) (by decide)) dL_law_1237 ?_
      refine lv_topi (fun p1_5 hp1_5 => ?_)
      obtain rfl : p1_5 = p0_5 := hp1_5.trans hp0_5.symm
      refine bq_callL (wc := (bq_wM a' k)) (wr := (bq_wC a k x2)) (q0 := 0) (As := [.int p1_1, .int p1_2, .int p1_3, .int p1_4, .int p1_5]) S hK hD hA hP hS (cX10_copy_k_0 h2) hd_yX10_copy ml_L_144 in_yX10_copy (S.2.2.2.2 _ sl_X10_X10_yX10_copy) ⟨rfl, rfl⟩ ⟨by decide, by decide⟩ rfl rfl rfl hl.1 rfl (Nat.le_of_ble_eq_true rfl) ⟨by decide, by decide⟩ dL_law_1238 (bq_adM a' k) (fun H locs hP hD hS => ?_)
      refine lv_icmp_eq (tgt := 1246) hx hb dL_law_1241 (by decide) (fun _ => ?_) (fun cc => absurd rfl cc)
      exact htail x2 y2 hrel H locs ls hP hD hS hl
    refine lv_tableOut (tgt := 1246) hx hb dL_law_33 (by have n0 := lv_neT c0 (a := 0) rfl; have n1 := lv_neT c1 (a := 1) rfl; have n2 := lv_neT c2 (a := 2) rfl; have n3 := lv_neT c3 (a := 3) rfl; have n4 := lv_neT c4 (a := 4) rfl; have n5 := lv_neT c5 (a := 5) rfl; have n6 := lv_neT c6 (a := 6) rfl; have n7 := lv_neT c7 (a := 7) rfl; have n8 := lv_neT c8 (a := 8) rfl; have n9 := lv_neT c9 (a := 9) rfl; have n10 := lv_neT c10 (a := 10) rfl; have n11 := lv_neT c11 (a := 11) rfl; have n12 := lv_neT c12 (a := 12) rfl; have n13 := lv_neT c13 (a := 13) rfl; have n14 := lv_neT c14 (a := 14) rfl; have n15 := lv_neT c15 (a := 15) rfl; have n16 := lv_neT c16 (a := 16) rfl; have n17 := lv_neT c17 (a := 17) rfl; have n18 := lv_neT c18 (a := 18) rfl; have n19 := lv_neT c19 (a := 19) rfl; have n20 := lv_neT c20 (a := 20) rfl; have n21 := lv_neT c21 (a := 21) rfl; have n22 := lv_neT c22 (a := 22) rfl; have n23 := lv_neT c23 (a := 23) rfl; have n24 := lv_neT c24 (a := 24) rfl; have n25 := lv_neT c25 (a := 25) rfl; have n26 := lv_neT c26 (a := 26) rfl; have n27 := lv_neT c27 (a := 27) rfl; have n28 := lv_neT c28 (a := 28) rfl; have n29 := lv_neT c29 (a := 29) rfl; omega) (by decide) ?_
    exact htail x y hrel H locs ls hP hD hS hl
