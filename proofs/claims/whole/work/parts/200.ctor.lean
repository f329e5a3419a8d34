/-! ===== constructors: the contract form ===== -/
def bq_PI (D : va_G) (cl : List vw_C) (tys : List (ClassId × FieldType)) (w : va_W) (sz : Nat) (av : List Value) : Array Value → State → Prop :=
  va_Pc av (fun U => U.heap.size = sz ∧ va_P D cl w U.heap ∧ va_K D cl tys U ∧ va_D (fun _ => True) w ∧ (∀ z ∈ bq_N, va_Nw z U) ∧ va_AO "BesideQuotes$Sheet" U)
def bq_QI (D : va_G) (cl : List vw_C) (B : va_W → Prop) (A : Nat → Prop) : Array Value → State → Outcome → State → Prop :=
  fun _ st oc t => (oc = .returned none ∧ ∃ w1, B w1 ∧ va_P D cl w1 t.heap ∧ va_D A w1) ∧ va_F A st t
def bq_MI (l : Launch) (D : va_G) (cl : List vw_C) (tys : List (ClassId × FieldType)) (wc : va_W) (y : MethodName) (cc : ByteArray) (maxL : Nat) (rm : Room) (av : List Value) (B : va_W → Prop) (mc ms : Nat) : Prop :=
  ∀ sz : Nat, Met l y (.code y cc maxL none :: bq_T) rm (bq_PI D cl tys wc sz av) (bq_QI D cl B (va_A wc sz)) mc ms (va_A wc sz)
theorem bq_blindI {D : va_G} {cl : List vw_C} {tys : List (ClassId × FieldType)} {w : va_W} {sz : Nat} {av : List Value} : FrameBlind (bq_PI D cl tys w sz av) := by
  intro a U g mk q
  obtain ⟨q0, q1, qP, qK, qD, qN, qO⟩ := q
  exact ⟨q0, q1, qP, va_K.moved (u := U) (U := U.calling g mk a) (Vm.Alike.refl U.vm) qK, qD, fun z hz => va_Nw.same (u := U) (U := U.calling g mk a) (bq_N_on hz) rfl (qN z hz), va_AO.moved (u := U) (U := U.calling g mk a) (Vm.Alike.refl U.vm) qO⟩
theorem bq_ofI {l : Launch} {D : va_G} {cl : List vw_C} {tys : List (ClassId × FieldType)} {wc : va_W} {y : MethodName} {cc : ByteArray} {maxL : Nat} {rm : Room} {av : List Value} {B : va_W → Prop} {mc ms : Nat} (own : String) (lv : List (Nat × Value)) (hy : plainName y.cls = true) (hown : y.cls = own) (hyn : y.name = "<init>") (hlen : (lg_sl av).length ≤ maxL) (hlv : lv_args 0 av = lv)
    (body : ∀ (p : Program) (e : Env) (s : State) (m : MethodId) (below : List Frame) (meth : Method) (c : Code) (A : Nat → Prop) (Q : State → Prop) (ls : Array Slot), CallFix p m c cc maxL s av.toArray bq_L own → va_K D cl tys s → va_D A wc → (∀ q, s.heap.size ≤ q → A q) → meth.name = "<init>" → va_AO "BesideQuotes$Sheet" s →
      (∀ (H : Heap) (locs : List Loc) (pc : Nat) (ls : Array Slot) (w1 : va_W), B w1 → va_P D cl w1 H → va_D A w1 → va_S A s.heap H locs → decode cc pc = .ok (.return_, 1) → W p l e rm s m av.toArray below meth c H locs mc ms Q (F0 m pc ls [])) → va_S A s.heap s.heap [] → va_P D cl wc s.heap → lv_has ls maxL lv → W p l e rm s m av.toArray below meth c s.heap [] 0 0 Q (F0 m 0 ls [])) : bq_MI l D cl tys wc y cc maxL rm av B mc ms := by
  intro sz
  refine Met.ofW (cc := cc) (maxL := maxL) (ret := none) hy rfl ?_
  intro p e s m args below meth c s₁ B0 hml hv
  obtain ⟨rfl, hsz, hP, hK, hD0, hN, hO⟩ := hv
  subst hsz
  subst hlv
  have hr := B0.returns
  have hlocks := B0.notSynchronized
  have hts0 := atoms_spec (ws := .code y cc maxL none :: bq_T) B0.pre
  have hts : ∀ z ∈ bq_L, z.before av.toArray s = true := fun z hz => by
    rcases bq_split hz with h | h
    · exact hts0 z (List.mem_cons_of_mem _ h)
    · exact (hN z h).use (bq_N_on h)
  have hl := lv_entry av (n := maxL) hlen
  have hin : meth.name = "<init>" := (name_of_methodNamed B0.named B0.method).1.trans hyn
  rw [lg_entry_eq]
  exact body p e s m below meth c (va_A wc s.heap.size) _ _ ⟨B0.exec, B0.bytes, hml, by rw [← hown]; exact findClass_of_methodNamed B0.named, hts⟩ hK (hD0.self (sz := s.heap.size)) (fun q h => Or.inr h) hin hO
    (fun H locs pc ls w1 hB hP1 hD1 hS hd => W.vret B0.exec B0.bytes hr (fun t ht hW => ⟨⟨rfl, w1, hB, by rw [ht]; exact hP1, hD1⟩, hS.F ht⟩) hS.2.2 hd) va_S.rf hP hl
section BQI
variable {p : Program} {l : Launch} {e : Env} {R : Room} {s : State} {m : MethodId} {args : Array Value} {below : List Frame} {meth : Method} {c : Code} {H : Heap} {locs : List Loc} {cells slots : Nat} {Q : State → Prop}
variable {cc : ByteArray} {pc nL : Nat} {ls : Array Slot} {rest st : List Value} {D : va_G} {cl : List vw_C} {A : Nat → Prop} {a : Nat} {tys : List (ClassId × FieldType)} {own : String}
variable {y : MethodName} {bytes : ByteArray} {maxL index n mc ms : Nat} {rm : Room} {b : Nat} {As : List Value} {ws wc wr : va_W} {B : va_W → Prop}
theorem bq_callI (S : CallFix p m c cc nL s args bq_L own) (hK : va_K D cl tys s) (hO : va_AO "BesideQuotes$Sheet" s) (hD : va_D A ws) (hA : ∀ q, s.heap.size ≤ q → A q) (hP : va_P D cl ws H) (hS : va_S A s.heap H locs)
    (hM : bq_MI l D cl tys wc y bytes maxL rm (.ref b :: As) B mc ms) (hH : bq_H y bytes maxL none n) (hlink : Cond.methodLink own index y ∈ bq_L) (hinst : Cond.instanceMethod y ∈ bq_L) (hy1 : y.name = "<init>")
    (hrm : rm.cells = mc ∧ rm.slots = ms) (hR : rm.frames + 1 ≤ R.frames ∧ 8 + (maxL + 11) + rm.locals ≤ R.locals) (isC isR : List Nat) (hC : isC.map (fun i => ws[i]?) = wc.map some) (hRr : isR.map (fun i => ws[i]?) = wr.map some) (hnC : va_nd isC = true) (hn : va_nd isR = true) (hdis : ∀ i ∈ isR, i ∉ isC)
    (hnn : As.length = n) (hsize : ls.size = nL) (hstack : st = As.reverse ++ .ref b :: rest) (hW : (rest.map fun v => v.category).sum ≤ 8) (hcs : cells + mc ≤ R.cells ∧ slots + ms ≤ R.slots) (hdg : decode cc pc = .ok (.invokespecial index, 3))
    (kk : ∀ (w1 : va_W) (H1 : Heap) (locs1 : List Loc), B w1 → va_P D cl (wr ++ w1) H1 → va_D A (wr ++ w1) → va_S A s.heap H1 locs1 → W p l e R s m args below meth c H1 locs1 (cells + mc) (slots + ms) Q (F0 m (pc + 3) ls rest)) : W p l e R s m args below meth c H locs cells slots Q (F0 m pc ls st) := by
  have hts := S.2.2.2.2
  have hDc := hD.sub (ws' := wc) isC hnC hC
  have hPc : va_P D cl wc H := by
    intro k q hq
    have h1 : (isC.map (fun i => ws[i]?))[k]? = some (some q) := by rw [hC, List.getElem?_map, hq]; rfl
    rw [List.getElem?_map] at h1
    cases hi : isC[k]? with
    | none => rw [hi] at h1; cases h1
    | some i => rw [hi] at h1; exact hP i q (Option.some.inj h1)
  have hFc := va_free (wc := wc) hD hS hA isC hC
  have hr := va_runI (As := As) (rest := rest) (b := b) (n := n) (cells := cells) (slots := slots) (l := l) (e := e) (below := below) (meth := meth) (locs := locs) (g := F0 m pc ls st) (H := H) S (hM H.size) ⟨callB_of (R := R) n hts (bq_GI hH) rfl hrm.1 hrm.2 (hts _ hH.2.1) (hts _ hlink) hH.2.2 hR, hy1, hts _ hinst⟩
    ⟨bq_blindI, fun U hU hW => ⟨rfl, by rw [hU], by rw [hU]; exact hPc, va_K.moved hW.alike hK, hDc.weaken (fun _ _ _ _ => trivial), fun z hz => bq_N_warm hz hW ((va_Nw.of (bq_N_on hz) (hts z (bq_N_L hz)))), va_AO.moved hW.alike hO⟩⟩ rfl hnn hsize hstack (lv_room hW) hdg hcs
  intro T hT X
  obtain ⟨v, st₀, t, T', L, h0, X', hL, e1, e2, ⟨⟨hv, w1, hB, hp, hd⟩, hz, hk⟩, hst⟩ := hr T hT X
  have hv : v = none := by injection hv
  subst hv
  rw [h0] at hz hk
  obtain ⟨hPj, hDj⟩ := va_join (wr := wr) (w1 := w1) (H1 := T'.heap) hP hD isC isR hC hRr hn hdis (fun q h1 h2 => by rw [e1]; exact hk q h1 h2) hFc (by rw [e1]; exact hp) hd
  obtain ⟨t2, a1, b1⟩ := kk w1 T'.heap (locs ++ L) hB hPj hDj
    ⟨Nat.le_trans hS.1 (by rw [e1]; exact hz), fun q h1 h2 => by rw [e1, hk q (Nat.lt_of_lt_of_le h1 hS.1) (fun z => h2 (hFc q z))]; exact hS.2.1 q h1 h2, fun q hq => by
      rcases List.mem_append.mp hq with h | h
      · exact hS.2.2 q h
      · exact hFc _ (hL q h)⟩ T' rfl X'
  exact ⟨t2, hst t2 a1, b1⟩
theorem bq_RAu {U : State} {c1 c2 : ClassId} {ty : FieldType} (h1 : va_RA U c1 ty) (h2 : va_RA U c2 ty) : c1 = c2 := by
  cases ty with
  | object C =>
    obtain ⟨_, _, _, _, _, h3⟩ := h1
    obtain ⟨_, _, _, _, _, h4⟩ := h2
    exact Option.some.inj (h3.symm.trans h4)
  | _ => exact Option.some.inj (Eq.trans (Eq.symm h1) h2)
/-- a new array of numbers: of the class that is known -/
theorem bq_newa {atype : ArrayType} {ty : FieldType} {t0 : Nat} {cA : ClassId} (S : CallFix p m c cc nL s args bq_L own) (harr : Cond.arrayClass (newarray.typeOf atype) ∈ bq_L) (hty : newarray.typeOf atype = ty) (hK : va_K D cl tys s) (ht : tys[t0]? = some (cA, ty)) (hP : va_P D cl ws H) (hD : va_D A ws) (hS : va_S A s.heap H locs) (hA : ∀ q, s.heap.size ≤ q → A q)
    {n : Int32} {N' : Nat} {a0 : vp_A} (ha : ∀ cA : ClassId, vp_cell cA a0 = arrV cA N' (fun _ => defaultValue ty)) (hn : ¬ n < 0) (hN : n.toNatClampNeg = N') (hbytes : N' * componentBytes ty ≤ 536870912) (hcells : cells + 1 ≤ R.cells) (hslots : slots + N' ≤ R.slots) (hdg : decode cc pc = .ok (.newarray atype, 2))
    (kk : ∀ (q : Nat) (H1 : Heap), va_P D cl (ws ++ [(q, .inl (cA, a0))]) H1 → va_D A (ws ++ [(q, .inl (cA, a0))]) → va_S A s.heap H1 locs →
      W p l e R s m args below meth c H1 locs (cells + 1) (slots + N') Q (F0 m (pc + 2) ls (.ref q :: rest))) : W p l e R s m args below meth c H locs cells slots Q (F0 m pc ls (.int n :: rest)) := by
  refine va_newa S.1 S.2.1 (S.2.2.2.2 _ harr) hty hK hP hD hS hA ha hn hN hbytes hcells hslots hdg (fun q cB H1 hK1 hP1 hD1 hS1 => ?_)
  have e1 := (hK.2 t0 _ ht).2
  have e2 := (hK1.2 tys.length (cB, ty) (by simp)).2
  have e3 : cB = cA := bq_RAu e2 e1
  subst e3
  exact kk q H1 hP1 hD1 hS1
theorem bq_newq {C : String} {t0 : Nat} {cA : ClassId} (S : CallFix p m c cc nL s args bq_L own) (hclink : Cond.classLink own index C ∈ bq_L) (hover : va_AO C s) (hK : va_K D cl tys s) (ht : tys[t0]? = some (cA, .object C)) (hP : va_P D cl ws H) (hD : va_D A ws) (hS : va_S A s.heap H locs) (hA : ∀ q, s.heap.size ≤ q → A q)
    {n : Int32} {N' : Nat} (hn : ¬ n < 0) (hN : n.toNatClampNeg = N') (hbytes : N' * 4 ≤ 536870912) (hcells : cells + 1 ≤ R.cells) (hslots : slots + N' ≤ R.slots) (hdg : decode cc pc = .ok (.anewarray index, 3))
    (kk : ∀ (q : Nat) (H1 : Heap), va_P D cl (ws ++ [(q, .inl (cA, N', .inr (.inr (.inr (.inr (fun _ => none))))))]) H1 → va_D A (ws ++ [(q, .inl (cA, N', .inr (.inr (.inr (.inr (fun _ => none))))))]) → va_S A s.heap H1 locs →
      W p l e R s m args below meth c H1 locs (cells + 1) (slots + N') Q (F0 m (pc + 3) ls (.ref q :: rest))) : W p l e R s m args below meth c H locs cells slots Q (F0 m pc ls (.int n :: rest)) := by
  refine va_newq S.1 S.2.1 S.2.2.2.1 (S.2.2.2.2 _ hclink) hover hK hP hD hS hA hn hN hbytes hcells hslots hdg (fun q cB H1 hK1 hP1 hD1 hS1 => ?_)
  have e1 := (hK.2 t0 _ ht).2
  have e2 := (hK1.2 tys.length (cB, .object C) (by simp)).2
  have e3 : cB = cA := bq_RAu e2 e1
  subst e3
  exact kk q H1 hP1 hD1 hS1
/-- putfield in a constructor, final or not -/
theorem bq_putI {index : Nat} {C : String} {T : u_T} {N k ci q0 : Nat} {fs : List Value} {v : Value} {ty : FieldType} {ws1 : va_W} (S : CallFix p m c cc nL s args bq_L own) (hK : va_K D cl tys s) (hin : meth.name = "<init>") (hP : va_P D cl ws H) (hD : va_D A ws) (hS : va_S A s.heap H locs) (F : bq_FL own index C T N k) (Y : bq_TY T N) (hfin : (T k).2.2.2 = false ∨ (T k).2.2.2 = true ∧ (T k).1 = own) (hd : parseFieldDescriptor (T k).2.2.1 = some ty) (he : ws[q0]? = some (a, .inr (ci, fs))) (hc : cl[ci]? = some (C, T, N)) (hl : k < fs.length) (hn : narrow ty v = v) (hfit : fits ty v = true)
    (hw : ws.set q0 (a, .inr (ci, fs.set k v)) = ws1) (hdg : decode cc pc = .ok (.putfield index, 3))
    (kk : ∀ (H1 : Heap) (locs1 : List Loc), va_P D cl ws1 H1 → va_D A ws1 → va_S A s.heap H1 locs1 → W p l e R s m args below meth c H1 locs1 cells slots Q (F0 m (pc + 3) ls rest)) : W p l e R s m args below meth c H locs cells slots Q (F0 m pc ls (v :: .ref a :: rest)) := by
  obtain ⟨hx, hb, hml, hown, hts⟩ := S
  obtain ⟨hin1, hk, ref, hl1, hs⟩ := F
  obtain ⟨⟨ty0, h0⟩, hnm⟩ := Y
  subst hw
  have hsm : ∀ x, s.fieldFound? (T k).1 (T k).2.1 (T k).2.2.1 = some x → s.fieldFound? ref (T k).2.1 (T k).2.2.1 = some x := by
    rcases hs with rfl | hs
    · exact fun _ h => h
    · exact fun z h => u_same (hts _ hs) z h
  rcases hfin with hfin | ⟨hfin, hdecl⟩
  · exact va_put (ty := ty) hx hb hts hin1 ty0 h0 hnm hown hK hP hD hS q0 he hc k hk (hts _ hl1) hsm hfin hd hn hfit hl hdg kk
  · exact va_putF (ty := ty) hx hb hts hin1 ty0 h0 hnm hown hK hP hD hS q0 he hc k hk (hts _ hl1) hsm hfin hin hdecl hd hn hfit hl hdg kk
end BQI
