/-! THE CLAIM OUT OF ONE WALK OF THE LAW'S BODY. Your part is whole_start (and what it stands on); all else here is the same for every law, but numbers. -/
def R_law : String := "BesideQuotesLaw"
def lw_P (b : Addr) (xs : List Int32) (args : Array Value) (s : State) : Prop := args = #[.ref b] ∧ s.IntsAt b xs ∧ xs.length ≤ 3072 ∧ (Jvm.Cond.and given_1 narrow_1).before args s = true
def lw_Q (_ : Array Value) (s : State) (o : Outcome) (t : State) : Prop := o = .returned (some (.int 1)) ∧ Framed s o t [] 600000 7302250
def lw_Z (below : List Frame) (a : Array Value) (s : State) : State → Prop := fun t => ∃ o, t.status = .running ∧ Ended t below o ∧ lw_Q a s o t
/-- the law's own end, with 1 on the stack, nothing written that was there before, its room as the claim has it -/
theorem lw_ret {p : Program} {l : Launch} {e : Env} {s : State} {m : MethodId} {below : List Frame} {meth : Method} {c : Code} {b : Nat} (hx : p.tables.exec = Jvm.exec) (hb : c.code = code) (hr : meth.sig.returnType = ret) (hlocks : meth.locks = false) {pc : Nat} {H : Heap} {ls : Array Slot} (hdg : decode code pc = .ok (.ireturn, 1)) : W p l e room_1 s m #[Value.ref b] below meth c H [] 600000 7302250 (lw_Z below #[Value.ref b] s) (F0 m pc ls [.int 1]) := by
  intro T hT X
  obtain ⟨fs, hret, hrun, hended, hW, hframe⟩ := X.leave (v := some (.int 1)) (hlocks := hlocks) (fun h => by rw [hr] at h; cases h)
  have hmeth' : T.vm.method? m = some meth := X.method'
  refine ⟨T.setFrames fs, ?_, .returned (some (.int 1)), hrun, hended, rfl, ⟨_, rfl⟩, hW, hframe⟩
  jvm_step X.here [X.here.top, hx, hb, hdg, hmeth', hr, ret, narrow_b1]
  (try refine ⟨rfl, ?_⟩); (try refine ⟨rfl, ?_⟩)
  first | (intro acts; rw [hret _ acts rfl rfl rfl]) | rw [hret _ _ rfl rfl rfl]
  exact Steps.refl _
/-- what holds at the law's entry: the machine, the code, the tables' words (any of lw_tbl by 'hts w (by decide +kernel)'), the script of L ints xs at the cell b, what the Statement gives of the start (any of its parts by flat_of_before) -/
def lw_At (p : Program) (s : State) (m : MethodId) (meth : Method) (c : Code) (b L : Nat) (xs : Nat → Int32) : Prop :=
  p.tables.exec = Jvm.exec ∧ c.code = code ∧ meth.sig.returnType = ret ∧ c.maxLocals = 4 ∧ s.vm.findClass R_law = some m.cls ∧ (∀ w ∈ lw_tbl, w.before #[Value.ref b] s = true) ∧ va_X b L xs s s.heap ∧ b < s.heap.size ∧ meth.locks = false ∧ (Jvm.Cond.and given_1 narrow_1).before #[Value.ref b] s = true

def bs_book (R : bq_S → bq_S → Prop) (n : Nat) : Prop := ∀ x y : bq_S, R x y → ∀ (p1 : Int32), ∃ (r : Int32) (x2 y2 : bq_S), fX9_book n p1 x = some (r, x2) ∧ fX10_book p1 y = some (r, y2) ∧ R x2 y2
def bs_quote (R : bq_S → bq_S → Prop) (n : Nat) : Prop := ∀ x y : bq_S, R x y → ∀ (p1 : Int32) (p2 : Int32) (p3 : Int32), ∃ (r : Int32) (x2 y2 : bq_S), fX9_quote n p1 p2 p3 x = some (r, x2) ∧ fX10_quote p1 p2 p3 y = some (r, y2) ∧ R x2 y2
def bs_hate (R : bq_S → bq_S → Prop) (n : Nat) : Prop := ∀ x y : bq_S, R x y → ∀ (p1 : Int32) (p2 : Int32) (p3 : Int32), ∃ (r : Int32) (x2 y2 : bq_S), fX9_hate n p1 p2 p3 x = some (r, x2) ∧ fX10_hate p1 p2 p3 y = some (r, y2) ∧ R x2 y2
def bs_prop (R : bq_S → bq_S → Prop) (n : Nat) : Prop := ∀ x y : bq_S, R x y → ∀ (p1 : Int32) (p2 : Int32), ∃ (r : Int32) (x2 y2 : bq_S), fX9_prop n p1 p2 x = some (r, x2) ∧ fX10_prop p1 p2 y = some (r, y2) ∧ R x2 y2
def bs_thick (R : bq_S → bq_S → Prop) (n : Nat) : Prop := ∀ x y : bq_S, R x y → ∀ (p1 : Int32) (p2 : Int32), ∃ (r : Int32) (x2 y2 : bq_S), fX9_thick p1 p2 x = some (r, x2) ∧ fX10_thick p1 p2 y = some (r, y2) ∧ R x2 y2
def bs_rule (R : bq_S → bq_S → Prop) (n : Nat) : Prop := ∀ x y : bq_S, R x y → ∀ (p1 : Int32) (p2 : Int32), ∃ (r : Int32) (x2 y2 : bq_S), fX9_rule n p1 p2 x = some (r, x2) ∧ fX10_rule p1 p2 y = some (r, y2) ∧ R x2 y2
def bs_touch (R : bq_S → bq_S → Prop) (n : Nat) : Prop := ∀ x y : bq_S, R x y → ∀ (p1 : Int32) (p2 : Int32), ∃ (r : Int32) (x2 y2 : bq_S), fX9_touch p1 p2 x = some (r, x2) ∧ fX10_touch p1 p2 y = some (r, y2) ∧ R x2 y2
def bs_type (R : bq_S → bq_S → Prop) (n : Nat) : Prop := ∀ x y : bq_S, R x y → ∀ (p1 : Int64) (p3 : Int32), ∃ (r : Int32) (x2 y2 : bq_S), fX9_type n p1 p3 x = some (r, x2) ∧ fX10_type n p1 p3 y = some (r, y2) ∧ R x2 y2
def bs_books (R : bq_S → bq_S → Prop) (n : Nat) : Prop := ∀ x y : bq_S, R x y → ∃ (r : Int32) (x2 y2 : bq_S), fX9_books n x = some (r, x2) ∧ fX10_books n y = some (r, y2) ∧ R x2 y2
def bs_hall (R : bq_S → bq_S → Prop) (n : Nat) : Prop := ∀ x y : bq_S, R x y → ∃ (r : Int32) (x2 y2 : bq_S), fX9_hall n x = some (r, x2) ∧ fX10_hall n y = some (r, y2) ∧ R x2 y2
def bs_at (R : bq_S → bq_S → Prop) (n : Nat) : Prop := ∀ x y : bq_S, R x y → ∀ (p1 : Int32), ∃ (r : Int32) (x2 y2 : bq_S), fX9_at p1 x = some (r, x2) ∧ fX10_at p1 y = some (r, y2) ∧ R x2 y2
def bs_count (R : bq_S → bq_S → Prop) (n : Nat) : Prop := ∀ x y : bq_S, R x y → ∀ (p1 : Int32), ∃ (r : Int32) (x2 y2 : bq_S), fX9_count n p1 x = some (r, x2) ∧ fX10_count n p1 y = some (r, y2) ∧ R x2 y2
def bs_judged (R : bq_S → bq_S → Prop) (n : Nat) : Prop := ∀ x y : bq_S, R x y → ∃ (r : Int32) (x2 y2 : bq_S), fX9_judged n x = some (r, x2) ∧ fX10_judged n y = some (r, y2) ∧ R x2 y2
def bs_rows (R : bq_S → bq_S → Prop) (n : Nat) : Prop := ∀ x y : bq_S, R x y → ∀ (p1 : Int32), ∃ (r : Int32) (x2 y2 : bq_S), fX9_rows n p1 x = some (r, x2) ∧ fX10_rows n p1 y = some (r, y2) ∧ R x2 y2
def bs_row (R : bq_S → bq_S → Prop) (n : Nat) : Prop := ∀ x y : bq_S, R x y → ∀ (p1 : Int32) (p2 : Int32) (p3 : Int32), ∃ (r : Int32) (x2 y2 : bq_S), fX9_row n p1 p2 p3 x = some (r, x2) ∧ fX10_row n p1 p2 p3 y = some (r, y2) ∧ R x2 y2
def bs_cut (R : bq_S → bq_S → Prop) (n : Nat) : Prop := ∀ x y : bq_S, R x y → ∀ (p1 : Int32), ∃ (r : Int32) (x2 y2 : bq_S), fX9_cut n p1 x = some (r, x2) ∧ fX10_cut n p1 y = some (r, y2) ∧ R x2 y2
def bs_put (R : bq_S → bq_S → Prop) (n : Nat) : Prop := ∀ x y : bq_S, R x y → ∀ (p1 : Int32), ∃ (r : Int32) (x2 y2 : bq_S), fX9_put n p1 x = some (r, x2) ∧ fX10_put n p1 y = some (r, y2) ∧ R x2 y2
def bs_lend (R : bq_S → bq_S → Prop) (n : Nat) : Prop := ∀ x y : bq_S, R x y → ∀ (p1 : Int32), ∃ (r : Int32) (x2 y2 : bq_S), fX9_lend n p1 x = some (r, x2) ∧ fX10_lend n p1 y = some (r, y2) ∧ R x2 y2
def bs_forged (R : bq_S → bq_S → Prop) (n : Nat) : Prop := ∀ x y : bq_S, R x y → ∀ (p1 : Int32) (p2 : Int32), ∃ (r : Int32) (x2 y2 : bq_S), fX9_forged n p1 p2 x = some (r, x2) ∧ fX10_forged n p1 p2 y = some (r, y2) ∧ R x2 y2
def bs_apart (R : bq_S → bq_S → Prop) (n : Nat) : Prop := ∀ x y : bq_S, R x y → ∀ (p1 : Int32) (p2 : Int32) (p3 : Int32), ∃ (r : Int32) (x2 y2 : bq_S), fX9_apart n p1 p2 p3 x = some (r, x2) ∧ fX10_apart n p1 p2 p3 y = some (r, y2) ∧ R x2 y2
def bs_free (R : bq_S → bq_S → Prop) (n : Nat) : Prop := ∀ x y : bq_S, R x y → ∀ (p1 : Int32), ∃ (r : Int32) (x2 y2 : bq_S), fX9_free n p1 x = some (r, x2) ∧ fX10_free n p1 y = some (r, y2) ∧ R x2 y2
def bs_burnt (R : bq_S → bq_S → Prop) (n : Nat) : Prop := ∀ x y : bq_S, R x y → ∀ (p1 : Int32) (p2 : Int32) (p3 : Int32) (p4 : Int32) (p5 : Int32), ∃ (r : Int32) (x2 y2 : bq_S), fX9_burnt n p1 p2 p3 p4 p5 x = some (r, x2) ∧ fX10_burnt n p1 p2 p3 p4 p5 y = some (r, y2) ∧ R x2 y2
def bs_image (R : bq_S → bq_S → Prop) (n : Nat) : Prop := ∀ x y : bq_S, R x y → ∃ (r : Int32) (x2 y2 : bq_S), fX9_image n x = some (r, x2) ∧ fX10_image n y = some (r, y2) ∧ R x2 y2
def bs_restore (R : bq_S → bq_S → Prop) (n : Nat) : Prop := ∀ x y : bq_S, R x y → ∃ (r : Int32) (x2 y2 : bq_S), fX9_restore n x = some (r, x2) ∧ fX10_restore n y = some (r, y2) ∧ R x2 y2
def bs_walk (R : bq_S → bq_S → Prop) (n : Nat) : Prop := ∀ x y : bq_S, R x y → ∀ (p1 : Int32) (p2 : Int32) (p3 : Int32) (p4 : Int32), ∃ (r : Int32) (x2 y2 : bq_S), fX9_walk n p1 p2 p3 p4 x = some (r, x2) ∧ fX10_walk n p1 p2 p3 p4 y = some (r, y2) ∧ R x2 y2
def bs_joined (R : bq_S → bq_S → Prop) (n : Nat) : Prop := ∀ x y : bq_S, R x y → ∀ (p1 : Int32) (p2 : Int32) (p3 : Int32) (p4 : Int32), ∃ (r : Int32) (x2 y2 : bq_S), fX9_joined n p1 p2 p3 p4 x = some (r, x2) ∧ fX10_joined n p1 p2 p3 p4 y = some (r, y2) ∧ R x2 y2
def bs_sheet (R : bq_S → bq_S → Prop) (n : Nat) : Prop := ∀ x y : bq_S, R x y → ∀ (p1 : Int32) (p2 : Int32) (p3 : Int32), ∃ (r : Int32) (x2 y2 : bq_S), fX9_sheet n p1 p2 p3 x = some (r, x2) ∧ fX10_sheet n p1 p2 p3 y = some (r, y2) ∧ R x2 y2
def bs_drop (R : bq_S → bq_S → Prop) (n : Nat) : Prop := ∀ x y : bq_S, R x y → ∀ (p1 : Int32), ∃ (r : Int32) (x2 y2 : bq_S), fX9_drop n p1 x = some (r, x2) ∧ fX10_drop p1 y = some (r, y2) ∧ R x2 y2
def bs_item (R : bq_S → bq_S → Prop) (n : Nat) : Prop := ∀ x y : bq_S, R x y → ∀ (p1 : Int32) (p2 : Int32) (p3 : Int32) (p4 : Int64), ∃ (r : Int32) (x2 y2 : bq_S), fX9_item p1 p2 p3 p4 x = some (r, x2) ∧ fX10_item p1 p2 p3 p4 y = some (r, y2) ∧ R x2 y2
def bs_copy (R : bq_S → bq_S → Prop) (n : Nat) : Prop := ∀ x y : bq_S, R x y → ∀ (p1 : Int32) (p2 : Int32) (p3 : Int32) (p4 : Int32) (p5 : Int32), ∃ (r : Int32) (x2 y2 : bq_S), fX9_copy p1 p2 p3 p4 p5 x = some (r, x2) ∧ fX10_copy n p1 p2 p3 p4 p5 y = some (r, y2) ∧ R x2 y2
def bq_steps (R : bq_S → bq_S → Prop) (n : Nat) : Prop := bs_book R n ∧ bs_quote R n ∧ bs_hate R n ∧ bs_prop R n ∧ bs_thick R n ∧ bs_rule R n ∧ bs_touch R n ∧ bs_type R n ∧ bs_books R n ∧ bs_hall R n ∧ bs_at R n ∧ bs_count R n ∧ bs_judged R n ∧ bs_rows R n ∧ bs_row R n ∧ bs_cut R n ∧ bs_put R n ∧ bs_lend R n ∧ bs_forged R n ∧ bs_apart R n ∧ bs_free R n ∧ bs_burnt R n ∧ bs_image R n ∧ bs_restore R n ∧ bs_walk R n ∧ bs_joined R n ∧ bs_sheet R n ∧ bs_drop R n ∧ bs_item R n ∧ bs_copy R n
theorem bq_split2 {ws wr : va_W} {D : va_G} {cl : List vw_C} {H : Heap} (h : va_P D cl (ws ++ wr) H) : va_P D cl ws H := fun k q hk => h k q (by
  have hl : k < ws.length := (List.getElem?_eq_some_iff.mp hk).1
  rw [List.getElem?_append_left hl]; exact hk)
theorem bq_rangeL (ws wr : va_W) : (List.range ws.length).map (fun i => (ws ++ wr)[i]?) = ws.map some := by
  apply List.ext_getElem?
  intro i
  by_cases h : i < ws.length
  · simp [List.getElem?_map, h, List.getElem?_append_left h]
  · simp [List.getElem?_map, h]
theorem bq_rangeR (ws wr : va_W) : ((List.range wr.length).map (· + ws.length)).map (fun i => (ws ++ wr)[i]?) = wr.map some := by
  apply List.ext_getElem?
  intro i
  by_cases h : i < wr.length
  · simp [List.getElem?_map, h, List.getElem?_append_right]
  · simp [List.getElem?_map, h]
theorem bq_ndn : ∀ l : List Nat, l.Nodup → va_nd l = true
  | [], _ => rfl
  | a :: l, h => by
    have h1 := List.nodup_cons.mp h
    simp [va_nd, h1.1, bq_ndn l h1.2]
theorem bq_ndr (n : Nat) : va_nd (List.range n) = true := bq_ndn _ List.nodup_range
theorem bq_nds (n k : Nat) : va_nd ((List.range n).map (· + k)) = true := bq_ndn _ (List.pairwise_map.mpr (List.Pairwise.imp (fun h e => h (by omega)) (List.nodup_range (n := n))))
section BQL
variable {p : Program} {l : Launch} {e : Env} {R : Room} {s : State} {m : MethodId} {args : Array Value} {below : List Frame} {meth : Method} {c : Code} {H : Heap} {locs : List Loc} {cells slots : Nat} {Q : State → Prop}
variable {cc : ByteArray} {pc nL : Nat} {ls : Array Slot} {rest st : List Value} {D : va_G} {cl : List vw_C} {A : Nat → Prop} {tys : List (ClassId × FieldType)} {own : String}
variable {y : MethodName} {bytes : ByteArray} {maxL index n : Nat} {ret : Option FieldType} {rm : Room} {b : Nat} {As : List Value} {C : String} {wc : bq_S → va_W} {wr : va_W} {x x1 : bq_S} {r0 : Int32}
/-- a call out of the law: the callee's world stands first, the other one behind it; behind the call they have changed places -/
theorem bq_callL {q0 ci : Nat} {fs : List Value} {T : u_T} {N : Nat} (S : CallFix p m c cc nL s args bq_L own) (hK : va_K D cl tys s) (hD : va_D A (wc x ++ wr)) (hA : ∀ q, s.heap.size ≤ q → A q) (hP : va_P D cl (wc x ++ wr) H) (hS : va_S A s.heap H locs)
    (hM : bq_M l D cl tys wc y bytes maxL ret rm (.ref b :: As) x (some r0) x1) (hH : bq_H y bytes maxL ret n) (hlink : Cond.methodLink own index y ∈ bq_L) (hinst : Cond.instanceMethod y ∈ bq_L) (hsel : (Cond.selects C y y).before args s = true)
    (hrm : rm.cells = 0 ∧ rm.slots = 0) (hR : rm.frames + 1 ≤ R.frames ∧ 8 + (maxL + 11) + rm.locals ≤ R.locals) (he : (wc x)[q0]? = some (b, .inr (ci, fs))) (hc : cl[ci]? = some (C, T, N)) (hn : As.length = n) (hsize : ls.size = nL) (hstack : st = As.reverse ++ .ref b :: rest) (hW : (rest.map fun v => v.category).sum ≤ 8) (hcs : cells ≤ R.cells ∧ slots ≤ R.slots) (hdg : decode cc pc = .ok (.invokevirtual index, 3)) (had : bq_Ad wc)
    (kk : ∀ (H1 : Heap) (locs1 : List Loc), va_P D cl (wr ++ wc x1) H1 → va_D A (wr ++ wc x1) → va_S A s.heap H1 locs1 → W p l e R s m args below meth c H1 locs1 cells slots Q (F0 m (pc + 3) ls (.int r0 :: rest))) : W p l e R s m args below meth c H locs cells slots Q (F0 m pc ls st) := by
  have hts := S.2.2.2.2
  have hPc := bq_split2 hP
  have hndL : va_nd (List.range (wc x).length) = true := bq_ndr _
  have hndR : va_nd ((List.range wr.length).map (· + (wc x).length)) = true := bq_nds _ _
  have hDc := hD.sub (ws' := wc x) _ hndL (bq_rangeL _ _)
  have hFc := va_free (wc := wc x) hD hS hA _ (bq_rangeL _ _)
  have hr := va_runV (C := C) (b := b) (As := As) (n := n) (rest := rest) (l := l) (e := e) (below := below) (meth := meth) (locs := locs) (g := F0 m pc ls st) (H := H) (cells := cells) (slots := slots) S (hM H.size) ⟨callB_of (R := R) n hts (bq_GI hH) rfl hrm.1 hrm.2 (hts _ hH.2.1) (hts _ hlink) hH.2.2 hR, hts _ hinst, hsel⟩ ⟨bq_blind, va_recv hK hPc hc he, bq_pre (av := .ref b :: As) hts hK hPc hDc⟩ rfl hn hsize hstack (lv_room hW) hdg hcs
  intro T0 hT X
  obtain ⟨v, st₀, t, T', L, h0, X', hL, e1, e2, ⟨⟨hv, hp⟩, hz, hk⟩, hst⟩ := hr T0 hT X
  have hv : v = some (.int r0) := by injection hv
  subst hv
  rw [h0] at hz hk
  have hd1 : va_D (va_A (wc x) H.size) (wc x1) := had.D (hDc.self (sz := H.size)) x1
  obtain ⟨hPj, hDj⟩ := va_join (wr := wr) (w1 := wc x1) (H1 := T'.heap) hP hD (List.range (wc x).length) ((List.range wr.length).map (· + (wc x).length)) (bq_rangeL _ _) (bq_rangeR _ _) hndR (fun i h1 h2 => by
      obtain ⟨j, -, rfl⟩ := List.mem_map.mp h1
      have := List.mem_range.mp h2
      omega) (fun q h1 h2 => by rw [e1]; exact hk q h1 h2) hFc (by rw [e1]; exact hp) hd1
  obtain ⟨t2, a1, b1⟩ := kk T'.heap (locs ++ L) hPj hDj
    ⟨Nat.le_trans hS.1 (by rw [e1]; exact hz), fun q h1 h2 => by rw [e1, hk q (Nat.lt_of_lt_of_le h1 hS.1) (fun z => h2 (hFc q z))]; exact hS.2.1 q h1 h2, fun q hq => by
      rcases List.mem_append.mp hq with h | h
      · exact hS.2.2 q h
      · exact hFc _ (hL q h)⟩ T' rfl X'
  exact ⟨t2, hst t2 a1, b1⟩
end BQL

theorem ml_L_13 : Cond.methodLink R_law 13 yX9_book ∈ bq_L := bq_m 332 (by decide +kernel) rfl
theorem ml_L_17 : Cond.methodLink R_law 17 yX10_book ∈ bq_L := bq_m 961 (by decide +kernel) rfl
theorem ml_L_18 : Cond.methodLink R_law 18 yX9_quote ∈ bq_L := bq_m 365 (by decide +kernel) rfl
theorem ml_L_22 : Cond.methodLink R_law 22 yX10_quote ∈ bq_L := bq_m 969 (by decide +kernel) rfl
theorem ml_L_23 : Cond.methodLink R_law 23 yX9_hate ∈ bq_L := bq_m 377 (by decide +kernel) rfl
theorem ml_L_26 : Cond.methodLink R_law 26 yX10_hate ∈ bq_L := bq_m 981 (by decide +kernel) rfl
theorem ml_L_27 : Cond.methodLink R_law 27 yX9_prop ∈ bq_L := bq_m 385 (by decide +kernel) rfl
theorem ml_L_31 : Cond.methodLink R_law 31 yX10_prop ∈ bq_L := bq_m 985 (by decide +kernel) rfl
theorem ml_L_32 : Cond.methodLink R_law 32 yX9_thick ∈ bq_L := bq_m 394 (by decide +kernel) rfl
theorem ml_L_36 : Cond.methodLink R_law 36 yX10_thick ∈ bq_L := bq_m 989 (by decide +kernel) rfl
theorem ml_L_37 : Cond.methodLink R_law 37 yX9_rule ∈ bq_L := bq_m 398 (by decide +kernel) rfl
theorem ml_L_40 : Cond.methodLink R_law 40 yX10_rule ∈ bq_L := bq_m 993 (by decide +kernel) rfl
theorem ml_L_41 : Cond.methodLink R_law 41 yX9_touch ∈ bq_L := bq_m 406 (by decide +kernel) rfl
theorem ml_L_44 : Cond.methodLink R_law 44 yX10_touch ∈ bq_L := bq_m 997 (by decide +kernel) rfl
theorem kl_L_45 : Cond.constantLong R_law 45 (4294967295 : Int64) ∈ bq_L := bq_m 1197 (by decide +kernel) rfl
theorem ml_L_47 : Cond.methodLink R_law 47 yX9_type ∈ bq_L := bq_m 414 (by decide +kernel) rfl
theorem ml_L_51 : Cond.methodLink R_law 51 yX10_type ∈ bq_L := bq_m 1005 (by decide +kernel) rfl
theorem ml_L_52 : Cond.methodLink R_law 52 yX9_books ∈ bq_L := bq_m 428 (by decide +kernel) rfl
theorem ml_L_56 : Cond.methodLink R_law 56 yX10_books ∈ bq_L := bq_m 1013 (by decide +kernel) rfl
theorem ml_L_57 : Cond.methodLink R_law 57 yX9_hall ∈ bq_L := bq_m 478 (by decide +kernel) rfl
theorem ml_L_60 : Cond.methodLink R_law 60 yX10_hall ∈ bq_L := bq_m 1035 (by decide +kernel) rfl
theorem ml_L_61 : Cond.methodLink R_law 61 yX9_at ∈ bq_L := bq_m 490 (by decide +kernel) rfl
theorem ml_L_64 : Cond.methodLink R_law 64 yX10_at ∈ bq_L := bq_m 1039 (by decide +kernel) rfl
theorem ml_L_65 : Cond.methodLink R_law 65 yX9_count ∈ bq_L := bq_m 498 (by decide +kernel) rfl
theorem ml_L_68 : Cond.methodLink R_law 68 yX10_count ∈ bq_L := bq_m 1043 (by decide +kernel) rfl
theorem ml_L_69 : Cond.methodLink R_law 69 yX9_judged ∈ bq_L := bq_m 524 (by decide +kernel) rfl
theorem ml_L_72 : Cond.methodLink R_law 72 yX10_judged ∈ bq_L := bq_m 1050 (by decide +kernel) rfl
theorem ml_L_73 : Cond.methodLink R_law 73 yX9_rows ∈ bq_L := bq_m 537 (by decide +kernel) rfl
theorem ml_L_76 : Cond.methodLink R_law 76 yX10_rows ∈ bq_L := bq_m 1062 (by decide +kernel) rfl
theorem ml_L_77 : Cond.methodLink R_law 77 yX9_row ∈ bq_L := bq_m 638 (by decide +kernel) rfl
theorem ml_L_81 : Cond.methodLink R_law 81 yX10_row ∈ bq_L := bq_m 1078 (by decide +kernel) rfl
theorem ml_L_82 : Cond.methodLink R_law 82 yX9_cut ∈ bq_L := bq_m 658 (by decide +kernel) rfl
theorem ml_L_85 : Cond.methodLink R_law 85 yX10_cut ∈ bq_L := bq_m 1082 (by decide +kernel) rfl
theorem ml_L_86 : Cond.methodLink R_law 86 yX9_put ∈ bq_L := bq_m 678 (by decide +kernel) rfl
theorem ml_L_89 : Cond.methodLink R_law 89 yX10_put ∈ bq_L := bq_m 1090 (by decide +kernel) rfl
theorem ml_L_90 : Cond.methodLink R_law 90 yX9_lend ∈ bq_L := bq_m 717 (by decide +kernel) rfl
theorem ml_L_93 : Cond.methodLink R_law 93 yX10_lend ∈ bq_L := bq_m 1106 (by decide +kernel) rfl
theorem ml_L_94 : Cond.methodLink R_law 94 yX9_forged ∈ bq_L := bq_m 721 (by decide +kernel) rfl
theorem ml_L_97 : Cond.methodLink R_law 97 yX10_forged ∈ bq_L := bq_m 1110 (by decide +kernel) rfl
theorem ml_L_98 : Cond.methodLink R_law 98 yX9_apart ∈ bq_L := bq_m 751 (by decide +kernel) rfl
theorem ml_L_101 : Cond.methodLink R_law 101 yX10_apart ∈ bq_L := bq_m 1119 (by decide +kernel) rfl
theorem ml_L_102 : Cond.methodLink R_law 102 yX9_free ∈ bq_L := bq_m 768 (by decide +kernel) rfl
theorem ml_L_105 : Cond.methodLink R_law 105 yX10_free ∈ bq_L := bq_m 1123 (by decide +kernel) rfl
theorem ml_L_106 : Cond.methodLink R_law 106 yX9_burnt ∈ bq_L := bq_m 777 (by decide +kernel) rfl
theorem ml_L_110 : Cond.methodLink R_law 110 yX10_burnt ∈ bq_L := bq_m 1127 (by decide +kernel) rfl
theorem ml_L_111 : Cond.methodLink R_law 111 yX9_image ∈ bq_L := bq_m 791 (by decide +kernel) rfl
theorem ml_L_114 : Cond.methodLink R_law 114 yX10_image ∈ bq_L := bq_m 1140 (by decide +kernel) rfl
theorem ml_L_115 : Cond.methodLink R_law 115 yX9_restore ∈ bq_L := bq_m 801 (by decide +kernel) rfl
theorem ml_L_118 : Cond.methodLink R_law 118 yX10_restore ∈ bq_L := bq_m 1148 (by decide +kernel) rfl
theorem ml_L_119 : Cond.methodLink R_law 119 yX9_walk ∈ bq_L := bq_m 805 (by decide +kernel) rfl
theorem ml_L_123 : Cond.methodLink R_law 123 yX10_walk ∈ bq_L := bq_m 1156 (by decide +kernel) rfl
theorem ml_L_124 : Cond.methodLink R_law 124 yX9_joined ∈ bq_L := bq_m 836 (by decide +kernel) rfl
theorem ml_L_127 : Cond.methodLink R_law 127 yX10_joined ∈ bq_L := bq_m 1177 (by decide +kernel) rfl
theorem ml_L_128 : Cond.methodLink R_law 128 yX9_sheet ∈ bq_L := bq_m 848 (by decide +kernel) rfl
theorem ml_L_131 : Cond.methodLink R_law 131 yX10_sheet ∈ bq_L := bq_m 1181 (by decide +kernel) rfl
theorem ml_L_132 : Cond.methodLink R_law 132 yX9_drop ∈ bq_L := bq_m 859 (by decide +kernel) rfl
theorem ml_L_135 : Cond.methodLink R_law 135 yX10_drop ∈ bq_L := bq_m 1185 (by decide +kernel) rfl
theorem ml_L_136 : Cond.methodLink R_law 136 yX9_item ∈ bq_L := bq_m 863 (by decide +kernel) rfl
theorem ml_L_140 : Cond.methodLink R_law 140 yX10_item ∈ bq_L := bq_m 1189 (by decide +kernel) rfl
theorem ml_L_141 : Cond.methodLink R_law 141 yX9_copy ∈ bq_L := bq_m 871 (by decide +kernel) rfl
theorem ml_L_144 : Cond.methodLink R_law 144 yX10_copy ∈ bq_L := bq_m 1193 (by decide +kernel) rfl
theorem in_yX9_book : Cond.instanceMethod yX9_book ∈ bq_L := bq_m 333 (by decide +kernel) rfl
theorem sl_X9_X9_yX9_book : Cond.selects RX9 yX9_book yX9_book ∈ bq_L := bq_m 334 (by decide +kernel) rfl
theorem hd_yX9_book : bq_H yX9_book cX9_book 2 (some .int) 1 := ⟨bq_mT 335 (by decide +kernel) rfl, bq_m 48 (by decide +kernel) rfl, by decide +kernel⟩
theorem in_yX10_book : Cond.instanceMethod yX10_book ∈ bq_L := bq_m 962 (by decide +kernel) rfl
theorem sl_X10_X10_yX10_book : Cond.selects RX10 yX10_book yX10_book ∈ bq_L := bq_m 963 (by decide +kernel) rfl
theorem hd_yX10_book : bq_H yX10_book cX10_book 2 (some .int) 1 := ⟨bq_mT 964 (by decide +kernel) rfl, bq_m 58 (by decide +kernel) rfl, by decide +kernel⟩
theorem in_yX9_quote : Cond.instanceMethod yX9_quote ∈ bq_L := bq_m 366 (by decide +kernel) rfl
theorem sl_X9_X9_yX9_quote : Cond.selects RX9 yX9_quote yX9_quote ∈ bq_L := bq_m 367 (by decide +kernel) rfl
theorem hd_yX9_quote : bq_H yX9_quote cX9_quote 4 (some .int) 3 := ⟨bq_mT 368 (by decide +kernel) rfl, bq_m 48 (by decide +kernel) rfl, by decide +kernel⟩
theorem in_yX10_quote : Cond.instanceMethod yX10_quote ∈ bq_L := bq_m 970 (by decide +kernel) rfl
theorem sl_X10_X10_yX10_quote : Cond.selects RX10 yX10_quote yX10_quote ∈ bq_L := bq_m 971 (by decide +kernel) rfl
theorem hd_yX10_quote : bq_H yX10_quote cX10_quote 5 (some .int) 3 := ⟨bq_mT 972 (by decide +kernel) rfl, bq_m 58 (by decide +kernel) rfl, by decide +kernel⟩
theorem in_yX9_hate : Cond.instanceMethod yX9_hate ∈ bq_L := bq_m 378 (by decide +kernel) rfl
theorem sl_X9_X9_yX9_hate : Cond.selects RX9 yX9_hate yX9_hate ∈ bq_L := bq_m 379 (by decide +kernel) rfl
theorem hd_yX9_hate : bq_H yX9_hate cX9_hate 4 (some .int) 3 := ⟨bq_mT 380 (by decide +kernel) rfl, bq_m 48 (by decide +kernel) rfl, by decide +kernel⟩
theorem in_yX10_hate : Cond.instanceMethod yX10_hate ∈ bq_L := bq_m 982 (by decide +kernel) rfl
theorem sl_X10_X10_yX10_hate : Cond.selects RX10 yX10_hate yX10_hate ∈ bq_L := bq_m 983 (by decide +kernel) rfl
theorem hd_yX10_hate : bq_H yX10_hate cX10_hate 5 (some .int) 3 := ⟨bq_mT 984 (by decide +kernel) rfl, bq_m 58 (by decide +kernel) rfl, by decide +kernel⟩
theorem in_yX9_prop : Cond.instanceMethod yX9_prop ∈ bq_L := bq_m 386 (by decide +kernel) rfl
theorem sl_X9_X9_yX9_prop : Cond.selects RX9 yX9_prop yX9_prop ∈ bq_L := bq_m 387 (by decide +kernel) rfl
theorem hd_yX9_prop : bq_H yX9_prop cX9_prop 3 (some .int) 2 := ⟨bq_mT 388 (by decide +kernel) rfl, bq_m 48 (by decide +kernel) rfl, by decide +kernel⟩
theorem in_yX10_prop : Cond.instanceMethod yX10_prop ∈ bq_L := bq_m 986 (by decide +kernel) rfl
theorem sl_X10_X10_yX10_prop : Cond.selects RX10 yX10_prop yX10_prop ∈ bq_L := bq_m 987 (by decide +kernel) rfl
theorem hd_yX10_prop : bq_H yX10_prop cX10_prop 4 (some .int) 2 := ⟨bq_mT 988 (by decide +kernel) rfl, bq_m 58 (by decide +kernel) rfl, by decide +kernel⟩
theorem in_yX9_thick : Cond.instanceMethod yX9_thick ∈ bq_L := bq_m 395 (by decide +kernel) rfl
theorem sl_X9_X9_yX9_thick : Cond.selects RX9 yX9_thick yX9_thick ∈ bq_L := bq_m 396 (by decide +kernel) rfl
theorem hd_yX9_thick : bq_H yX9_thick cX9_thick 4 (some .int) 2 := ⟨bq_mT 397 (by decide +kernel) rfl, bq_m 48 (by decide +kernel) rfl, by decide +kernel⟩
theorem in_yX10_thick : Cond.instanceMethod yX10_thick ∈ bq_L := bq_m 990 (by decide +kernel) rfl
theorem sl_X10_X10_yX10_thick : Cond.selects RX10 yX10_thick yX10_thick ∈ bq_L := bq_m 991 (by decide +kernel) rfl
theorem hd_yX10_thick : bq_H yX10_thick cX10_thick 4 (some .int) 2 := ⟨bq_mT 992 (by decide +kernel) rfl, bq_m 58 (by decide +kernel) rfl, by decide +kernel⟩
theorem in_yX9_rule : Cond.instanceMethod yX9_rule ∈ bq_L := bq_m 399 (by decide +kernel) rfl
theorem sl_X9_X9_yX9_rule : Cond.selects RX9 yX9_rule yX9_rule ∈ bq_L := bq_m 400 (by decide +kernel) rfl
theorem hd_yX9_rule : bq_H yX9_rule cX9_rule 3 (some .int) 2 := ⟨bq_mT 401 (by decide +kernel) rfl, bq_m 48 (by decide +kernel) rfl, by decide +kernel⟩
theorem in_yX10_rule : Cond.instanceMethod yX10_rule ∈ bq_L := bq_m 994 (by decide +kernel) rfl
theorem sl_X10_X10_yX10_rule : Cond.selects RX10 yX10_rule yX10_rule ∈ bq_L := bq_m 995 (by decide +kernel) rfl
theorem hd_yX10_rule : bq_H yX10_rule cX10_rule 4 (some .int) 2 := ⟨bq_mT 996 (by decide +kernel) rfl, bq_m 58 (by decide +kernel) rfl, by decide +kernel⟩
theorem in_yX9_touch : Cond.instanceMethod yX9_touch ∈ bq_L := bq_m 407 (by decide +kernel) rfl
theorem sl_X9_X9_yX9_touch : Cond.selects RX9 yX9_touch yX9_touch ∈ bq_L := bq_m 408 (by decide +kernel) rfl
theorem hd_yX9_touch : bq_H yX9_touch cX9_touch 3 (some .int) 2 := ⟨bq_mT 409 (by decide +kernel) rfl, bq_m 48 (by decide +kernel) rfl, by decide +kernel⟩
theorem in_yX10_touch : Cond.instanceMethod yX10_touch ∈ bq_L := bq_m 998 (by decide +kernel) rfl
theorem sl_X10_X10_yX10_touch : Cond.selects RX10 yX10_touch yX10_touch ∈ bq_L := bq_m 999 (by decide +kernel) rfl
theorem hd_yX10_touch : bq_H yX10_touch cX10_touch 3 (some .int) 2 := ⟨bq_mT 1000 (by decide +kernel) rfl, bq_m 58 (by decide +kernel) rfl, by decide +kernel⟩
theorem in_yX9_type : Cond.instanceMethod yX9_type ∈ bq_L := bq_m 415 (by decide +kernel) rfl
theorem sl_X9_X9_yX9_type : Cond.selects RX9 yX9_type yX9_type ∈ bq_L := bq_m 416 (by decide +kernel) rfl
theorem hd_yX9_type : bq_H yX9_type cX9_type 4 (some .int) 2 := ⟨bq_mT 417 (by decide +kernel) rfl, bq_m 48 (by decide +kernel) rfl, by decide +kernel⟩
theorem in_yX10_type : Cond.instanceMethod yX10_type ∈ bq_L := bq_m 1006 (by decide +kernel) rfl
theorem sl_X10_X10_yX10_type : Cond.selects RX10 yX10_type yX10_type ∈ bq_L := bq_m 1007 (by decide +kernel) rfl
theorem hd_yX10_type : bq_H yX10_type cX10_type 5 (some .int) 2 := ⟨bq_mT 1008 (by decide +kernel) rfl, bq_m 58 (by decide +kernel) rfl, by decide +kernel⟩
theorem in_yX9_books : Cond.instanceMethod yX9_books ∈ bq_L := bq_m 429 (by decide +kernel) rfl
theorem sl_X9_X9_yX9_books : Cond.selects RX9 yX9_books yX9_books ∈ bq_L := bq_m 430 (by decide +kernel) rfl
theorem hd_yX9_books : bq_H yX9_books cX9_books 2 (some .int) 0 := ⟨bq_mT 431 (by decide +kernel) rfl, bq_m 48 (by decide +kernel) rfl, by decide +kernel⟩
theorem in_yX10_books : Cond.instanceMethod yX10_books ∈ bq_L := bq_m 1014 (by decide +kernel) rfl
theorem sl_X10_X10_yX10_books : Cond.selects RX10 yX10_books yX10_books ∈ bq_L := bq_m 1015 (by decide +kernel) rfl
theorem hd_yX10_books : bq_H yX10_books cX10_books 5 (some .int) 0 := ⟨bq_mT 1016 (by decide +kernel) rfl, bq_m 58 (by decide +kernel) rfl, by decide +kernel⟩
theorem in_yX9_hall : Cond.instanceMethod yX9_hall ∈ bq_L := bq_m 479 (by decide +kernel) rfl
theorem sl_X9_X9_yX9_hall : Cond.selects RX9 yX9_hall yX9_hall ∈ bq_L := bq_m 480 (by decide +kernel) rfl
theorem hd_yX9_hall : bq_H yX9_hall cX9_hall 2 (some .int) 0 := ⟨bq_mT 481 (by decide +kernel) rfl, bq_m 48 (by decide +kernel) rfl, by decide +kernel⟩
theorem in_yX10_hall : Cond.instanceMethod yX10_hall ∈ bq_L := bq_m 1036 (by decide +kernel) rfl
theorem sl_X10_X10_yX10_hall : Cond.selects RX10 yX10_hall yX10_hall ∈ bq_L := bq_m 1037 (by decide +kernel) rfl
theorem hd_yX10_hall : bq_H yX10_hall cX10_hall 4 (some .int) 0 := ⟨bq_mT 1038 (by decide +kernel) rfl, bq_m 58 (by decide +kernel) rfl, by decide +kernel⟩
theorem in_yX9_at : Cond.instanceMethod yX9_at ∈ bq_L := bq_m 491 (by decide +kernel) rfl
theorem sl_X9_X9_yX9_at : Cond.selects RX9 yX9_at yX9_at ∈ bq_L := bq_m 492 (by decide +kernel) rfl
theorem hd_yX9_at : bq_H yX9_at cX9_at 2 (some .int) 1 := ⟨bq_mT 493 (by decide +kernel) rfl, bq_m 48 (by decide +kernel) rfl, by decide +kernel⟩
theorem in_yX10_at : Cond.instanceMethod yX10_at ∈ bq_L := bq_m 1040 (by decide +kernel) rfl
theorem sl_X10_X10_yX10_at : Cond.selects RX10 yX10_at yX10_at ∈ bq_L := bq_m 1041 (by decide +kernel) rfl
theorem hd_yX10_at : bq_H yX10_at cX10_at 2 (some .int) 1 := ⟨bq_mT 1042 (by decide +kernel) rfl, bq_m 58 (by decide +kernel) rfl, by decide +kernel⟩
theorem in_yX9_count : Cond.instanceMethod yX9_count ∈ bq_L := bq_m 499 (by decide +kernel) rfl
theorem sl_X9_X9_yX9_count : Cond.selects RX9 yX9_count yX9_count ∈ bq_L := bq_m 500 (by decide +kernel) rfl
theorem hd_yX9_count : bq_H yX9_count cX9_count 2 (some .int) 1 := ⟨bq_mT 501 (by decide +kernel) rfl, bq_m 48 (by decide +kernel) rfl, by decide +kernel⟩
theorem in_yX10_count : Cond.instanceMethod yX10_count ∈ bq_L := bq_m 1044 (by decide +kernel) rfl
theorem sl_X10_X10_yX10_count : Cond.selects RX10 yX10_count yX10_count ∈ bq_L := bq_m 1045 (by decide +kernel) rfl
theorem hd_yX10_count : bq_H yX10_count cX10_count 8 (some .int) 1 := ⟨bq_mT 1046 (by decide +kernel) rfl, bq_m 58 (by decide +kernel) rfl, by decide +kernel⟩
theorem in_yX9_judged : Cond.instanceMethod yX9_judged ∈ bq_L := bq_m 525 (by decide +kernel) rfl
theorem sl_X9_X9_yX9_judged : Cond.selects RX9 yX9_judged yX9_judged ∈ bq_L := bq_m 526 (by decide +kernel) rfl
theorem hd_yX9_judged : bq_H yX9_judged cX9_judged 1 (some .int) 0 := ⟨bq_mT 527 (by decide +kernel) rfl, bq_m 48 (by decide +kernel) rfl, by decide +kernel⟩
theorem in_yX10_judged : Cond.instanceMethod yX10_judged ∈ bq_L := bq_m 1051 (by decide +kernel) rfl
theorem sl_X10_X10_yX10_judged : Cond.selects RX10 yX10_judged yX10_judged ∈ bq_L := bq_m 1052 (by decide +kernel) rfl
theorem hd_yX10_judged : bq_H yX10_judged cX10_judged 1 (some .int) 0 := ⟨bq_mT 1053 (by decide +kernel) rfl, bq_m 58 (by decide +kernel) rfl, by decide +kernel⟩
theorem in_yX9_rows : Cond.instanceMethod yX9_rows ∈ bq_L := bq_m 538 (by decide +kernel) rfl
theorem sl_X9_X9_yX9_rows : Cond.selects RX9 yX9_rows yX9_rows ∈ bq_L := bq_m 539 (by decide +kernel) rfl
theorem hd_yX9_rows : bq_H yX9_rows cX9_rows 2 (some .int) 1 := ⟨bq_mT 540 (by decide +kernel) rfl, bq_m 48 (by decide +kernel) rfl, by decide +kernel⟩
theorem in_yX10_rows : Cond.instanceMethod yX10_rows ∈ bq_L := bq_m 1063 (by decide +kernel) rfl
theorem sl_X10_X10_yX10_rows : Cond.selects RX10 yX10_rows yX10_rows ∈ bq_L := bq_m 1064 (by decide +kernel) rfl
theorem hd_yX10_rows : bq_H yX10_rows cX10_rows 4 (some .int) 1 := ⟨bq_mT 1065 (by decide +kernel) rfl, bq_m 58 (by decide +kernel) rfl, by decide +kernel⟩
theorem in_yX9_row : Cond.instanceMethod yX9_row ∈ bq_L := bq_m 639 (by decide +kernel) rfl
theorem sl_X9_X9_yX9_row : Cond.selects RX9 yX9_row yX9_row ∈ bq_L := bq_m 640 (by decide +kernel) rfl
theorem hd_yX9_row : bq_H yX9_row cX9_row 4 (some .int) 3 := ⟨bq_mT 641 (by decide +kernel) rfl, bq_m 48 (by decide +kernel) rfl, by decide +kernel⟩
theorem in_yX10_row : Cond.instanceMethod yX10_row ∈ bq_L := bq_m 1079 (by decide +kernel) rfl
theorem sl_X10_X10_yX10_row : Cond.selects RX10 yX10_row yX10_row ∈ bq_L := bq_m 1080 (by decide +kernel) rfl
theorem hd_yX10_row : bq_H yX10_row cX10_row 6 (some .int) 3 := ⟨bq_mT 1081 (by decide +kernel) rfl, bq_m 58 (by decide +kernel) rfl, by decide +kernel⟩
theorem in_yX9_cut : Cond.instanceMethod yX9_cut ∈ bq_L := bq_m 659 (by decide +kernel) rfl
theorem sl_X9_X9_yX9_cut : Cond.selects RX9 yX9_cut yX9_cut ∈ bq_L := bq_m 660 (by decide +kernel) rfl
theorem hd_yX9_cut : bq_H yX9_cut cX9_cut 2 (some .int) 1 := ⟨bq_mT 661 (by decide +kernel) rfl, bq_m 48 (by decide +kernel) rfl, by decide +kernel⟩
theorem in_yX10_cut : Cond.instanceMethod yX10_cut ∈ bq_L := bq_m 1083 (by decide +kernel) rfl
theorem sl_X10_X10_yX10_cut : Cond.selects RX10 yX10_cut yX10_cut ∈ bq_L := bq_m 1084 (by decide +kernel) rfl
theorem hd_yX10_cut : bq_H yX10_cut cX10_cut 6 (some .int) 1 := ⟨bq_mT 1085 (by decide +kernel) rfl, bq_m 58 (by decide +kernel) rfl, by decide +kernel⟩
theorem in_yX9_put : Cond.instanceMethod yX9_put ∈ bq_L := bq_m 679 (by decide +kernel) rfl
theorem sl_X9_X9_yX9_put : Cond.selects RX9 yX9_put yX9_put ∈ bq_L := bq_m 680 (by decide +kernel) rfl
theorem hd_yX9_put : bq_H yX9_put cX9_put 3 (some .int) 1 := ⟨bq_mT 681 (by decide +kernel) rfl, bq_m 48 (by decide +kernel) rfl, by decide +kernel⟩
theorem in_yX10_put : Cond.instanceMethod yX10_put ∈ bq_L := bq_m 1091 (by decide +kernel) rfl
theorem sl_X10_X10_yX10_put : Cond.selects RX10 yX10_put yX10_put ∈ bq_L := bq_m 1092 (by decide +kernel) rfl
theorem hd_yX10_put : bq_H yX10_put cX10_put 2 (some .int) 1 := ⟨bq_mT 1093 (by decide +kernel) rfl, bq_m 58 (by decide +kernel) rfl, by decide +kernel⟩
theorem in_yX9_lend : Cond.instanceMethod yX9_lend ∈ bq_L := bq_m 718 (by decide +kernel) rfl
theorem sl_X9_X9_yX9_lend : Cond.selects RX9 yX9_lend yX9_lend ∈ bq_L := bq_m 719 (by decide +kernel) rfl
theorem hd_yX9_lend : bq_H yX9_lend cX9_lend 3 (some .int) 1 := ⟨bq_mT 720 (by decide +kernel) rfl, bq_m 48 (by decide +kernel) rfl, by decide +kernel⟩
theorem in_yX10_lend : Cond.instanceMethod yX10_lend ∈ bq_L := bq_m 1107 (by decide +kernel) rfl
theorem sl_X10_X10_yX10_lend : Cond.selects RX10 yX10_lend yX10_lend ∈ bq_L := bq_m 1108 (by decide +kernel) rfl
theorem hd_yX10_lend : bq_H yX10_lend cX10_lend 2 (some .int) 1 := ⟨bq_mT 1109 (by decide +kernel) rfl, bq_m 58 (by decide +kernel) rfl, by decide +kernel⟩
theorem in_yX9_forged : Cond.instanceMethod yX9_forged ∈ bq_L := bq_m 722 (by decide +kernel) rfl
theorem sl_X9_X9_yX9_forged : Cond.selects RX9 yX9_forged yX9_forged ∈ bq_L := bq_m 723 (by decide +kernel) rfl
theorem hd_yX9_forged : bq_H yX9_forged cX9_forged 4 (some .int) 2 := ⟨bq_mT 724 (by decide +kernel) rfl, bq_m 48 (by decide +kernel) rfl, by decide +kernel⟩
theorem in_yX10_forged : Cond.instanceMethod yX10_forged ∈ bq_L := bq_m 1111 (by decide +kernel) rfl
theorem sl_X10_X10_yX10_forged : Cond.selects RX10 yX10_forged yX10_forged ∈ bq_L := bq_m 1112 (by decide +kernel) rfl
theorem hd_yX10_forged : bq_H yX10_forged cX10_forged 7 (some .int) 2 := ⟨bq_mT 1113 (by decide +kernel) rfl, bq_m 58 (by decide +kernel) rfl, by decide +kernel⟩
theorem in_yX9_apart : Cond.instanceMethod yX9_apart ∈ bq_L := bq_m 752 (by decide +kernel) rfl
theorem sl_X9_X9_yX9_apart : Cond.selects RX9 yX9_apart yX9_apart ∈ bq_L := bq_m 753 (by decide +kernel) rfl
theorem hd_yX9_apart : bq_H yX9_apart cX9_apart 4 (some .int) 3 := ⟨bq_mT 754 (by decide +kernel) rfl, bq_m 48 (by decide +kernel) rfl, by decide +kernel⟩
theorem in_yX10_apart : Cond.instanceMethod yX10_apart ∈ bq_L := bq_m 1120 (by decide +kernel) rfl
theorem sl_X10_X10_yX10_apart : Cond.selects RX10 yX10_apart yX10_apart ∈ bq_L := bq_m 1121 (by decide +kernel) rfl
theorem hd_yX10_apart : bq_H yX10_apart cX10_apart 10 (some .int) 3 := ⟨bq_mT 1122 (by decide +kernel) rfl, bq_m 58 (by decide +kernel) rfl, by decide +kernel⟩
theorem in_yX9_free : Cond.instanceMethod yX9_free ∈ bq_L := bq_m 769 (by decide +kernel) rfl
theorem sl_X9_X9_yX9_free : Cond.selects RX9 yX9_free yX9_free ∈ bq_L := bq_m 770 (by decide +kernel) rfl
theorem hd_yX9_free : bq_H yX9_free cX9_free 4 (some .int) 1 := ⟨bq_mT 771 (by decide +kernel) rfl, bq_m 48 (by decide +kernel) rfl, by decide +kernel⟩
theorem in_yX10_free : Cond.instanceMethod yX10_free ∈ bq_L := bq_m 1124 (by decide +kernel) rfl
theorem sl_X10_X10_yX10_free : Cond.selects RX10 yX10_free yX10_free ∈ bq_L := bq_m 1125 (by decide +kernel) rfl
theorem hd_yX10_free : bq_H yX10_free cX10_free 5 (some .int) 1 := ⟨bq_mT 1126 (by decide +kernel) rfl, bq_m 58 (by decide +kernel) rfl, by decide +kernel⟩
theorem in_yX9_burnt : Cond.instanceMethod yX9_burnt ∈ bq_L := bq_m 778 (by decide +kernel) rfl
theorem sl_X9_X9_yX9_burnt : Cond.selects RX9 yX9_burnt yX9_burnt ∈ bq_L := bq_m 779 (by decide +kernel) rfl
theorem hd_yX9_burnt : bq_H yX9_burnt cX9_burnt 7 (some .int) 5 := ⟨bq_mT 780 (by decide +kernel) rfl, bq_m 48 (by decide +kernel) rfl, by decide +kernel⟩
theorem in_yX10_burnt : Cond.instanceMethod yX10_burnt ∈ bq_L := bq_m 1128 (by decide +kernel) rfl
theorem sl_X10_X10_yX10_burnt : Cond.selects RX10 yX10_burnt yX10_burnt ∈ bq_L := bq_m 1129 (by decide +kernel) rfl
theorem hd_yX10_burnt : bq_H yX10_burnt cX10_burnt 14 (some .int) 5 := ⟨bq_mT 1130 (by decide +kernel) rfl, bq_m 58 (by decide +kernel) rfl, by decide +kernel⟩
theorem in_yX9_image : Cond.instanceMethod yX9_image ∈ bq_L := bq_m 792 (by decide +kernel) rfl
theorem sl_X9_X9_yX9_image : Cond.selects RX9 yX9_image yX9_image ∈ bq_L := bq_m 793 (by decide +kernel) rfl
theorem hd_yX9_image : bq_H yX9_image cX9_image 1 (some .int) 0 := ⟨bq_mT 794 (by decide +kernel) rfl, bq_m 48 (by decide +kernel) rfl, by decide +kernel⟩
theorem in_yX10_image : Cond.instanceMethod yX10_image ∈ bq_L := bq_m 1141 (by decide +kernel) rfl
theorem sl_X10_X10_yX10_image : Cond.selects RX10 yX10_image yX10_image ∈ bq_L := bq_m 1142 (by decide +kernel) rfl
theorem hd_yX10_image : bq_H yX10_image cX10_image 2 (some .int) 0 := ⟨bq_mT 1143 (by decide +kernel) rfl, bq_m 58 (by decide +kernel) rfl, by decide +kernel⟩
theorem in_yX9_restore : Cond.instanceMethod yX9_restore ∈ bq_L := bq_m 802 (by decide +kernel) rfl
theorem sl_X9_X9_yX9_restore : Cond.selects RX9 yX9_restore yX9_restore ∈ bq_L := bq_m 803 (by decide +kernel) rfl
theorem hd_yX9_restore : bq_H yX9_restore cX9_restore 1 (some .int) 0 := ⟨bq_mT 804 (by decide +kernel) rfl, bq_m 48 (by decide +kernel) rfl, by decide +kernel⟩
theorem in_yX10_restore : Cond.instanceMethod yX10_restore ∈ bq_L := bq_m 1149 (by decide +kernel) rfl
theorem sl_X10_X10_yX10_restore : Cond.selects RX10 yX10_restore yX10_restore ∈ bq_L := bq_m 1150 (by decide +kernel) rfl
theorem hd_yX10_restore : bq_H yX10_restore cX10_restore 2 (some .int) 0 := ⟨bq_mT 1151 (by decide +kernel) rfl, bq_m 58 (by decide +kernel) rfl, by decide +kernel⟩
theorem in_yX9_walk : Cond.instanceMethod yX9_walk ∈ bq_L := bq_m 806 (by decide +kernel) rfl
theorem sl_X9_X9_yX9_walk : Cond.selects RX9 yX9_walk yX9_walk ∈ bq_L := bq_m 807 (by decide +kernel) rfl
theorem hd_yX9_walk : bq_H yX9_walk cX9_walk 11 (some .int) 4 := ⟨bq_mT 808 (by decide +kernel) rfl, bq_m 48 (by decide +kernel) rfl, by decide +kernel⟩
theorem in_yX10_walk : Cond.instanceMethod yX10_walk ∈ bq_L := bq_m 1157 (by decide +kernel) rfl
theorem sl_X10_X10_yX10_walk : Cond.selects RX10 yX10_walk yX10_walk ∈ bq_L := bq_m 1158 (by decide +kernel) rfl
theorem hd_yX10_walk : bq_H yX10_walk cX10_walk 14 (some .int) 4 := ⟨bq_mT 1159 (by decide +kernel) rfl, bq_m 58 (by decide +kernel) rfl, by decide +kernel⟩
theorem in_yX9_joined : Cond.instanceMethod yX9_joined ∈ bq_L := bq_m 837 (by decide +kernel) rfl
theorem sl_X9_X9_yX9_joined : Cond.selects RX9 yX9_joined yX9_joined ∈ bq_L := bq_m 838 (by decide +kernel) rfl
theorem hd_yX9_joined : bq_H yX9_joined cX9_joined 8 (some .int) 4 := ⟨bq_mT 839 (by decide +kernel) rfl, bq_m 48 (by decide +kernel) rfl, by decide +kernel⟩
theorem in_yX10_joined : Cond.instanceMethod yX10_joined ∈ bq_L := bq_m 1178 (by decide +kernel) rfl
theorem sl_X10_X10_yX10_joined : Cond.selects RX10 yX10_joined yX10_joined ∈ bq_L := bq_m 1179 (by decide +kernel) rfl
theorem hd_yX10_joined : bq_H yX10_joined cX10_joined 10 (some .int) 4 := ⟨bq_mT 1180 (by decide +kernel) rfl, bq_m 58 (by decide +kernel) rfl, by decide +kernel⟩
theorem in_yX9_sheet : Cond.instanceMethod yX9_sheet ∈ bq_L := bq_m 849 (by decide +kernel) rfl
theorem sl_X9_X9_yX9_sheet : Cond.selects RX9 yX9_sheet yX9_sheet ∈ bq_L := bq_m 850 (by decide +kernel) rfl
theorem hd_yX9_sheet : bq_H yX9_sheet cX9_sheet 4 (some .int) 3 := ⟨bq_mT 851 (by decide +kernel) rfl, bq_m 48 (by decide +kernel) rfl, by decide +kernel⟩
theorem in_yX10_sheet : Cond.instanceMethod yX10_sheet ∈ bq_L := bq_m 1182 (by decide +kernel) rfl
theorem sl_X10_X10_yX10_sheet : Cond.selects RX10 yX10_sheet yX10_sheet ∈ bq_L := bq_m 1183 (by decide +kernel) rfl
theorem hd_yX10_sheet : bq_H yX10_sheet cX10_sheet 5 (some .int) 3 := ⟨bq_mT 1184 (by decide +kernel) rfl, bq_m 58 (by decide +kernel) rfl, by decide +kernel⟩
theorem in_yX9_drop : Cond.instanceMethod yX9_drop ∈ bq_L := bq_m 860 (by decide +kernel) rfl
theorem sl_X9_X9_yX9_drop : Cond.selects RX9 yX9_drop yX9_drop ∈ bq_L := bq_m 861 (by decide +kernel) rfl
theorem hd_yX9_drop : bq_H yX9_drop cX9_drop 4 (some .int) 1 := ⟨bq_mT 862 (by decide +kernel) rfl, bq_m 48 (by decide +kernel) rfl, by decide +kernel⟩
theorem in_yX10_drop : Cond.instanceMethod yX10_drop ∈ bq_L := bq_m 1186 (by decide +kernel) rfl
theorem sl_X10_X10_yX10_drop : Cond.selects RX10 yX10_drop yX10_drop ∈ bq_L := bq_m 1187 (by decide +kernel) rfl
theorem hd_yX10_drop : bq_H yX10_drop cX10_drop 2 (some .int) 1 := ⟨bq_mT 1188 (by decide +kernel) rfl, bq_m 58 (by decide +kernel) rfl, by decide +kernel⟩
theorem in_yX9_item : Cond.instanceMethod yX9_item ∈ bq_L := bq_m 864 (by decide +kernel) rfl
theorem sl_X9_X9_yX9_item : Cond.selects RX9 yX9_item yX9_item ∈ bq_L := bq_m 865 (by decide +kernel) rfl
theorem hd_yX9_item : bq_H yX9_item cX9_item 7 (some .int) 4 := ⟨bq_mT 866 (by decide +kernel) rfl, bq_m 48 (by decide +kernel) rfl, by decide +kernel⟩
theorem in_yX10_item : Cond.instanceMethod yX10_item ∈ bq_L := bq_m 1190 (by decide +kernel) rfl
theorem sl_X10_X10_yX10_item : Cond.selects RX10 yX10_item yX10_item ∈ bq_L := bq_m 1191 (by decide +kernel) rfl
theorem hd_yX10_item : bq_H yX10_item cX10_item 7 (some .int) 4 := ⟨bq_mT 1192 (by decide +kernel) rfl, bq_m 58 (by decide +kernel) rfl, by decide +kernel⟩
theorem in_yX9_copy : Cond.instanceMethod yX9_copy ∈ bq_L := bq_m 872 (by decide +kernel) rfl
theorem sl_X9_X9_yX9_copy : Cond.selects RX9 yX9_copy yX9_copy ∈ bq_L := bq_m 873 (by decide +kernel) rfl
theorem hd_yX9_copy : bq_H yX9_copy cX9_copy 8 (some .int) 5 := ⟨bq_mT 874 (by decide +kernel) rfl, bq_m 48 (by decide +kernel) rfl, by decide +kernel⟩
theorem in_yX10_copy : Cond.instanceMethod yX10_copy ∈ bq_L := bq_m 1194 (by decide +kernel) rfl
theorem sl_X10_X10_yX10_copy : Cond.selects RX10 yX10_copy yX10_copy ∈ bq_L := bq_m 1195 (by decide +kernel) rfl
theorem hd_yX10_copy : bq_H yX10_copy cX10_copy 7 (some .int) 5 := ⟨bq_mT 1196 (by decide +kernel) rfl, bq_m 58 (by decide +kernel) rfl, by decide +kernel⟩
