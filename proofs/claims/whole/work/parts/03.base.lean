/-! ===== my own kit on the kit: one world, one contract form ===== -/
/-- words that stay by themselves, and words that are carried (nest mates' links, declared methods) -/
def bq_isN : Cond → Bool
  | .methodLinkNest _ _ _ _ => true
  | .declares _ => true
  | _ => false
/-- three words more, that the law's start shows (a private method of the class above) -/
def bq_x : List Cond := [.selects RX0 yX8_ofLonger yX8_ofLonger, .selects RX2 yX8_ofLonger yX8_ofLonger, .selects RX3 yX8_ofLonger yX8_ofLonger]
def bq_tbl : List Cond := bq_x ++ lw_tbl
def bq_T : List Cond := bq_tbl.filter goodWord
def bq_N : List Cond := bq_tbl.filter bq_isN
def bq_L : List Cond := bq_tbl.filter (fun w => goodWord w || bq_isN w)
theorem bq_m {w : Cond} (i : Nat) (h : bq_tbl[i]? = some w) (g : (goodWord w || bq_isN w) = true) : w ∈ bq_L := List.mem_filter.mpr ⟨List.mem_of_getElem? h, g⟩
theorem bq_mT {w : Cond} (i : Nat) (h : bq_tbl[i]? = some w) (g : goodWord w = true) : w ∈ bq_T := List.mem_filter.mpr ⟨List.mem_of_getElem? h, g⟩
theorem bq_T_L {w : Cond} (h : w ∈ bq_T) : w ∈ bq_L := List.mem_filter.mpr ⟨(List.mem_filter.mp h).1, by rw [(List.mem_filter.mp h).2]; rfl⟩
theorem bq_N_L {w : Cond} (h : w ∈ bq_N) : w ∈ bq_L := List.mem_filter.mpr ⟨(List.mem_filter.mp h).1, by rw [(List.mem_filter.mp h).2]; exact Bool.or_true _⟩
theorem bq_T_good : ∀ w ∈ bq_T, w ∈ bq_L ∧ ((w.onTables && w.keeps) = true ∨ ∃ ty, w = .arrayClass ty) := fun w h =>
  ⟨bq_T_L h, good_of_word (List.mem_filter.mp h).2⟩
theorem bq_split {w : Cond} (h : w ∈ bq_L) : w ∈ bq_T ∨ w ∈ bq_N := by
  have h2 := List.mem_filter.mp h
  rcases Bool.or_eq_true_iff.mp h2.2 with g | g
  · exact Or.inl (List.mem_filter.mpr ⟨h2.1, g⟩)
  · exact Or.inr (List.mem_filter.mpr ⟨h2.1, g⟩)
theorem bq_N_on {w : Cond} (h : w ∈ bq_N) : w.onTables = true := by
  have h1 := (List.mem_filter.mp h).2
  cases w <;> first | rfl | (simp [bq_isN] at h1; done)
theorem bq_N_warm {w : Cond} (h : w ∈ bq_N) {s U : State} (hW : s.WarmedH U.vm) (hz : va_Nw w s) : va_Nw w U := by
  have h1 := (List.mem_filter.mp h).2
  cases w <;> first | exact va_Nw.warmM hW hz | exact va_Nw.warmD hW hz | (simp [bq_isN] at h1; done)
/-- a private method of a class above the receiver's -/
theorem bq_selp {y : MethodName} {s : State} {args : Array Value} {n : Nat} {C : String} (hy : y.cls ≠ "java/lang/invoke/MethodHandle" ∧ y.cls ≠ "java/lang/invoke/VarHandle")
    (hins : (Cond.instantiable C n).before args s = true) (hpriv : (Cond.privateMethod y).before args s = true) (hinst : (Cond.instanceMethod y).before args s = true) (hsame : (Cond.sameMethod y.cls y.cls y.name y.desc).before args s = true) :
    (Cond.selects C y y).before args s = true := by
  obtain ⟨c, k, hc, hk, -, hniab, -, -⟩ := Cond.instantiable_spec hins
  obtain ⟨mk, methM, hnamed, hmethM, -, -⟩ := Cond.instanceMethod_spec hinst
  have hfound : s.methodFound? y.cls y.name y.desc = some mk := State.methodFound?_of_named hnamed hy
  have hsel : selectMethod {} s.vm c mk = .method mk := selectMethod_private hmethM (Cond.privateMethod_at hpriv mk methM hnamed hmethM)
  have hcw := findClass_of_methodNamed hnamed
  have h2 : (s.vm.classes[mk.cls]?).any (fun z => !z.isInterface) = true := by
    have h3 := hsame
    have hn2 : s.methodNamed? ⟨y.cls, y.name, y.desc⟩ = some mk := hnamed
    simp only [Cond.before, Cond.holds, Cond.value, hcw, hfound, hn2] at h3
    simpa using h3
  simp only [Cond.before, Cond.holds, Cond.value, hc, hfound, hnamed, hsel, h2]
  simp
/-- the state: whole numbers by cell and place, longs by cell and place -/
abbrev bq_S : Type := (Nat → Nat → Int32) × (Nat → Nat → Int64)
def bq_sI (x : bq_S) (c k : Nat) (v : Int32) : bq_S := (fun d => if d = c then upd (x.1 c) k v else x.1 d, x.2)
def bq_sL (x : bq_S) (c k : Nat) (v : Int64) : bq_S := (x.1, fun d => if d = c then vp_updL (x.2 c) k v else x.2 d)
def bq_cI (x : bq_S) (c c1 i j n : Nat) : bq_S := (fun d => if d = c1 then va_cpy (x.1 c) (x.1 c1) i j n else x.1 d, x.2)
def bq_cL (x : bq_S) (c c1 i j n : Nat) : bq_S := (x.1, fun d => if d = c1 then va_cpy (x.2 c) (x.2 c1) i j n else x.2 d)
def bd {α β : Type} (e : α) (f : α → β) : β := f e
def un1 {α β : Type} (v : α) (f : α → β) : β := f v
theorem un1_e {α β : Type} {v : α} {f : α → β} {r : β} (h : un1 v f = r) : f v = r := h
def un2 {T0 T1 R : Type} (v : T0 × T1) (f : T0 → T1 → R) : R := f v.1 v.2
theorem un2_e {T0 T1 R : Type} {v0 : T0} {v1 : T1} {f : T0 → T1 → R} {r : R} (h : un2 (v0, v1) f = r) : f v0 v1 = r := h
def un3 {T0 T1 T2 R : Type} (v : T0 × T1 × T2) (f : T0 → T1 → T2 → R) : R := f v.1 v.2.1 v.2.2
theorem un3_e {T0 T1 T2 R : Type} {v0 : T0} {v1 : T1} {v2 : T2} {f : T0 → T1 → T2 → R} {r : R} (h : un3 (v0, v1, v2) f = r) : f v0 v1 v2 = r := h
def un4 {T0 T1 T2 T3 R : Type} (v : T0 × T1 × T2 × T3) (f : T0 → T1 → T2 → T3 → R) : R := f v.1 v.2.1 v.2.2.1 v.2.2.2
theorem un4_e {T0 T1 T2 T3 R : Type} {v0 : T0} {v1 : T1} {v2 : T2} {v3 : T3} {f : T0 → T1 → T2 → T3 → R} {r : R} (h : un4 (v0, v1, v2, v3) f = r) : f v0 v1 v2 v3 = r := h
def un5 {T0 T1 T2 T3 T4 R : Type} (v : T0 × T1 × T2 × T3 × T4) (f : T0 → T1 → T2 → T3 → T4 → R) : R := f v.1 v.2.1 v.2.2.1 v.2.2.2.1 v.2.2.2.2
theorem un5_e {T0 T1 T2 T3 T4 R : Type} {v0 : T0} {v1 : T1} {v2 : T2} {v3 : T3} {v4 : T4} {f : T0 → T1 → T2 → T3 → T4 → R} {r : R} (h : un5 (v0, v1, v2, v3, v4) f = r) : f v0 v1 v2 v3 v4 = r := h
def un6 {T0 T1 T2 T3 T4 T5 R : Type} (v : T0 × T1 × T2 × T3 × T4 × T5) (f : T0 → T1 → T2 → T3 → T4 → T5 → R) : R := f v.1 v.2.1 v.2.2.1 v.2.2.2.1 v.2.2.2.2.1 v.2.2.2.2.2
theorem un6_e {T0 T1 T2 T3 T4 T5 R : Type} {v0 : T0} {v1 : T1} {v2 : T2} {v3 : T3} {v4 : T4} {v5 : T5} {f : T0 → T1 → T2 → T3 → T4 → T5 → R} {r : R} (h : un6 (v0, v1, v2, v3, v4, v5) f = r) : f v0 v1 v2 v3 v4 v5 = r := h
def un7 {T0 T1 T2 T3 T4 T5 T6 R : Type} (v : T0 × T1 × T2 × T3 × T4 × T5 × T6) (f : T0 → T1 → T2 → T3 → T4 → T5 → T6 → R) : R := f v.1 v.2.1 v.2.2.1 v.2.2.2.1 v.2.2.2.2.1 v.2.2.2.2.2.1 v.2.2.2.2.2.2
theorem un7_e {T0 T1 T2 T3 T4 T5 T6 R : Type} {v0 : T0} {v1 : T1} {v2 : T2} {v3 : T3} {v4 : T4} {v5 : T5} {v6 : T6} {f : T0 → T1 → T2 → T3 → T4 → T5 → T6 → R} {r : R} (h : un7 (v0, v1, v2, v3, v4, v5, v6) f = r) : f v0 v1 v2 v3 v4 v5 v6 = r := h
def un8 {T0 T1 T2 T3 T4 T5 T6 T7 R : Type} (v : T0 × T1 × T2 × T3 × T4 × T5 × T6 × T7) (f : T0 → T1 → T2 → T3 → T4 → T5 → T6 → T7 → R) : R := f v.1 v.2.1 v.2.2.1 v.2.2.2.1 v.2.2.2.2.1 v.2.2.2.2.2.1 v.2.2.2.2.2.2.1 v.2.2.2.2.2.2.2
theorem un8_e {T0 T1 T2 T3 T4 T5 T6 T7 R : Type} {v0 : T0} {v1 : T1} {v2 : T2} {v3 : T3} {v4 : T4} {v5 : T5} {v6 : T6} {v7 : T7} {f : T0 → T1 → T2 → T3 → T4 → T5 → T6 → T7 → R} {r : R} (h : un8 (v0, v1, v2, v3, v4, v5, v6, v7) f = r) : f v0 v1 v2 v3 v4 v5 v6 v7 = r := h
def un9 {T0 T1 T2 T3 T4 T5 T6 T7 T8 R : Type} (v : T0 × T1 × T2 × T3 × T4 × T5 × T6 × T7 × T8) (f : T0 → T1 → T2 → T3 → T4 → T5 → T6 → T7 → T8 → R) : R := f v.1 v.2.1 v.2.2.1 v.2.2.2.1 v.2.2.2.2.1 v.2.2.2.2.2.1 v.2.2.2.2.2.2.1 v.2.2.2.2.2.2.2.1 v.2.2.2.2.2.2.2.2
theorem un9_e {T0 T1 T2 T3 T4 T5 T6 T7 T8 R : Type} {v0 : T0} {v1 : T1} {v2 : T2} {v3 : T3} {v4 : T4} {v5 : T5} {v6 : T6} {v7 : T7} {v8 : T8} {f : T0 → T1 → T2 → T3 → T4 → T5 → T6 → T7 → T8 → R} {r : R} (h : un9 (v0, v1, v2, v3, v4, v5, v6, v7, v8) f = r) : f v0 v1 v2 v3 v4 v5 v6 v7 v8 = r := h
def un10 {T0 T1 T2 T3 T4 T5 T6 T7 T8 T9 R : Type} (v : T0 × T1 × T2 × T3 × T4 × T5 × T6 × T7 × T8 × T9) (f : T0 → T1 → T2 → T3 → T4 → T5 → T6 → T7 → T8 → T9 → R) : R := f v.1 v.2.1 v.2.2.1 v.2.2.2.1 v.2.2.2.2.1 v.2.2.2.2.2.1 v.2.2.2.2.2.2.1 v.2.2.2.2.2.2.2.1 v.2.2.2.2.2.2.2.2.1 v.2.2.2.2.2.2.2.2.2
theorem un10_e {T0 T1 T2 T3 T4 T5 T6 T7 T8 T9 R : Type} {v0 : T0} {v1 : T1} {v2 : T2} {v3 : T3} {v4 : T4} {v5 : T5} {v6 : T6} {v7 : T7} {v8 : T8} {v9 : T9} {f : T0 → T1 → T2 → T3 → T4 → T5 → T6 → T7 → T8 → T9 → R} {r : R} (h : un10 (v0, v1, v2, v3, v4, v5, v6, v7, v8, v9) f = r) : f v0 v1 v2 v3 v4 v5 v6 v7 v8 v9 = r := h
def un11 {T0 T1 T2 T3 T4 T5 T6 T7 T8 T9 T10 R : Type} (v : T0 × T1 × T2 × T3 × T4 × T5 × T6 × T7 × T8 × T9 × T10) (f : T0 → T1 → T2 → T3 → T4 → T5 → T6 → T7 → T8 → T9 → T10 → R) : R := f v.1 v.2.1 v.2.2.1 v.2.2.2.1 v.2.2.2.2.1 v.2.2.2.2.2.1 v.2.2.2.2.2.2.1 v.2.2.2.2.2.2.2.1 v.2.2.2.2.2.2.2.2.1 v.2.2.2.2.2.2.2.2.2.1 v.2.2.2.2.2.2.2.2.2.2
theorem un11_e {T0 T1 T2 T3 T4 T5 T6 T7 T8 T9 T10 R : Type} {v0 : T0} {v1 : T1} {v2 : T2} {v3 : T3} {v4 : T4} {v5 : T5} {v6 : T6} {v7 : T7} {v8 : T8} {v9 : T9} {v10 : T10} {f : T0 → T1 → T2 → T3 → T4 → T5 → T6 → T7 → T8 → T9 → T10 → R} {r : R} (h : un11 (v0, v1, v2, v3, v4, v5, v6, v7, v8, v9, v10) f = r) : f v0 v1 v2 v3 v4 v5 v6 v7 v8 v9 v10 = r := h
def un12 {T0 T1 T2 T3 T4 T5 T6 T7 T8 T9 T10 T11 R : Type} (v : T0 × T1 × T2 × T3 × T4 × T5 × T6 × T7 × T8 × T9 × T10 × T11) (f : T0 → T1 → T2 → T3 → T4 → T5 → T6 → T7 → T8 → T9 → T10 → T11 → R) : R := f v.1 v.2.1 v.2.2.1 v.2.2.2.1 v.2.2.2.2.1 v.2.2.2.2.2.1 v.2.2.2.2.2.2.1 v.2.2.2.2.2.2.2.1 v.2.2.2.2.2.2.2.2.1 v.2.2.2.2.2.2.2.2.2.1 v.2.2.2.2.2.2.2.2.2.2.1 v.2.2.2.2.2.2.2.2.2.2.2
theorem un12_e {T0 T1 T2 T3 T4 T5 T6 T7 T8 T9 T10 T11 R : Type} {v0 : T0} {v1 : T1} {v2 : T2} {v3 : T3} {v4 : T4} {v5 : T5} {v6 : T6} {v7 : T7} {v8 : T8} {v9 : T9} {v10 : T10} {v11 : T11} {f : T0 → T1 → T2 → T3 → T4 → T5 → T6 → T7 → T8 → T9 → T10 → T11 → R} {r : R} (h : un12 (v0, v1, v2, v3, v4, v5, v6, v7, v8, v9, v10, v11) f = r) : f v0 v1 v2 v3 v4 v5 v6 v7 v8 v9 v10 v11 = r := h
def ok_i (i : Int32) (n : Nat) : Bool := decide (¬ (i < 0 ∨ n ≤ i.toNatClampNeg))
def wh {V E : Type} : Nat → (V → Option (V ⊕ E)) → V → Option E
  | 0, _, _ => none
  | n + 1, b, v => (b v).bind (Sum.elim (wh n b) some)
theorem wh_s {V E : Type} {n : Nat} {b : V → Option (V ⊕ E)} {v : V} {e : E} (h : wh (n + 1) b v = some e) : ∃ r, b v = some r ∧ Sum.elim (wh n b) some r = some e := Option.bind_eq_some_iff.mp h
theorem bq_gd {i : Int32} {n : Nat} {α : Type} {a : Option α} {r : α} (h : (if ok_i i n = true then a else none) = some r) : vp_in i n ∧ a = some r := by
  by_cases c : ok_i i n = true
  · rw [if_pos c] at h; exact ⟨of_decide_eq_true (p := ¬ (i < 0 ∨ n ≤ i.toNatClampNeg)) c, h⟩
  · rw [if_neg c] at h; cases h
theorem bq_inl {i : Int32} {n : Nat} (h : ok_i i n = true) : vp_in i n := of_decide_eq_true (p := ¬ (i < 0 ∨ n ≤ i.toNatClampNeg)) h
theorem bq_gp {c : Prop} [Decidable c] {α : Type} {a : Option α} {r : α} (h : (if c then a else none) = some r) : c ∧ a = some r := by
  by_cases d : c
  · rw [if_pos d] at h; exact ⟨d, h⟩
  · rw [if_neg d] at h; cases h
theorem bq_b {α β : Type} {e : α} {f : α → Option β} {r : β} (h : bd e f = some r) : ∃ y, y = e ∧ f y = some r := ⟨e, rfl, h⟩
theorem bq_bv {α β : Type} {e v : α} {f : α → Option β} {r : β} (h : bd e f = some r) (hv : v = e) : f v = some r := by subst hv; exact h
theorem bq_il {α β γ : Type} {f : α → Option γ} {g : β → Option γ} {e : α ⊕ β} {r : γ} {z : α} (h : Sum.elim f g e = some r) (hz : e = .inl z) : f z = some r := by subst hz; exact h
theorem bq_ir {α β γ : Type} {f : α → Option γ} {g : β → Option γ} {e : α ⊕ β} {r : γ} {z : β} (h : Sum.elim f g e = some r) (hz : e = .inr z) : g z = some r := by subst hz; exact h
theorem bq_lt {i : Int32} {n : Nat} (h : vp_in i n) : i.toNatClampNeg < n := Nat.not_le.mp (fun q => h (Or.inr q))
theorem bq_z {v : Int32} (h : v = 0 ∨ v = 1) : narrow .boolean (.int v) = .int v := by rcases h with rfl | rfl <;> rfl
theorem bq_zf {v : Int32} (h : v = 0 ∨ v = 1) : fits .boolean (.int v) = true := by rcases h with rfl | rfl <;> rfl
/-- a contract: from the world w x, with these arguments, it answers o and the world is w x1 -/
def bq_P (D : va_G) (cl : List vw_C) (tys : List (ClassId × FieldType)) (w : va_W) (sz : Nat) (av : List Value) : Array Value → State → Prop :=
  va_Pc av (fun U => U.heap.size = sz ∧ va_P D cl w U.heap ∧ va_K D cl tys U ∧ va_D (fun _ => True) w ∧ ∀ z ∈ bq_N, va_Nw z U)
def bq_Q (D : va_G) (cl : List vw_C) (o : Option Int32) (w1 : va_W) (A : Nat → Prop) : Array Value → State → Outcome → State → Prop :=
  fun _ st oc t => (oc = .returned (o.map Value.int) ∧ va_P D cl w1 t.heap) ∧ va_F A st t
def bq_M (l : Launch) (D : va_G) (cl : List vw_C) (tys : List (ClassId × FieldType)) (w : bq_S → va_W) (y : MethodName) (cc : ByteArray) (maxL : Nat) (ret : Option FieldType) (rm : Room) (av : List Value) (x : bq_S) (o : Option Int32) (x1 : bq_S) : Prop :=
  ∀ sz : Nat, Met l y (.code y cc maxL ret :: bq_T) rm (bq_P D cl tys (w x) sz av) (bq_Q D cl o (w x1) (va_A (w x) sz)) 0 0 (va_A (w x) sz)
theorem bq_blind {D : va_G} {cl : List vw_C} {tys : List (ClassId × FieldType)} {w : va_W} {sz : Nat} {av : List Value} : FrameBlind (bq_P D cl tys w sz av) := by
  intro a U g mk q
  obtain ⟨q0, q1, qP, qK, qD, qN⟩ := q
  exact ⟨q0, q1, qP, va_K.moved (u := U) (U := U.calling g mk a) (Vm.Alike.refl U.vm) qK, qD, fun z hz => va_Nw.same (u := U) (U := U.calling g mk a) (bq_N_on hz) rfl (qN z hz)⟩
/-- the world's addresses are the same for all states -/
def bq_Ad (w : bq_S → va_W) : Prop := ∀ x y : bq_S, ∀ (k : Nat) (a : Nat) (e : va_E), (w x)[k]? = some (a, e) → ∃ e', (w y)[k]? = some (a, e')
theorem bq_Ad.D {w : bq_S → va_W} (h : bq_Ad w) {A : Nat → Prop} {x : bq_S} (hD : va_D A (w x)) (y : bq_S) : va_D A (w y) := by
  refine ⟨fun i j p q hp hq hpq => ?_, fun k q hq => ?_⟩
  · obtain ⟨e1, h1⟩ := h y x i p.1 p.2 hp
    obtain ⟨e2, h2⟩ := h y x j q.1 q.2 hq
    exact hD.1 i j _ _ h1 h2 hpq
  · obtain ⟨e1, h1⟩ := h y x k q.1 q.2 hq
    exact hD.2 k (q.1, e1) h1
section BQ
variable {p : Program} {l : Launch} {e : Env} {R : Room} {s : State} {m : MethodId} {args : Array Value} {below : List Frame} {meth : Method} {c : Code} {H : Heap} {locs : List Loc} {cells slots : Nat} {Q : State → Prop}
variable {cc : ByteArray} {pc nL : Nat} {ls : Array Slot} {rest st : List Value} {D : va_G} {cl : List vw_C} {A : Nat → Prop} {a : Nat} {tys : List (ClassId × FieldType)} {own : String} {w : bq_S → va_W} {x x1 : bq_S} {o : Option Int32}
/-- what a callee's row of the tables says -/
def bq_H (y : MethodName) (bytes : ByteArray) (maxL : Nat) (ret : Option FieldType) (n : Nat) : Prop :=
  Cond.code y bytes maxL ret ∈ bq_T ∧ Cond.initialized y.cls ∈ bq_L ∧ (y.cls ≠ "java/lang/invoke/MethodHandle" ∧ y.cls ≠ "java/lang/invoke/VarHandle" ∧ (parseMethodDescriptor y.desc).map (fun d => d.parameters.length) = some n)
theorem bq_GI {y : MethodName} {bytes : ByteArray} {maxL : Nat} {ret : Option FieldType} {n : Nat} (h : bq_H y bytes maxL ret n) : GoodIn bq_L (.code y bytes maxL ret :: bq_T) := by
  intro z hz
  rcases List.mem_cons.mp hz with rfl | hz
  · exact bq_T_good _ h.1
  · exact bq_T_good _ hz
theorem bq_pre {av : List Value} (hts : ∀ z ∈ bq_L, z.before args s = true) (hK : va_K D cl tys s) (hP : va_P D cl (w x) H) (hD : va_D A (w x)) : ∀ U : State, U.heap = H → s.WarmedH U.vm → bq_P D cl tys (w x) H.size av av.toArray U :=
  fun U hU hW => ⟨rfl, by rw [hU], by rw [hU]; exact hP, va_K.moved hW.alike hK, hD.weaken (fun _ _ _ _ => trivial), fun z hz => bq_N_warm hz hW ((va_Nw.of (bq_N_on hz) (hts z (bq_N_L hz))))⟩
/-- behind any call -/
theorem bq_after {mc : Nat} {av : Array Value} (hr : va_Run p l e R s m args below meth c H locs cells slots 0 0 (F0 m pc ls st) rest (bq_Q D cl o (w x1) (va_A (w x) H.size) av) (va_A (w x) H.size)) (hD : va_D A (w x)) (hA : ∀ q, s.heap.size ≤ q → A q) (hS : va_S A s.heap H locs)
    (kk : ∀ (H1 : Heap) (locs1 : List Loc), va_P D cl (w x1) H1 → va_S A s.heap H1 locs1 → W p l e R s m args below meth c H1 locs1 cells slots Q (F0 m (pc + 3) ls ((o.map Value.int).toList ++ rest))) : W p l e R s m args below meth c H locs cells slots Q (F0 m pc ls st) := by
  intro T hT X
  obtain ⟨v, st₀, t, T', L, h0, X', hL, e1, e2, ⟨⟨hv, hp⟩, hz, hk⟩, hst⟩ := hr T hT X
  have hv : v = o.map Value.int := by injection hv
  subst hv
  rw [h0] at hz hk
  have hAA : ∀ q, va_A (w x) H.size q → A q := by
    intro q hq
    rcases hq with ⟨k, e, h⟩ | h
    · exact hD.2 k _ h
    · exact hA q (Nat.le_trans hS.1 h)
  obtain ⟨t2, a1, b1⟩ := kk T'.heap (locs ++ L) (by rw [e1]; exact hp)
    ⟨Nat.le_trans hS.1 (by rw [e1]; exact hz), fun q h1 h2 => by rw [e1, hk q (Nat.lt_of_lt_of_le h1 hS.1) (fun z => h2 (hAA q z))]; exact hS.2.1 q h1 h2, fun q hq => by
      rcases List.mem_append.mp hq with h | h
      · exact hS.2.2 q h
      · exact hAA _ (hL q h)⟩ T' rfl X'
  exact ⟨t2, hst t2 a1, b1⟩
section CALLS
variable {y : MethodName} {bytes : ByteArray} {maxL index n : Nat} {ret : Option FieldType} {rm : Room} {b : Nat} {As : List Value} {C : String}
theorem bq_callV {q0 ci : Nat} {fs : List Value} {T : u_T} {N : Nat} (S : CallFix p m c cc nL s args bq_L own) (hK : va_K D cl tys s) (hD : ∀ z, va_D A (w z)) (hA : ∀ q, s.heap.size ≤ q → A q) (hP : va_P D cl (w x) H) (hS : va_S A s.heap H locs)
    (hM : bq_M l D cl tys w y bytes maxL ret rm (.ref b :: As) x o x1) (hH : bq_H y bytes maxL ret n) (hlink : Cond.methodLink own index y ∈ bq_L) (hinst : Cond.instanceMethod y ∈ bq_L) (hsel : (Cond.selects C y y).before args s = true)
    (hrm : rm.cells = 0 ∧ rm.slots = 0) (hR : rm.frames + 1 ≤ R.frames ∧ 8 + (maxL + 11) + rm.locals ≤ R.locals) (he : (w x)[q0]? = some (b, .inr (ci, fs))) (hc : cl[ci]? = some (C, T, N)) (hn : As.length = n) (hsize : ls.size = nL) (hstack : st = As.reverse ++ .ref b :: rest) (hW : (rest.map fun v => v.category).sum ≤ 8) (hcs : cells ≤ R.cells ∧ slots ≤ R.slots) (hdg : decode cc pc = .ok (.invokevirtual index, 3))
    (kk : ∀ (H1 : Heap) (locs1 : List Loc), va_P D cl (w x1) H1 → va_S A s.heap H1 locs1 → W p l e R s m args below meth c H1 locs1 cells slots Q (F0 m (pc + 3) ls ((o.map Value.int).toList ++ rest))) : W p l e R s m args below meth c H locs cells slots Q (F0 m pc ls st) := by
  have hts := S.2.2.2.2
  refine bq_after (mc := 0) (va_runV (C := C) (b := b) (As := As) (n := n) S (hM H.size) ⟨callB_of n hts (bq_GI hH) rfl hrm.1 hrm.2 (hts _ hH.2.1) (hts _ hlink) hH.2.2 hR, hts _ hinst, hsel⟩ ⟨bq_blind, va_recv hK hP hc he, ?_⟩ rfl hn hsize hstack (lv_room hW) hdg hcs) (hD x) hA hS kk
  exact bq_pre (av := .ref b :: As) hts hK hP (hD x)
theorem bq_callS (S : CallFix p m c cc nL s args bq_L own) (hK : va_K D cl tys s) (hD : ∀ z, va_D A (w z)) (hA : ∀ q, s.heap.size ≤ q → A q) (hP : va_P D cl (w x) H) (hS : va_S A s.heap H locs)
    (hM : bq_M l D cl tys w y bytes maxL ret rm As x o x1) (hH : bq_H y bytes maxL ret n) (hlink : Cond.methodLink own index y ∈ bq_L) (hst : Cond.static y ∈ bq_L)
    (hrm : rm.cells = 0 ∧ rm.slots = 0) (hR : rm.frames + 1 ≤ R.frames ∧ 8 + (maxL + 11) + rm.locals ≤ R.locals) (hn : As.length = n) (hsize : ls.size = nL) (hstack : st = As.reverse ++ rest) (hW : (rest.map fun v => v.category).sum ≤ 8) (hcs : cells ≤ R.cells ∧ slots ≤ R.slots) (hdg : decode cc pc = .ok (.invokestatic index, 3))
    (kk : ∀ (H1 : Heap) (locs1 : List Loc), va_P D cl (w x1) H1 → va_S A s.heap H1 locs1 → W p l e R s m args below meth c H1 locs1 cells slots Q (F0 m (pc + 3) ls ((o.map Value.int).toList ++ rest))) : W p l e R s m args below meth c H locs cells slots Q (F0 m pc ls st) := by
  have hts := S.2.2.2.2
  refine bq_after (mc := 0) (va_runS (As := As) (n := n) S (hM H.size) ⟨callB_of n hts (bq_GI hH) rfl hrm.1 hrm.2 (hts _ hH.2.1) (hts _ hlink) hH.2.2 hR, hts _ hst⟩ ⟨bq_blind, ?_⟩ rfl hn hsize hstack (lv_room hW) hdg hcs) (hD x) hA hS kk
  exact bq_pre (av := As) hts hK hP (hD x)
theorem bq_callSN {host : String} (S : CallFix p m c cc nL s args bq_L own) (hK : va_K D cl tys s) (hD : ∀ z, va_D A (w z)) (hA : ∀ q, s.heap.size ≤ q → A q) (hP : va_P D cl (w x) H) (hS : va_S A s.heap H locs)
    (hM : bq_M l D cl tys w y bytes maxL ret rm As x o x1) (hH : bq_H y bytes maxL ret n) (hlink : Cond.methodLinkNest own index y host ∈ bq_L) (hst : Cond.static y ∈ bq_L)
    (hrm : rm.cells = 0 ∧ rm.slots = 0) (hR : rm.frames + 1 ≤ R.frames ∧ 8 + (maxL + 11) + rm.locals ≤ R.locals) (hn : As.length = n) (hsize : ls.size = nL) (hstack : st = As.reverse ++ rest) (hW : (rest.map fun v => v.category).sum ≤ 8) (hcs : cells ≤ R.cells ∧ slots ≤ R.slots) (hdg : decode cc pc = .ok (.invokestatic index, 3))
    (kk : ∀ (H1 : Heap) (locs1 : List Loc), va_P D cl (w x1) H1 → va_S A s.heap H1 locs1 → W p l e R s m args below meth c H1 locs1 cells slots Q (F0 m (pc + 3) ls ((o.map Value.int).toList ++ rest))) : W p l e R s m args below meth c H locs cells slots Q (F0 m pc ls st) := by
  have hts := S.2.2.2.2
  refine bq_after (mc := 0) (va_runSN (As := As) (n := n) S (hM H.size) ⟨va_cnB n hts (bq_GI hH) rfl hrm.1 hrm.2 (va_Nw.of rfl (hts _ hlink)) (hts _ hH.2.1) hH.2.2 hR, hts _ hst, trivial⟩ ⟨bq_blind, ?_⟩ rfl hn hsize hstack (lv_room hW) hdg hcs) (hD x) hA hS kk
  exact bq_pre (av := As) hts hK hP (hD x)
/-- an inherited, or overriding, method: linked as z, selected is y -/
theorem bq_callU {q0 ci : Nat} {fs : List Value} {T : u_T} {N : Nat} {owner : String} {z : MethodName} (S : CallFix p m c cc nL s args bq_L own) (hK : va_K D cl tys s) (hD : ∀ z, va_D A (w z)) (hA : ∀ q, s.heap.size ≤ q → A q) (hP : va_P D cl (w x) H) (hS : va_S A s.heap H locs)
    (hM : bq_M l D cl tys w y bytes maxL ret rm (.ref b :: As) x o x1) (hH : bq_H y bytes maxL ret n) (hlink : Cond.methodLink own index z ∈ bq_L) (hinst : Cond.instanceMethod y ∈ bq_L) (hsel : (Cond.selects C z y).before args s = true) (hsame : Cond.sameMethod z.cls owner z.name z.desc ∈ bq_L) (hdec : Cond.declares ⟨owner, z.name, z.desc⟩ ∈ bq_L) (hdz : owner ≠ "java/lang/invoke/MethodHandle" ∧ owner ≠ "java/lang/invoke/VarHandle" ∧ z.desc = y.desc)
    (hrm : rm.cells = 0 ∧ rm.slots = 0) (hR : rm.frames + 1 ≤ R.frames ∧ 8 + (maxL + 11) + rm.locals ≤ R.locals) (he : (w x)[q0]? = some (b, .inr (ci, fs))) (hc : cl[ci]? = some (C, T, N)) (hn : As.length = n) (hsize : ls.size = nL) (hstack : st = As.reverse ++ .ref b :: rest) (hW : (rest.map fun v => v.category).sum ≤ 8) (hcs : cells ≤ R.cells ∧ slots ≤ R.slots) (hdg : decode cc pc = .ok (.invokevirtual index, 3))
    (kk : ∀ (H1 : Heap) (locs1 : List Loc), va_P D cl (w x1) H1 → va_S A s.heap H1 locs1 → W p l e R s m args below meth c H1 locs1 cells slots Q (F0 m (pc + 3) ls ((o.map Value.int).toList ++ rest))) : W p l e R s m args below meth c H locs cells slots Q (F0 m pc ls st) := by
  have hts := S.2.2.2.2
  have hG := bq_GI hH
  refine bq_after (mc := 0) (va_runU (C := C) (b := b) (As := As) (n := n) (x := z) (owner := owner) S (hM H.size) ⟨⟨hrm.1, hrm.2, hR.1, hR.2, pay_in hts hG, List.mem_cons_self⟩, hts _ (bq_T_good _ hH.1).1, hts _ hH.2.1, ⟨hdz.1, hdz.2.1⟩, fun sig h => ?_, hts _ hlink, hts _ hsame, va_Decl.abs (va_Nw.of rfl (hts _ hdec)), hsel, hts _ hinst⟩ ⟨bq_blind, va_recv hK hP hc he, ?_⟩ rfl hn hsize hstack (lv_room hW) hdg hcs) (hD x) hA hS kk
  · have h2 := hH.2.2.2.2
    rw [← hdz.2.2, h] at h2
    exact (Option.some.inj h2).symm
  · exact bq_pre (av := .ref b :: As) hts hK hP (hD x)
theorem bq_callVi {r0 : Int32} {q0 ci : Nat} {fs : List Value} {T : u_T} {N : Nat} (S : CallFix p m c cc nL s args bq_L own) (hK : va_K D cl tys s) (hD : ∀ z, va_D A (w z)) (hA : ∀ q, s.heap.size ≤ q → A q) (hP : va_P D cl (w x) H) (hS : va_S A s.heap H locs)
    (hM : bq_M l D cl tys w y bytes maxL ret rm (.ref b :: As) x (some r0) x1) (hH : bq_H y bytes maxL ret n) (hlink : Cond.methodLink own index y ∈ bq_L) (hinst : Cond.instanceMethod y ∈ bq_L) (hsel : (Cond.selects C y y).before args s = true)
    (hrm : rm.cells = 0 ∧ rm.slots = 0) (hR : rm.frames + 1 ≤ R.frames ∧ 8 + (maxL + 11) + rm.locals ≤ R.locals) (he : (w x)[q0]? = some (b, .inr (ci, fs))) (hc : cl[ci]? = some (C, T, N)) (hn : As.length = n) (hsize : ls.size = nL) (hstack : st = As.reverse ++ .ref b :: rest) (hW : (rest.map fun v => v.category).sum ≤ 8) (hcs : cells ≤ R.cells ∧ slots ≤ R.slots) (hdg : decode cc pc = .ok (.invokevirtual index, 3))
    (kk : ∀ (H1 : Heap) (locs1 : List Loc), va_P D cl (w x1) H1 → va_S A s.heap H1 locs1 → W p l e R s m args below meth c H1 locs1 cells slots Q (F0 m (pc + 3) ls (.int r0 :: rest))) : W p l e R s m args below meth c H locs cells slots Q (F0 m pc ls st) :=
  bq_callV S hK hD hA hP hS hM hH hlink hinst hsel hrm hR he hc hn hsize hstack hW hcs hdg kk
theorem bq_callVv {q0 ci : Nat} {fs : List Value} {T : u_T} {N : Nat} (S : CallFix p m c cc nL s args bq_L own) (hK : va_K D cl tys s) (hD : ∀ z, va_D A (w z)) (hA : ∀ q, s.heap.size ≤ q → A q) (hP : va_P D cl (w x) H) (hS : va_S A s.heap H locs)
    (hM : bq_M l D cl tys w y bytes maxL ret rm (.ref b :: As) x none x1) (hH : bq_H y bytes maxL ret n) (hlink : Cond.methodLink own index y ∈ bq_L) (hinst : Cond.instanceMethod y ∈ bq_L) (hsel : (Cond.selects C y y).before args s = true)
    (hrm : rm.cells = 0 ∧ rm.slots = 0) (hR : rm.frames + 1 ≤ R.frames ∧ 8 + (maxL + 11) + rm.locals ≤ R.locals) (he : (w x)[q0]? = some (b, .inr (ci, fs))) (hc : cl[ci]? = some (C, T, N)) (hn : As.length = n) (hsize : ls.size = nL) (hstack : st = As.reverse ++ .ref b :: rest) (hW : (rest.map fun v => v.category).sum ≤ 8) (hcs : cells ≤ R.cells ∧ slots ≤ R.slots) (hdg : decode cc pc = .ok (.invokevirtual index, 3))
    (kk : ∀ (H1 : Heap) (locs1 : List Loc), va_P D cl (w x1) H1 → va_S A s.heap H1 locs1 → W p l e R s m args below meth c H1 locs1 cells slots Q (F0 m (pc + 3) ls rest)) : W p l e R s m args below meth c H locs cells slots Q (F0 m pc ls st) :=
  bq_callV S hK hD hA hP hS hM hH hlink hinst hsel hrm hR he hc hn hsize hstack hW hcs hdg kk
theorem bq_callSi {r0 : Int32} (S : CallFix p m c cc nL s args bq_L own) (hK : va_K D cl tys s) (hD : ∀ z, va_D A (w z)) (hA : ∀ q, s.heap.size ≤ q → A q) (hP : va_P D cl (w x) H) (hS : va_S A s.heap H locs)
    (hM : bq_M l D cl tys w y bytes maxL ret rm As x (some r0) x1) (hH : bq_H y bytes maxL ret n) (hlink : Cond.methodLink own index y ∈ bq_L) (hst : Cond.static y ∈ bq_L)
    (hrm : rm.cells = 0 ∧ rm.slots = 0) (hR : rm.frames + 1 ≤ R.frames ∧ 8 + (maxL + 11) + rm.locals ≤ R.locals) (hn : As.length = n) (hsize : ls.size = nL) (hstack : st = As.reverse ++ rest) (hW : (rest.map fun v => v.category).sum ≤ 8) (hcs : cells ≤ R.cells ∧ slots ≤ R.slots) (hdg : decode cc pc = .ok (.invokestatic index, 3))
    (kk : ∀ (H1 : Heap) (locs1 : List Loc), va_P D cl (w x1) H1 → va_S A s.heap H1 locs1 → W p l e R s m args below meth c H1 locs1 cells slots Q (F0 m (pc + 3) ls (.int r0 :: rest))) : W p l e R s m args below meth c H locs cells slots Q (F0 m pc ls st) :=
  bq_callS S hK hD hA hP hS hM hH hlink hst hrm hR hn hsize hstack hW hcs hdg kk
theorem bq_callSv (S : CallFix p m c cc nL s args bq_L own) (hK : va_K D cl tys s) (hD : ∀ z, va_D A (w z)) (hA : ∀ q, s.heap.size ≤ q → A q) (hP : va_P D cl (w x) H) (hS : va_S A s.heap H locs)
    (hM : bq_M l D cl tys w y bytes maxL ret rm As x none x1) (hH : bq_H y bytes maxL ret n) (hlink : Cond.methodLink own index y ∈ bq_L) (hst : Cond.static y ∈ bq_L)
    (hrm : rm.cells = 0 ∧ rm.slots = 0) (hR : rm.frames + 1 ≤ R.frames ∧ 8 + (maxL + 11) + rm.locals ≤ R.locals) (hn : As.length = n) (hsize : ls.size = nL) (hstack : st = As.reverse ++ rest) (hW : (rest.map fun v => v.category).sum ≤ 8) (hcs : cells ≤ R.cells ∧ slots ≤ R.slots) (hdg : decode cc pc = .ok (.invokestatic index, 3))
    (kk : ∀ (H1 : Heap) (locs1 : List Loc), va_P D cl (w x1) H1 → va_S A s.heap H1 locs1 → W p l e R s m args below meth c H1 locs1 cells slots Q (F0 m (pc + 3) ls rest)) : W p l e R s m args below meth c H locs cells slots Q (F0 m pc ls st) :=
  bq_callS S hK hD hA hP hS hM hH hlink hst hrm hR hn hsize hstack hW hcs hdg kk
theorem bq_callSNi {r0 : Int32} {host : String} (S : CallFix p m c cc nL s args bq_L own) (hK : va_K D cl tys s) (hD : ∀ z, va_D A (w z)) (hA : ∀ q, s.heap.size ≤ q → A q) (hP : va_P D cl (w x) H) (hS : va_S A s.heap H locs)
    (hM : bq_M l D cl tys w y bytes maxL ret rm As x (some r0) x1) (hH : bq_H y bytes maxL ret n) (hlink : Cond.methodLinkNest own index y host ∈ bq_L) (hst : Cond.static y ∈ bq_L)
    (hrm : rm.cells = 0 ∧ rm.slots = 0) (hR : rm.frames + 1 ≤ R.frames ∧ 8 + (maxL + 11) + rm.locals ≤ R.locals) (hn : As.length = n) (hsize : ls.size = nL) (hstack : st = As.reverse ++ rest) (hW : (rest.map fun v => v.category).sum ≤ 8) (hcs : cells ≤ R.cells ∧ slots ≤ R.slots) (hdg : decode cc pc = .ok (.invokestatic index, 3))
    (kk : ∀ (H1 : Heap) (locs1 : List Loc), va_P D cl (w x1) H1 → va_S A s.heap H1 locs1 → W p l e R s m args below meth c H1 locs1 cells slots Q (F0 m (pc + 3) ls (.int r0 :: rest))) : W p l e R s m args below meth c H locs cells slots Q (F0 m pc ls st) :=
  bq_callSN S hK hD hA hP hS hM hH hlink hst hrm hR hn hsize hstack hW hcs hdg kk
theorem bq_callSNv {host : String} (S : CallFix p m c cc nL s args bq_L own) (hK : va_K D cl tys s) (hD : ∀ z, va_D A (w z)) (hA : ∀ q, s.heap.size ≤ q → A q) (hP : va_P D cl (w x) H) (hS : va_S A s.heap H locs)
    (hM : bq_M l D cl tys w y bytes maxL ret rm As x none x1) (hH : bq_H y bytes maxL ret n) (hlink : Cond.methodLinkNest own index y host ∈ bq_L) (hst : Cond.static y ∈ bq_L)
    (hrm : rm.cells = 0 ∧ rm.slots = 0) (hR : rm.frames + 1 ≤ R.frames ∧ 8 + (maxL + 11) + rm.locals ≤ R.locals) (hn : As.length = n) (hsize : ls.size = nL) (hstack : st = As.reverse ++ rest) (hW : (rest.map fun v => v.category).sum ≤ 8) (hcs : cells ≤ R.cells ∧ slots ≤ R.slots) (hdg : decode cc pc = .ok (.invokestatic index, 3))
    (kk : ∀ (H1 : Heap) (locs1 : List Loc), va_P D cl (w x1) H1 → va_S A s.heap H1 locs1 → W p l e R s m args below meth c H1 locs1 cells slots Q (F0 m (pc + 3) ls rest)) : W p l e R s m args below meth c H locs cells slots Q (F0 m pc ls st) :=
  bq_callSN S hK hD hA hP hS hM hH hlink hst hrm hR hn hsize hstack hW hcs hdg kk
theorem bq_callUi {r0 : Int32} {q0 ci : Nat} {fs : List Value} {T : u_T} {N : Nat} {owner : String} {z : MethodName} (S : CallFix p m c cc nL s args bq_L own) (hK : va_K D cl tys s) (hD : ∀ z, va_D A (w z)) (hA : ∀ q, s.heap.size ≤ q → A q) (hP : va_P D cl (w x) H) (hS : va_S A s.heap H locs)
    (hM : bq_M l D cl tys w y bytes maxL ret rm (.ref b :: As) x (some r0) x1) (hH : bq_H y bytes maxL ret n) (hlink : Cond.methodLink own index z ∈ bq_L) (hinst : Cond.instanceMethod y ∈ bq_L) (hsel : (Cond.selects C z y).before args s = true) (hsame : Cond.sameMethod z.cls owner z.name z.desc ∈ bq_L) (hdec : Cond.declares ⟨owner, z.name, z.desc⟩ ∈ bq_L) (hdz : owner ≠ "java/lang/invoke/MethodHandle" ∧ owner ≠ "java/lang/invoke/VarHandle" ∧ z.desc = y.desc)
    (hrm : rm.cells = 0 ∧ rm.slots = 0) (hR : rm.frames + 1 ≤ R.frames ∧ 8 + (maxL + 11) + rm.locals ≤ R.locals) (he : (w x)[q0]? = some (b, .inr (ci, fs))) (hc : cl[ci]? = some (C, T, N)) (hn : As.length = n) (hsize : ls.size = nL) (hstack : st = As.reverse ++ .ref b :: rest) (hW : (rest.map fun v => v.category).sum ≤ 8) (hcs : cells ≤ R.cells ∧ slots ≤ R.slots) (hdg : decode cc pc = .ok (.invokevirtual index, 3))
    (kk : ∀ (H1 : Heap) (locs1 : List Loc), va_P D cl (w x1) H1 → va_S A s.heap H1 locs1 → W p l e R s m args below meth c H1 locs1 cells slots Q (F0 m (pc + 3) ls (.int r0 :: rest))) : W p l e R s m args below meth c H locs cells slots Q (F0 m pc ls st) :=
  bq_callU S hK hD hA hP hS hM hH hlink hinst hsel hsame hdec hdz hrm hR he hc hn hsize hstack hW hcs hdg kk
theorem bq_callUv {q0 ci : Nat} {fs : List Value} {T : u_T} {N : Nat} {owner : String} {z : MethodName} (S : CallFix p m c cc nL s args bq_L own) (hK : va_K D cl tys s) (hD : ∀ z, va_D A (w z)) (hA : ∀ q, s.heap.size ≤ q → A q) (hP : va_P D cl (w x) H) (hS : va_S A s.heap H locs)
    (hM : bq_M l D cl tys w y bytes maxL ret rm (.ref b :: As) x none x1) (hH : bq_H y bytes maxL ret n) (hlink : Cond.methodLink own index z ∈ bq_L) (hinst : Cond.instanceMethod y ∈ bq_L) (hsel : (Cond.selects C z y).before args s = true) (hsame : Cond.sameMethod z.cls owner z.name z.desc ∈ bq_L) (hdec : Cond.declares ⟨owner, z.name, z.desc⟩ ∈ bq_L) (hdz : owner ≠ "java/lang/invoke/MethodHandle" ∧ owner ≠ "java/lang/invoke/VarHandle" ∧ z.desc = y.desc)
    (hrm : rm.cells = 0 ∧ rm.slots = 0) (hR : rm.frames + 1 ≤ R.frames ∧ 8 + (maxL + 11) + rm.locals ≤ R.locals) (he : (w x)[q0]? = some (b, .inr (ci, fs))) (hc : cl[ci]? = some (C, T, N)) (hn : As.length = n) (hsize : ls.size = nL) (hstack : st = As.reverse ++ .ref b :: rest) (hW : (rest.map fun v => v.category).sum ≤ 8) (hcs : cells ≤ R.cells ∧ slots ≤ R.slots) (hdg : decode cc pc = .ok (.invokevirtual index, 3))
    (kk : ∀ (H1 : Heap) (locs1 : List Loc), va_P D cl (w x1) H1 → va_S A s.heap H1 locs1 → W p l e R s m args below meth c H1 locs1 cells slots Q (F0 m (pc + 3) ls rest)) : W p l e R s m args below meth c H locs cells slots Q (F0 m pc ls st) :=
  bq_callU S hK hD hA hP hS hM hH hlink hinst hsel hsame hdec hdz hrm hR he hc hn hsize hstack hW hcs hdg kk
end CALLS
/-- a field's link -/
def bq_FL (own : String) (index : Nat) (C : String) (T : u_T) (N k : Nat) : Prop := (∀ w ∈ u_ws C T N, w ∈ bq_L) ∧ k < N ∧ ∃ ref, Cond.fieldLink own index ref (T k).2.1 (T k).2.2.1 ∈ bq_L ∧ (ref = (T k).1 ∨ Cond.sameField ref (T k).1 (T k).2.1 (T k).2.2.1 ∈ bq_L)
theorem bq_get {index : Nat} {C : String} {T : u_T} {N k ci q0 : Nat} {ws : va_W} {fs : List Value} {v : Value} (S : CallFix p m c cc nL s args bq_L own) (hK : va_K D cl tys s) (hP : va_P D cl ws H) (F : bq_FL own index C T N k) (he : ws[q0]? = some (a, .inr (ci, fs))) (hc : cl[ci]? = some (C, T, N)) (hv : fs[k]? = some v) (hdg : decode cc pc = .ok (.getfield index, 3))
    (kk : W p l e R s m args below meth c H locs cells slots Q (F0 m (pc + 3) ls (v :: rest))) : W p l e R s m args below meth c H locs cells slots Q (F0 m pc ls (.ref a :: rest)) := by
  obtain ⟨hx, hb, hml, hown, hts⟩ := S
  obtain ⟨hin, hk, ref, hl, hs⟩ := F
  refine va_get (v := v) hx hb hts hin hown hK hP q0 he hc k hk (hts _ hl) ?_ hv hdg kk
  rcases hs with rfl | hs
  · exact fun _ h => h
  · exact fun z h => u_same (hts _ hs) z h
/-- a class's fields apart, and of their types -/
def bq_TY (T : u_T) (N : Nat) : Prop := (∃ ty0 : Nat → FieldType, ∀ k, k < N → parseFieldDescriptor (T k).2.2.1 = some (ty0 k)) ∧ ∀ a, a < N → ∀ b, b < N → a ≠ b → (T a).2.1 ≠ (T b).2.1
theorem bq_put {index : Nat} {C : String} {T : u_T} {N k ci q0 : Nat} {fs : List Value} {v : Value} {ty : FieldType} (S : CallFix p m c cc nL s args bq_L own) (hK : va_K D cl tys s) (hD : ∀ z, va_D A (w z)) (hP : va_P D cl (w x) H) (hS : va_S A s.heap H locs) (F : bq_FL own index C T N k) (Y : bq_TY T N) (hfin : (T k).2.2.2 = false) (hd : parseFieldDescriptor (T k).2.2.1 = some ty) (he : (w x)[q0]? = some (a, .inr (ci, fs))) (hc : cl[ci]? = some (C, T, N)) (hl : k < fs.length) (hn : narrow ty v = v) (hfit : fits ty v = true)
    (hw : (w x).set q0 (a, .inr (ci, fs.set k v)) = w x1) (hdg : decode cc pc = .ok (.putfield index, 3))
    (kk : ∀ (H1 : Heap) (locs1 : List Loc), va_P D cl (w x1) H1 → va_S A s.heap H1 locs1 → W p l e R s m args below meth c H1 locs1 cells slots Q (F0 m (pc + 3) ls rest)) : W p l e R s m args below meth c H locs cells slots Q (F0 m pc ls (v :: .ref a :: rest)) := by
  obtain ⟨hx, hb, hml, hown, hts⟩ := S
  obtain ⟨hin, hk, ref, hl1, hs⟩ := F
  obtain ⟨⟨ty0, h0⟩, hnm⟩ := Y
  refine va_put (ty := ty) hx hb hts hin ty0 h0 hnm hown hK hP (hD x) hS q0 he hc k hk (hts _ hl1) ?_ hfin hd hn hfit hl hdg (fun H1 locs1 hP1 _ hS1 => kk H1 locs1 (by rw [← hw]; exact hP1) hS1)
  rcases hs with rfl | hs
  · exact fun _ h => h
  · exact fun z h => u_same (hts _ hs) z h
theorem bq_iast {q0 t0 n : Nat} {cA : ClassId} {f : Nat → Int32} {i v : Int32} (S : CallFix p m c cc nL s args bq_L own) (hK : va_K D cl tys s) (hD : ∀ z, va_D A (w z)) (hP : va_P D cl (w x) H) (hS : va_S A s.heap H locs) (ha : (w x)[q0]? = some (a, .inl (cA, n, .inl f))) (ht : tys[t0]? = some (cA, .int)) (hin : vp_in i n) (hw : (w x).set q0 (a, .inl (cA, n, .inl (upd f i.toNatClampNeg v))) = w x1) (hdg : decode cc pc = .ok (.iastore, 1))
    (kk : ∀ (H1 : Heap) (locs1 : List Loc), va_P D cl (w x1) H1 → va_S A s.heap H1 locs1 → W p l e R s m args below meth c H1 locs1 cells slots Q (F0 m (pc + 1) ls rest)) : W p l e R s m args below meth c H locs cells slots Q (F0 m pc ls (.int v :: .int i :: .ref a :: rest)) :=
  va_iast S.1 S.2.1 hK hP (hD x) hS q0 t0 ha ht hin hdg (fun H1 locs1 hP1 _ hS1 => kk H1 locs1 (by rw [← hw]; exact hP1) hS1)
theorem bq_bast {q0 t0 n : Nat} {cA : ClassId} {f : Nat → Int32} {i v : Int32} (S : CallFix p m c cc nL s args bq_L own) (hK : va_K D cl tys s) (hD : ∀ z, va_D A (w z)) (hP : va_P D cl (w x) H) (hS : va_S A s.heap H locs) (ha : (w x)[q0]? = some (a, .inl (cA, n, .inl f))) (ht : tys[t0]? = some (cA, .byte)) (hin : vp_in i n) (hw : (w x).set q0 (a, .inl (cA, n, .inl (upd f i.toNatClampNeg (vp_nar .byte v)))) = w x1) (hdg : decode cc pc = .ok (.bastore, 1))
    (kk : ∀ (H1 : Heap) (locs1 : List Loc), va_P D cl (w x1) H1 → va_S A s.heap H1 locs1 → W p l e R s m args below meth c H1 locs1 cells slots Q (F0 m (pc + 1) ls rest)) : W p l e R s m args below meth c H locs cells slots Q (F0 m pc ls (.int v :: .int i :: .ref a :: rest)) :=
  va_bast S.1 S.2.1 hK hP (hD x) hS q0 t0 ha ht hin hdg (fun H1 locs1 hP1 _ hS1 => kk H1 locs1 (by rw [← hw]; exact hP1) hS1)
theorem bq_last {q0 t0 n : Nat} {cA : ClassId} {f : Nat → Int64} {i : Int32} {v : Int64} (S : CallFix p m c cc nL s args bq_L own) (hK : va_K D cl tys s) (hD : ∀ z, va_D A (w z)) (hP : va_P D cl (w x) H) (hS : va_S A s.heap H locs) (ha : (w x)[q0]? = some (a, .inl (cA, n, .inr (.inl f)))) (ht : tys[t0]? = some (cA, .long)) (hin : vp_in i n) (hw : (w x).set q0 (a, .inl (cA, n, .inr (.inl (vp_updL f i.toNatClampNeg v)))) = w x1) (hdg : decode cc pc = .ok (.lastore, 1))
    (kk : ∀ (H1 : Heap) (locs1 : List Loc), va_P D cl (w x1) H1 → va_S A s.heap H1 locs1 → W p l e R s m args below meth c H1 locs1 cells slots Q (F0 m (pc + 1) ls rest)) : W p l e R s m args below meth c H locs cells slots Q (F0 m pc ls (.long v :: .int i :: .ref a :: rest)) :=
  va_last S.1 S.2.1 hK hP (hD x) hS q0 t0 ha ht hin hdg (fun H1 locs1 hP1 _ hS1 => kk H1 locs1 (by rw [← hw]; exact hP1) hS1)
end BQ
/-- the return rule that a body is given -/
def bq_R (p : Program) (l : Launch) (e : Env) (R : Room) (s : State) (m : MethodId) (args : Array Value) (below : List Frame) (meth : Method) (c : Code) (cc : ByteArray) (ty : FieldType) (D : va_G) (cl : List vw_C) (w1 : va_W) (A : Nat → Prop) (o : Option Int32) (Q : State → Prop) : Prop :=
  ∀ (H : Heap) (locs : List Loc) (pc : Nat) (ls : Array Slot) (v : Int32), o = some v → narrow ty (.int v) = .int v → va_P D cl w1 H → va_S A s.heap H locs → decode cc pc = .ok (.ireturn, 1) → W p l e R s m args below meth c H locs 0 0 Q (F0 m pc ls [.int v])
def bq_Rv (p : Program) (l : Launch) (e : Env) (R : Room) (s : State) (m : MethodId) (args : Array Value) (below : List Frame) (meth : Method) (c : Code) (cc : ByteArray) (D : va_G) (cl : List vw_C) (w1 : va_W) (A : Nat → Prop) (o : Option Int32) (Q : State → Prop) : Prop :=
  ∀ (H : Heap) (locs : List Loc) (pc : Nat) (ls : Array Slot), o = none → va_P D cl w1 H → va_S A s.heap H locs → decode cc pc = .ok (.return_, 1) → W p l e R s m args below meth c H locs 0 0 Q (F0 m pc ls [])
theorem bq_ofW {l : Launch} {D : va_G} {cl : List vw_C} {tys : List (ClassId × FieldType)} {w : bq_S → va_W} {y : MethodName} {cc : ByteArray} {maxL : Nat} {ty : FieldType} {rm : Room} {av : List Value} {x : bq_S} {o : Option Int32} {x1 : bq_S} (own : String) (lv : List (Nat × Value)) (hy : plainName y.cls = true) (hown : y.cls = own) (hlen : (lg_sl av).length ≤ maxL) (hlv : lv_args 0 av = lv) (had : bq_Ad w)
    (body : ∀ (p : Program) (e : Env) (s : State) (m : MethodId) (below : List Frame) (meth : Method) (c : Code) (A : Nat → Prop) (Q : State → Prop) (ls : Array Slot), CallFix p m c cc maxL s av.toArray bq_L own → va_K D cl tys s → (∀ z, va_D A (w z)) → (∀ q, s.heap.size ≤ q → A q) → bq_R p l e rm s m av.toArray below meth c cc ty D cl (w x1) A o Q → va_S A s.heap s.heap [] → va_P D cl (w x) s.heap → lv_has ls maxL lv → W p l e rm s m av.toArray below meth c s.heap [] 0 0 Q (F0 m 0 ls [])) : bq_M l D cl tys w y cc maxL (some ty) rm av x o x1 := by
  intro sz
  refine Met.ofW (cc := cc) (maxL := maxL) (ret := some ty) hy rfl ?_
  intro p e s m args below meth c s₁ B hml hv
  obtain ⟨rfl, hsz, hP, hK, hD0, hN⟩ := hv
  subst hsz
  subst hlv
  have hr := B.returns
  have hlocks := B.notSynchronized
  have hts0 := atoms_spec (ws := .code y cc maxL (some ty) :: bq_T) B.pre
  have hts : ∀ z ∈ bq_L, z.before av.toArray s = true := fun z hz => by
    rcases bq_split hz with h | h
    · exact hts0 z (List.mem_cons_of_mem _ h)
    · exact (hN z h).use (bq_N_on h)
  have hl := lv_entry av (n := maxL) hlen
  rw [lg_entry_eq]
  exact body p e s m below meth c (va_A (w x) s.heap.size) _ _ ⟨B.exec, B.bytes, hml, by rw [← hown]; exact findClass_of_methodNamed B.named, hts⟩ hK (fun z => had.D (hD0.self (sz := s.heap.size)) z) (fun q h => Or.inr h)
    (fun H locs pc ls v ho hn hP1 hS hd => W.zret B.exec B.bytes hr hn (fun t ht hW => ⟨⟨by rw [ho]; rfl, by rw [ht]; exact hP1⟩, hS.F ht⟩) hS.2.2 hd) va_S.rf hP hl
theorem bq_ofWv {l : Launch} {D : va_G} {cl : List vw_C} {tys : List (ClassId × FieldType)} {w : bq_S → va_W} {y : MethodName} {cc : ByteArray} {maxL : Nat} {rm : Room} {av : List Value} {x : bq_S} {o : Option Int32} {x1 : bq_S} (own : String) (lv : List (Nat × Value)) (hy : plainName y.cls = true) (hown : y.cls = own) (hlen : (lg_sl av).length ≤ maxL) (hlv : lv_args 0 av = lv) (had : bq_Ad w)
    (body : ∀ (p : Program) (e : Env) (s : State) (m : MethodId) (below : List Frame) (meth : Method) (c : Code) (A : Nat → Prop) (Q : State → Prop) (ls : Array Slot), CallFix p m c cc maxL s av.toArray bq_L own → va_K D cl tys s → (∀ z, va_D A (w z)) → (∀ q, s.heap.size ≤ q → A q) → bq_Rv p l e rm s m av.toArray below meth c cc D cl (w x1) A o Q → va_S A s.heap s.heap [] → va_P D cl (w x) s.heap → lv_has ls maxL lv → W p l e rm s m av.toArray below meth c s.heap [] 0 0 Q (F0 m 0 ls [])) : bq_M l D cl tys w y cc maxL none rm av x o x1 := by
  intro sz
  refine Met.ofW (cc := cc) (maxL := maxL) (ret := none) hy rfl ?_
  intro p e s m args below meth c s₁ B hml hv
  obtain ⟨rfl, hsz, hP, hK, hD0, hN⟩ := hv
  subst hsz
  subst hlv
  have hr := B.returns
  have hlocks := B.notSynchronized
  have hts0 := atoms_spec (ws := .code y cc maxL none :: bq_T) B.pre
  have hts : ∀ z ∈ bq_L, z.before av.toArray s = true := fun z hz => by
    rcases bq_split hz with h | h
    · exact hts0 z (List.mem_cons_of_mem _ h)
    · exact (hN z h).use (bq_N_on h)
  have hl := lv_entry av (n := maxL) hlen
  rw [lg_entry_eq]
  exact body p e s m below meth c (va_A (w x) s.heap.size) _ _ ⟨B.exec, B.bytes, hml, by rw [← hown]; exact findClass_of_methodNamed B.named, hts⟩ hK (fun z => had.D (hD0.self (sz := s.heap.size)) z) (fun q h => Or.inr h)
    (fun H locs pc ls ho hP1 hS hd => W.vret B.exec B.bytes hr (fun t ht hW => ⟨⟨by rw [ho]; rfl, by rw [ht]; exact hP1⟩, hS.F ht⟩) hS.2.2 hd) va_S.rf hP hl
