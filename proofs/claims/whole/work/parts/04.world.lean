/-! ===== the two worlds ===== -/
abbrev bq_cl : List vw_C := [(RX0, TX0, 9), (RX1, TX1, 1), (RX2, TX2, 6), (RX3, TX3, 7), (RX4, TX4, 9), (RX5, TX5, 7), (RX6, TX6, 3), (RX7, TX7, 4), (RX9, TX9, 12), (RX10, TX10, 26)]
abbrev bq_ty (k : Nat → ClassId) : List (ClassId × FieldType) := [(k 0, .int), (k 1, .long), (k 2, .byte), (k 3, .object "BesideQuotes$Sheet")]
def bq_sh (a : Nat → Nat) : Nat → Option Nat := va_up (va_up (va_up (va_up (fun _ => none) 0 (some (a 34))) 1 (some (a 36))) 2 (some (a 38))) 3 (some (a 40))
def bq_wC (a : Nat → Nat) (k : Nat → ClassId) (x : bq_S) : va_W :=
  [(a 0, .inr (8, [.ref (a 1), .ref (a 8), .ref (a 15), .ref (a 22), .ref (a 26), .ref (a 27), .ref (a 28), .ref (a 29), .ref (a 32), .ref (a 33), .ref (a 42), .int (x.1 0 11)])),
   (a 1, .inr (4, [.int (x.1 1 0), .int (x.1 1 1), .int (x.1 1 2), .ref (a 2), .ref (a 3), .ref (a 4), .ref (a 5), .ref (a 6), .ref (a 7)])),
   (a 2, .inl (k 0, 8, .inl (x.1 2))),
   (a 3, .inl (k 0, 8, .inl (x.1 3))),
   (a 4, .inl (k 0, 8, .inl (x.1 4))),
   (a 5, .inl (k 0, 2, .inl (x.1 5))),
   (a 6, .inl (k 0, 8, .inl (x.1 6))),
   (a 7, .inl (k 0, 8, .inl (x.1 7))),
   (a 8, .inr (4, [.int (x.1 8 0), .int (x.1 8 1), .int (x.1 8 2), .ref (a 9), .ref (a 10), .ref (a 11), .ref (a 12), .ref (a 13), .ref (a 14)])),
   (a 9, .inl (k 0, 8, .inl (x.1 9))),
   (a 10, .inl (k 0, 8, .inl (x.1 10))),
   (a 11, .inl (k 0, 8, .inl (x.1 11))),
   (a 12, .inl (k 0, 2, .inl (x.1 12))),
   (a 13, .inl (k 0, 8, .inl (x.1 13))),
   (a 14, .inl (k 0, 8, .inl (x.1 14))),
   (a 15, .inr (4, [.int (x.1 15 0), .int (x.1 15 1), .int (x.1 15 2), .ref (a 16), .ref (a 17), .ref (a 18), .ref (a 19), .ref (a 20), .ref (a 21)])),
   (a 16, .inl (k 0, 8, .inl (x.1 16))),
   (a 17, .inl (k 0, 8, .inl (x.1 17))),
   (a 18, .inl (k 0, 8, .inl (x.1 18))),
   (a 19, .inl (k 0, 2, .inl (x.1 19))),
   (a 20, .inl (k 0, 8, .inl (x.1 20))),
   (a 21, .inl (k 0, 8, .inl (x.1 21))),
   (a 22, .inr (7, [.ref (a 23), .ref (a 24), .int (x.1 22 2), .int (x.1 22 3)])),
   (a 23, .inl (k 2, 60, .inl (x.1 23))),
   (a 24, .inl (k 0, 8, .inl (x.1 24))),
   (a 25, .inl (k 0, 2048, .inl (x.1 25))),
   (a 26, .inr (0, [.ref (a 1), .ref (a 25), .int (x.1 26 2), .int (x.1 26 3), .int (x.1 26 4), .int (x.1 26 5), .int (x.1 26 6), .int (x.1 26 7), .int (x.1 26 8)])),
   (a 27, .inr (2, [.ref (a 1), .ref (a 25), .int (x.1 27 2), .int (x.1 27 3), .int (x.1 27 4), .int (x.1 27 5)])),
   (a 28, .inr (3, [.ref (a 1), .ref (a 25), .int (x.1 28 2), .int (x.1 28 3), .int (x.1 28 4), .int (x.1 28 5), .int (x.1 28 6)])),
   (a 29, .inr (5, [.ref (a 30), .ref (a 1), .ref (a 31), .int (x.1 29 3), .int (x.1 29 4), .int (x.1 29 5), .int (x.1 29 6)])),
   (a 30, .inl (k 0, 8, .inl (x.1 30))),
   (a 31, .inl (k 0, 8, .inl (x.1 31))),
   (a 32, .inr (1, [.ref (a 1)])),
   (a 33, .inl (k 3, 4, .inr (.inr (.inr (.inr (bq_sh a)))))),
   (a 34, .inr (6, [.ref (a 35), .int (x.1 34 1), .int (x.1 34 2)])),
   (a 35, .inl (k 1, 16, .inr (.inl (x.2 35)))),
   (a 36, .inr (6, [.ref (a 37), .int (x.1 36 1), .int (x.1 36 2)])),
   (a 37, .inl (k 1, 16, .inr (.inl (x.2 37)))),
   (a 38, .inr (6, [.ref (a 39), .int (x.1 38 1), .int (x.1 38 2)])),
   (a 39, .inl (k 1, 16, .inr (.inl (x.2 39)))),
   (a 40, .inr (6, [.ref (a 41), .int (x.1 40 1), .int (x.1 40 2)])),
   (a 41, .inl (k 1, 16, .inr (.inl (x.2 41)))),
   (a 42, .inl (k 0, 8, .inl (x.1 42)))]
def bq_wM (a : Nat → Nat) (k : Nat → ClassId) (x : bq_S) : va_W :=
  [(a 0, .inr (9, [.int (x.1 0 0), .ref (a 1), .ref (a 2), .ref (a 3), .int (x.1 0 4), .ref (a 4), .int (x.1 0 6), .ref (a 5), .ref (a 6), .int (x.1 0 9), .int (x.1 0 10), .int (x.1 0 11), .ref (a 7), .ref (a 8), .int (x.1 0 14), .ref (a 9), .ref (a 10), .int (x.1 0 17), .ref (a 11), .ref (a 12), .ref (a 13), .int (x.1 0 21), .ref (a 14), .ref (a 15), .ref (a 16), .ref (a 17)])),
   (a 1, .inl (k 0, 8, .inl (x.1 1))),
   (a 2, .inl (k 0, 8, .inl (x.1 2))),
   (a 3, .inl (k 0, 8, .inl (x.1 3))),
   (a 4, .inl (k 0, 2, .inl (x.1 4))),
   (a 5, .inl (k 0, 8, .inl (x.1 5))),
   (a 6, .inl (k 0, 60, .inl (x.1 6))),
   (a 7, .inl (k 0, 8, .inl (x.1 7))),
   (a 8, .inl (k 0, 8, .inl (x.1 8))),
   (a 9, .inl (k 0, 8, .inl (x.1 9))),
   (a 10, .inl (k 0, 8, .inl (x.1 10))),
   (a 11, .inl (k 0, 8, .inl (x.1 11))),
   (a 12, .inl (k 0, 81, .inl (x.1 12))),
   (a 13, .inl (k 0, 40, .inl (x.1 13))),
   (a 14, .inl (k 0, 4, .inl (x.1 14))),
   (a 15, .inl (k 0, 4, .inl (x.1 15))),
   (a 16, .inl (k 1, 64, .inr (.inl (x.2 16)))),
   (a 17, .inl (k 1, 16, .inr (.inl (x.2 17))))]
theorem bq_ad_of {w : bq_S → va_W} (h : ∀ x y : bq_S, (w x).map Prod.fst = (w y).map Prod.fst) : bq_Ad w := by
  intro x y k a e hk
  have h1 : ((w x).map Prod.fst)[k]? = some a := by rw [List.getElem?_map, hk]; rfl
  rw [h x y, List.getElem?_map] at h1
  cases hq : (w y)[k]? with
  | none => rw [hq] at h1; cases h1
  | some q =>
    rw [hq] at h1
    refine ⟨q.2, ?_⟩
    have h2 : q.1 = a := Option.some.inj h1
    rw [← h2]
theorem bq_adC (a : Nat → Nat) (k : Nat → ClassId) : bq_Ad (bq_wC a k) := bq_ad_of (fun _ _ => rfl)
theorem bq_adM (a : Nat → Nat) (k : Nat → ClassId) : bq_Ad (bq_wM a k) := bq_ad_of (fun _ _ => rfl)
theorem iw_X0 : ∀ w ∈ u_ws RX0 TX0 9, w ∈ bq_L := by decide +kernel
theorem bt_X0 : bq_TY TX0 9 := ⟨⟨tyX0, tyX0_ok⟩, nmX0⟩
theorem iw_X1 : ∀ w ∈ u_ws RX1 TX1 1, w ∈ bq_L := by decide +kernel
theorem bt_X1 : bq_TY TX1 1 := ⟨⟨tyX1, tyX1_ok⟩, nmX1⟩
theorem iw_X2 : ∀ w ∈ u_ws RX2 TX2 6, w ∈ bq_L := by decide +kernel
theorem bt_X2 : bq_TY TX2 6 := ⟨⟨tyX2, tyX2_ok⟩, nmX2⟩
theorem iw_X3 : ∀ w ∈ u_ws RX3 TX3 7, w ∈ bq_L := by decide +kernel
theorem bt_X3 : bq_TY TX3 7 := ⟨⟨tyX3, tyX3_ok⟩, nmX3⟩
theorem iw_X4 : ∀ w ∈ u_ws RX4 TX4 9, w ∈ bq_L := by decide +kernel
theorem bt_X4 : bq_TY TX4 9 := ⟨⟨tyX4, tyX4_ok⟩, nmX4⟩
theorem iw_X5 : ∀ w ∈ u_ws RX5 TX5 7, w ∈ bq_L := by decide +kernel
theorem bt_X5 : bq_TY TX5 7 := ⟨⟨tyX5, tyX5_ok⟩, nmX5⟩
theorem iw_X6 : ∀ w ∈ u_ws RX6 TX6 3, w ∈ bq_L := by decide +kernel
theorem bt_X6 : bq_TY TX6 3 := ⟨⟨tyX6, tyX6_ok⟩, nmX6⟩
theorem iw_X7 : ∀ w ∈ u_ws RX7 TX7 4, w ∈ bq_L := by decide +kernel
theorem bt_X7 : bq_TY TX7 4 := ⟨⟨tyX7, tyX7_ok⟩, nmX7⟩
theorem iw_X9 : ∀ w ∈ u_ws RX9 TX9 12, w ∈ bq_L := by decide +kernel
theorem bt_X9 : bq_TY TX9 12 := ⟨⟨tyX9, tyX9_ok⟩, nmX9⟩
theorem iw_X10 : ∀ w ∈ u_ws RX10 TX10 26, w ∈ bq_L := by decide +kernel
theorem bt_X10 : bq_TY TX10 26 := ⟨⟨tyX10, tyX10_ok⟩, nmX10⟩
