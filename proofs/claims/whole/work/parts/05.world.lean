def xw (ad : Nat → Nat) (ci cl : ClassId) (σ : MI) (τ : ML) : va_W := [(ad 0, .inr (6, [.ref (ad 1), .ref (ad 8), .ref (ad 15), .ref (ad 17), .ref (ad 19), .ref (ad 22)])),
  (ad 1, .inr (1, [.int (σ 1 0), .ref (ad 2), .ref (ad 3), .ref (ad 4), .ref (ad 5), .ref (ad 6), .ref (ad 7)])),
  (ad 2, .inl (ci, 4, .inl (σ 2))),
  (ad 3, .inl (ci, 4, .inl (σ 3))),
  (ad 4, .inl (ci, 4, .inl (σ 4))),
  (ad 5, .inl (ci, 4, .inl (σ 5))),
  (ad 6, .inl (ci, 4, .inl (σ 6))),
  (ad 7, .inl (ci, 4, .inl (σ 7))),
  (ad 8, .inr (0, [.int (σ 8 0), .ref (ad 9), .ref (ad 10), .ref (ad 11), .ref (ad 12), .ref (ad 13), .ref (ad 14)])),
  (ad 9, .inl (ci, 7, .inl (σ 9))),
  (ad 10, .inl (ci, 7, .inl (σ 10))),
  (ad 11, .inl (ci, 7, .inl (σ 11))),
  (ad 12, .inl (ci, 7, .inl (σ 12))),
  (ad 13, .inl (ci, 7, .inl (σ 13))),
  (ad 14, .inl (ci, 7, .inl (σ 14))),
  (ad 15, .inr (4, [.int (σ 15 0), .ref (ad 16)])),
  (ad 16, .inl (ci, 6, .inl (σ 16))),
  (ad 17, .inr (5, [.int (σ 17 0), .ref (ad 18)])),
  (ad 18, .inl (ci, 25, .inl (σ 18))),
  (ad 19, .inr (3, [.ref (ad 20), .ref (ad 21)])),
  (ad 20, .inl (cl, 128, .inr (.inl (τ 20)))),
  (ad 21, .inl (cl, 128, .inr (.inl (τ 21)))),
  (ad 22, .inr (2, [.int (σ 22 0), .int (σ 22 1), .int (σ 22 2), .int (σ 22 3), .ref (ad 23), .ref (ad 24), .ref (ad 25), .ref (ad 26), .ref (ad 27)])),
  (ad 23, .inl (ci, 7, .inl (σ 23))),
  (ad 24, .inl (ci, 7, .inl (σ 24))),
  (ad 25, .inl (ci, 7, .inl (σ 25))),
  (ad 26, .inl (ci, 7, .inl (σ 26))),
  (ad 27, .inl (ci, 7, .inl (σ 27))),
  (ad 28, .inl (cl, 1, .inr (.inl (τ 28)))),
  (ad 29, .inr (7, [.int (σ 29 0), .int (σ 29 1), .ref (ad 30), .ref (ad 31), .ref (ad 32), .ref (ad 33), .ref (ad 34), .ref (ad 35), .int (σ 29 8), .ref (ad 36), .int (σ 29 10), .ref (ad 37), .ref (ad 38), .ref (ad 39), .ref (ad 40), .ref (ad 41), .ref (ad 42), .int (σ 29 17), .int (σ 29 18), .ref (ad 43), .ref (ad 44), .int (σ 29 21), .ref (ad 45), .ref (ad 46)])),
  (ad 30, .inl (ci, 4, .inl (σ 30))),
  (ad 31, .inl (ci, 4, .inl (σ 31))),
  (ad 32, .inl (ci, 4, .inl (σ 32))),
  (ad 33, .inl (ci, 4, .inl (σ 33))),
  (ad 34, .inl (ci, 4, .inl (σ 34))),
  (ad 35, .inl (ci, 4, .inl (σ 35))),
  (ad 36, .inl (ci, 6, .inl (σ 36))),
  (ad 37, .inl (ci, 7, .inl (σ 37))),
  (ad 38, .inl (ci, 7, .inl (σ 38))),
  (ad 39, .inl (ci, 7, .inl (σ 39))),
  (ad 40, .inl (ci, 7, .inl (σ 40))),
  (ad 41, .inl (ci, 7, .inl (σ 41))),
  (ad 42, .inl (ci, 25, .inl (σ 42))),
  (ad 43, .inl (ci, 7, .inl (σ 43))),
  (ad 44, .inl (ci, 7, .inl (σ 44))),
  (ad 45, .inl (ci, 512, .inl (σ 45))),
  (ad 46, .inl (ci, 7, .inl (σ 46)))]
def xt (ci cl : ClassId) : List (ClassId × FieldType) := [(ci, .int), (cl, .long)]
def xa (ad : Nat → Nat) : List Nat := [ad 0, ad 1, ad 2, ad 3, ad 4, ad 5, ad 6, ad 7, ad 8, ad 9, ad 10, ad 11, ad 12, ad 13, ad 14, ad 15, ad 16, ad 17, ad 18, ad 19, ad 20, ad 21, ad 22, ad 23, ad 24, ad 25, ad 26, ad 27, ad 28, ad 29, ad 30, ad 31, ad 32, ad 33, ad 34, ad 35, ad 36, ad 37, ad 38, ad 39, ad 40, ad 41, ad 42, ad 43, ad 44, ad 45, ad 46]
theorem xa_ok {ad : Nat → Nat} {ci cl : ClassId} (σ : MI) (τ : ML) : (xw ad ci cl σ τ).map Prod.fst = xa ad := rfl
theorem xf_1_0 {ad : Nat → Nat} {ci cl : ClassId} {σ : MI} {τ : ML} {v : Int32} : (xw ad ci cl σ τ).set 1 (ad 1, .inr (1, List.set [.int (σ 1 0), .ref (ad 2), .ref (ad 3), .ref (ad 4), .ref (ad 5), .ref (ad 6), .ref (ad 7)] 0 (.int v))) = xw ad ci cl (st2 σ 1 0 v) τ := rfl
theorem xa_2 {ad : Nat → Nat} {ci cl : ClassId} {σ : MI} {τ : ML} {i : Nat} {v : Int32} : (xw ad ci cl σ τ).set 2 (ad 2, .inl (ci, 4, .inl (upd (σ 2) i v))) = xw ad ci cl (st2 σ 2 i v) τ := rfl
theorem xc_2 {ad : Nat → Nat} {ci cl : ClassId} {σ : MI} {τ : ML} {f : Nat → Int32} : (xw ad ci cl σ τ).set 2 (ad 2, .inl (ci, 4, .inl f)) = xw ad ci cl (st1 σ 2 f) τ := rfl
theorem xa_3 {ad : Nat → Nat} {ci cl : ClassId} {σ : MI} {τ : ML} {i : Nat} {v : Int32} : (xw ad ci cl σ τ).set 3 (ad 3, .inl (ci, 4, .inl (upd (σ 3) i v))) = xw ad ci cl (st2 σ 3 i v) τ := rfl
theorem xc_3 {ad : Nat → Nat} {ci cl : ClassId} {σ : MI} {τ : ML} {f : Nat → Int32} : (xw ad ci cl σ τ).set 3 (ad 3, .inl (ci, 4, .inl f)) = xw ad ci cl (st1 σ 3 f) τ := rfl
theorem xa_4 {ad : Nat → Nat} {ci cl : ClassId} {σ : MI} {τ : ML} {i : Nat} {v : Int32} : (xw ad ci cl σ τ).set 4 (ad 4, .inl (ci, 4, .inl (upd (σ 4) i v))) = xw ad ci cl (st2 σ 4 i v) τ := rfl
theorem xc_4 {ad : Nat → Nat} {ci cl : ClassId} {σ : MI} {τ : ML} {f : Nat → Int32} : (xw ad ci cl σ τ).set 4 (ad 4, .inl (ci, 4, .inl f)) = xw ad ci cl (st1 σ 4 f) τ := rfl
theorem xa_5 {ad : Nat → Nat} {ci cl : ClassId} {σ : MI} {τ : ML} {i : Nat} {v : Int32} : (xw ad ci cl σ τ).set 5 (ad 5, .inl (ci, 4, .inl (upd (σ 5) i v))) = xw ad ci cl (st2 σ 5 i v) τ := rfl
theorem xc_5 {ad : Nat → Nat} {ci cl : ClassId} {σ : MI} {τ : ML} {f : Nat → Int32} : (xw ad ci cl σ τ).set 5 (ad 5, .inl (ci, 4, .inl f)) = xw ad ci cl (st1 σ 5 f) τ := rfl
theorem xa_6 {ad : Nat → Nat} {ci cl : ClassId} {σ : MI} {τ : ML} {i : Nat} {v : Int32} : (xw ad ci cl σ τ).set 6 (ad 6, .inl (ci, 4, .inl (upd (σ 6) i v))) = xw ad ci cl (st2 σ 6 i v) τ := rfl
theorem xc_6 {ad : Nat → Nat} {ci cl : ClassId} {σ : MI} {τ : ML} {f : Nat → Int32} : (xw ad ci cl σ τ).set 6 (ad 6, .inl (ci, 4, .inl f)) = xw ad ci cl (st1 σ 6 f) τ := rfl
theorem xa_7 {ad : Nat → Nat} {ci cl : ClassId} {σ : MI} {τ : ML} {i : Nat} {v : Int32} : (xw ad ci cl σ τ).set 7 (ad 7, .inl (ci, 4, .inl (upd (σ 7) i v))) = xw ad ci cl (st2 σ 7 i v) τ := rfl
theorem xc_7 {ad : Nat → Nat} {ci cl : ClassId} {σ : MI} {τ : ML} {f : Nat → Int32} : (xw ad ci cl σ τ).set 7 (ad 7, .inl (ci, 4, .inl f)) = xw ad ci cl (st1 σ 7 f) τ := rfl
theorem xf_8_0 {ad : Nat → Nat} {ci cl : ClassId} {σ : MI} {τ : ML} {v : Int32} : (xw ad ci cl σ τ).set 8 (ad 8, .inr (0, List.set [.int (σ 8 0), .ref (ad 9), .ref (ad 10), .ref (ad 11), .ref (ad 12), .ref (ad 13), .ref (ad 14)] 0 (.int v))) = xw ad ci cl (st2 σ 8 0 v) τ := rfl
theorem xa_9 {ad : Nat → Nat} {ci cl : ClassId} {σ : MI} {τ : ML} {i : Nat} {v : Int32} : (xw ad ci cl σ τ).set 9 (ad 9, .inl (ci, 7, .inl (upd (σ 9) i v))) = xw ad ci cl (st2 σ 9 i v) τ := rfl
theorem xc_9 {ad : Nat → Nat} {ci cl : ClassId} {σ : MI} {τ : ML} {f : Nat → Int32} : (xw ad ci cl σ τ).set 9 (ad 9, .inl (ci, 7, .inl f)) = xw ad ci cl (st1 σ 9 f) τ := rfl
theorem xa_10 {ad : Nat → Nat} {ci cl : ClassId} {σ : MI} {τ : ML} {i : Nat} {v : Int32} : (xw ad ci cl σ τ).set 10 (ad 10, .inl (ci, 7, .inl (upd (σ 10) i v))) = xw ad ci cl (st2 σ 10 i v) τ := rfl
theorem xc_10 {ad : Nat → Nat} {ci cl : ClassId} {σ : MI} {τ : ML} {f : Nat → Int32} : (xw ad ci cl σ τ).set 10 (ad 10, .inl (ci, 7, .inl f)) = xw ad ci cl (st1 σ 10 f) τ := rfl
theorem xa_11 {ad : Nat → Nat} {ci cl : ClassId} {σ : MI} {τ : ML} {i : Nat} {v : Int32} : (xw ad ci cl σ τ).set 11 (ad 11, .inl (ci, 7, .inl (upd (σ 11) i v))) = xw ad ci cl (st2 σ 11 i v) τ := rfl
theorem xc_11 {ad : Nat → Nat} {ci cl : ClassId} {σ : MI} {τ : ML} {f : Nat → Int32} : (xw ad ci cl σ τ).set 11 (ad 11, .inl (ci, 7, .inl f)) = xw ad ci cl (st1 σ 11 f) τ := rfl
theorem xa_12 {ad : Nat → Nat} {ci cl : ClassId} {σ : MI} {τ : ML} {i : Nat} {v : Int32} : (xw ad ci cl σ τ).set 12 (ad 12, .inl (ci, 7, .inl (upd (σ 12) i v))) = xw ad ci cl (st2 σ 12 i v) τ := rfl
theorem xc_12 {ad : Nat → Nat} {ci cl : ClassId} {σ : MI} {τ : ML} {f : Nat → Int32} : (xw ad ci cl σ τ).set 12 (ad 12, .inl (ci, 7, .inl f)) = xw ad ci cl (st1 σ 12 f) τ := rfl
theorem xa_13 {ad : Nat → Nat} {ci cl : ClassId} {σ : MI} {τ : ML} {i : Nat} {v : Int32} : (xw ad ci cl σ τ).set 13 (ad 13, .inl (ci, 7, .inl (upd (σ 13) i v))) = xw ad ci cl (st2 σ 13 i v) τ := rfl
theorem xc_13 {ad : Nat → Nat} {ci cl : ClassId} {σ : MI} {τ : ML} {f : Nat → Int32} : (xw ad ci cl σ τ).set 13 (ad 13, .inl (ci, 7, .inl f)) = xw ad ci cl (st1 σ 13 f) τ := rfl
theorem xa_14 {ad : Nat → Nat} {ci cl : ClassId} {σ : MI} {τ : ML} {i : Nat} {v : Int32} : (xw ad ci cl σ τ).set 14 (ad 14, .inl (ci, 7, .inl (upd (σ 14) i v))) = xw ad ci cl (st2 σ 14 i v) τ := rfl
theorem xc_14 {ad : Nat → Nat} {ci cl : ClassId} {σ : MI} {τ : ML} {f : Nat → Int32} : (xw ad ci cl σ τ).set 14 (ad 14, .inl (ci, 7, .inl f)) = xw ad ci cl (st1 σ 14 f) τ := rfl
theorem xf_15_0 {ad : Nat → Nat} {ci cl : ClassId} {σ : MI} {τ : ML} {v : Int32} : (xw ad ci cl σ τ).set 15 (ad 15, .inr (4, List.set [.int (σ 15 0), .ref (ad 16)] 0 (.int v))) = xw ad ci cl (st2 σ 15 0 v) τ := rfl
theorem xa_16 {ad : Nat → Nat} {ci cl : ClassId} {σ : MI} {τ : ML} {i : Nat} {v : Int32} : (xw ad ci cl σ τ).set 16 (ad 16, .inl (ci, 6, .inl (upd (σ 16) i v))) = xw ad ci cl (st2 σ 16 i v) τ := rfl
theorem xc_16 {ad : Nat → Nat} {ci cl : ClassId} {σ : MI} {τ : ML} {f : Nat → Int32} : (xw ad ci cl σ τ).set 16 (ad 16, .inl (ci, 6, .inl f)) = xw ad ci cl (st1 σ 16 f) τ := rfl
theorem xf_17_0 {ad : Nat → Nat} {ci cl : ClassId} {σ : MI} {τ : ML} {v : Int32} : (xw ad ci cl σ τ).set 17 (ad 17, .inr (5, List.set [.int (σ 17 0), .ref (ad 18)] 0 (.int v))) = xw ad ci cl (st2 σ 17 0 v) τ := rfl
theorem xa_18 {ad : Nat → Nat} {ci cl : ClassId} {σ : MI} {τ : ML} {i : Nat} {v : Int32} : (xw ad ci cl σ τ).set 18 (ad 18, .inl (ci, 25, .inl (upd (σ 18) i v))) = xw ad ci cl (st2 σ 18 i v) τ := rfl
theorem xc_18 {ad : Nat → Nat} {ci cl : ClassId} {σ : MI} {τ : ML} {f : Nat → Int32} : (xw ad ci cl σ τ).set 18 (ad 18, .inl (ci, 25, .inl f)) = xw ad ci cl (st1 σ 18 f) τ := rfl
theorem xa_20 {ad : Nat → Nat} {ci cl : ClassId} {σ : MI} {τ : ML} {i : Nat} {v : Int64} : (xw ad ci cl σ τ).set 20 (ad 20, .inl (cl, 128, .inr (.inl (vp_updL (τ 20) i v)))) = xw ad ci cl σ (sl2 τ 20 i v) := rfl
theorem xa_21 {ad : Nat → Nat} {ci cl : ClassId} {σ : MI} {τ : ML} {i : Nat} {v : Int64} : (xw ad ci cl σ τ).set 21 (ad 21, .inl (cl, 128, .inr (.inl (vp_updL (τ 21) i v)))) = xw ad ci cl σ (sl2 τ 21 i v) := rfl
theorem xf_22_0 {ad : Nat → Nat} {ci cl : ClassId} {σ : MI} {τ : ML} {v : Int32} : (xw ad ci cl σ τ).set 22 (ad 22, .inr (2, List.set [.int (σ 22 0), .int (σ 22 1), .int (σ 22 2), .int (σ 22 3), .ref (ad 23), .ref (ad 24), .ref (ad 25), .ref (ad 26), .ref (ad 27)] 0 (.int v))) = xw ad ci cl (st2 σ 22 0 v) τ := rfl
theorem xf_22_1 {ad : Nat → Nat} {ci cl : ClassId} {σ : MI} {τ : ML} {v : Int32} : (xw ad ci cl σ τ).set 22 (ad 22, .inr (2, List.set [.int (σ 22 0), .int (σ 22 1), .int (σ 22 2), .int (σ 22 3), .ref (ad 23), .ref (ad 24), .ref (ad 25), .ref (ad 26), .ref (ad 27)] 1 (.int v))) = xw ad ci cl (st2 σ 22 1 v) τ := rfl
theorem xf_22_2 {ad : Nat → Nat} {ci cl : ClassId} {σ : MI} {τ : ML} {v : Int32} : (xw ad ci cl σ τ).set 22 (ad 22, .inr (2, List.set [.int (σ 22 0), .int (σ 22 1), .int (σ 22 2), .int (σ 22 3), .ref (ad 23), .ref (ad 24), .ref (ad 25), .ref (ad 26), .ref (ad 27)] 2 (.int v))) = xw ad ci cl (st2 σ 22 2 v) τ := rfl
theorem xf_22_3 {ad : Nat → Nat} {ci cl : ClassId} {σ : MI} {τ : ML} {v : Int32} : (xw ad ci cl σ τ).set 22 (ad 22, .inr (2, List.set [.int (σ 22 0), .int (σ 22 1), .int (σ 22 2), .int (σ 22 3), .ref (ad 23), .ref (ad 24), .ref (ad 25), .ref (ad 26), .ref (ad 27)] 3 (.int v))) = xw ad ci cl (st2 σ 22 3 v) τ := rfl
theorem xa_23 {ad : Nat → Nat} {ci cl : ClassId} {σ : MI} {τ : ML} {i : Nat} {v : Int32} : (xw ad ci cl σ τ).set 23 (ad 23, .inl (ci, 7, .inl (upd (σ 23) i v))) = xw ad ci cl (st2 σ 23 i v) τ := rfl
theorem xc_23 {ad : Nat → Nat} {ci cl : ClassId} {σ : MI} {τ : ML} {f : Nat → Int32} : (xw ad ci cl σ τ).set 23 (ad 23, .inl (ci, 7, .inl f)) = xw ad ci cl (st1 σ 23 f) τ := rfl
theorem xa_24 {ad : Nat → Nat} {ci cl : ClassId} {σ : MI} {τ : ML} {i : Nat} {v : Int32} : (xw ad ci cl σ τ).set 24 (ad 24, .inl (ci, 7, .inl (upd (σ 24) i v))) = xw ad ci cl (st2 σ 24 i v) τ := rfl
theorem xc_24 {ad : Nat → Nat} {ci cl : ClassId} {σ : MI} {τ : ML} {f : Nat → Int32} : (xw ad ci cl σ τ).set 24 (ad 24, .inl (ci, 7, .inl f)) = xw ad ci cl (st1 σ 24 f) τ := rfl
theorem xa_25 {ad : Nat → Nat} {ci cl : ClassId} {σ : MI} {τ : ML} {i : Nat} {v : Int32} : (xw ad ci cl σ τ).set 25 (ad 25, .inl (ci, 7, .inl (upd (σ 25) i v))) = xw ad ci cl (st2 σ 25 i v) τ := rfl
theorem xc_25 {ad : Nat → Nat} {ci cl : ClassId} {σ : MI} {τ : ML} {f : Nat → Int32} : (xw ad ci cl σ τ).set 25 (ad 25, .inl (ci, 7, .inl f)) = xw ad ci cl (st1 σ 25 f) τ := rfl
theorem xa_26 {ad : Nat → Nat} {ci cl : ClassId} {σ : MI} {τ : ML} {i : Nat} {v : Int32} : (xw ad ci cl σ τ).set 26 (ad 26, .inl (ci, 7, .inl (upd (σ 26) i v))) = xw ad ci cl (st2 σ 26 i v) τ := rfl
theorem xc_26 {ad : Nat → Nat} {ci cl : ClassId} {σ : MI} {τ : ML} {f : Nat → Int32} : (xw ad ci cl σ τ).set 26 (ad 26, .inl (ci, 7, .inl f)) = xw ad ci cl (st1 σ 26 f) τ := rfl
theorem xa_27 {ad : Nat → Nat} {ci cl : ClassId} {σ : MI} {τ : ML} {i : Nat} {v : Int32} : (xw ad ci cl σ τ).set 27 (ad 27, .inl (ci, 7, .inl (upd (σ 27) i v))) = xw ad ci cl (st2 σ 27 i v) τ := rfl
theorem xc_27 {ad : Nat → Nat} {ci cl : ClassId} {σ : MI} {τ : ML} {f : Nat → Int32} : (xw ad ci cl σ τ).set 27 (ad 27, .inl (ci, 7, .inl f)) = xw ad ci cl (st1 σ 27 f) τ := rfl
theorem xa_28 {ad : Nat → Nat} {ci cl : ClassId} {σ : MI} {τ : ML} {i : Nat} {v : Int64} : (xw ad ci cl σ τ).set 28 (ad 28, .inl (cl, 1, .inr (.inl (vp_updL (τ 28) i v)))) = xw ad ci cl σ (sl2 τ 28 i v) := rfl
theorem xf_29_0 {ad : Nat → Nat} {ci cl : ClassId} {σ : MI} {τ : ML} {v : Int32} : (xw ad ci cl σ τ).set 29 (ad 29, .inr (7, List.set [.int (σ 29 0), .int (σ 29 1), .ref (ad 30), .ref (ad 31), .ref (ad 32), .ref (ad 33), .ref (ad 34), .ref (ad 35), .int (σ 29 8), .ref (ad 36), .int (σ 29 10), .ref (ad 37), .ref (ad 38), .ref (ad 39), .ref (ad 40), .ref (ad 41), .ref (ad 42), .int (σ 29 17), .int (σ 29 18), .ref (ad 43), .ref (ad 44), .int (σ 29 21), .ref (ad 45), .ref (ad 46)] 0 (.int v))) = xw ad ci cl (st2 σ 29 0 v) τ := rfl
theorem xf_29_1 {ad : Nat → Nat} {ci cl : ClassId} {σ : MI} {τ : ML} {v : Int32} : (xw ad ci cl σ τ).set 29 (ad 29, .inr (7, List.set [.int (σ 29 0), .int (σ 29 1), .ref (ad 30), .ref (ad 31), .ref (ad 32), .ref (ad 33), .ref (ad 34), .ref (ad 35), .int (σ 29 8), .ref (ad 36), .int (σ 29 10), .ref (ad 37), .ref (ad 38), .ref (ad 39), .ref (ad 40), .ref (ad 41), .ref (ad 42), .int (σ 29 17), .int (σ 29 18), .ref (ad 43), .ref (ad 44), .int (σ 29 21), .ref (ad 45), .ref (ad 46)] 1 (.int v))) = xw ad ci cl (st2 σ 29 1 v) τ := rfl
theorem xf_29_8 {ad : Nat → Nat} {ci cl : ClassId} {σ : MI} {τ : ML} {v : Int32} : (xw ad ci cl σ τ).set 29 (ad 29, .inr (7, List.set [.int (σ 29 0), .int (σ 29 1), .ref (ad 30), .ref (ad 31), .ref (ad 32), .ref (ad 33), .ref (ad 34), .ref (ad 35), .int (σ 29 8), .ref (ad 36), .int (σ 29 10), .ref (ad 37), .ref (ad 38), .ref (ad 39), .ref (ad 40), .ref (ad 41), .ref (ad 42), .int (σ 29 17), .int (σ 29 18), .ref (ad 43), .ref (ad 44), .int (σ 29 21), .ref (ad 45), .ref (ad 46)] 8 (.int v))) = xw ad ci cl (st2 σ 29 8 v) τ := rfl
theorem xf_29_10 {ad : Nat → Nat} {ci cl : ClassId} {σ : MI} {τ : ML} {v : Int32} : (xw ad ci cl σ τ).set 29 (ad 29, .inr (7, List.set [.int (σ 29 0), .int (σ 29 1), .ref (ad 30), .ref (ad 31), .ref (ad 32), .ref (ad 33), .ref (ad 34), .ref (ad 35), .int (σ 29 8), .ref (ad 36), .int (σ 29 10), .ref (ad 37), .ref (ad 38), .ref (ad 39), .ref (ad 40), .ref (ad 41), .ref (ad 42), .int (σ 29 17), .int (σ 29 18), .ref (ad 43), .ref (ad 44), .int (σ 29 21), .ref (ad 45), .ref (ad 46)] 10 (.int v))) = xw ad ci cl (st2 σ 29 10 v) τ := rfl
theorem xf_29_17 {ad : Nat → Nat} {ci cl : ClassId} {σ : MI} {τ : ML} {v : Int32} : (xw ad ci cl σ τ).set 29 (ad 29, .inr (7, List.set [.int (σ 29 0), .int (σ 29 1), .ref (ad 30), .ref (ad 31), .ref (ad 32), .ref (ad 33), .ref (ad 34), .ref (ad 35), .int (σ 29 8), .ref (ad 36), .int (σ 29 10), .ref (ad 37), .ref (ad 38), .ref (ad 39), .ref (ad 40), .ref (ad 41), .ref (ad 42), .int (σ 29 17), .int (σ 29 18), .ref (ad 43), .ref (ad 44), .int (σ 29 21), .ref (ad 45), .ref (ad 46)] 17 (.int v))) = xw ad ci cl (st2 σ 29 17 v) τ := rfl
theorem xf_29_18 {ad : Nat → Nat} {ci cl : ClassId} {σ : MI} {τ : ML} {v : Int32} : (xw ad ci cl σ τ).set 29 (ad 29, .inr (7, List.set [.int (σ 29 0), .int (σ 29 1), .ref (ad 30), .ref (ad 31), .ref (ad 32), .ref (ad 33), .ref (ad 34), .ref (ad 35), .int (σ 29 8), .ref (ad 36), .int (σ 29 10), .ref (ad 37), .ref (ad 38), .ref (ad 39), .ref (ad 40), .ref (ad 41), .ref (ad 42), .int (σ 29 17), .int (σ 29 18), .ref (ad 43), .ref (ad 44), .int (σ 29 21), .ref (ad 45), .ref (ad 46)] 18 (.int v))) = xw ad ci cl (st2 σ 29 18 v) τ := rfl
theorem xf_29_21 {ad : Nat → Nat} {ci cl : ClassId} {σ : MI} {τ : ML} {v : Int32} : (xw ad ci cl σ τ).set 29 (ad 29, .inr (7, List.set [.int (σ 29 0), .int (σ 29 1), .ref (ad 30), .ref (ad 31), .ref (ad 32), .ref (ad 33), .ref (ad 34), .ref (ad 35), .int (σ 29 8), .ref (ad 36), .int (σ 29 10), .ref (ad 37), .ref (ad 38), .ref (ad 39), .ref (ad 40), .ref (ad 41), .ref (ad 42), .int (σ 29 17), .int (σ 29 18), .ref (ad 43), .ref (ad 44), .int (σ 29 21), .ref (ad 45), .ref (ad 46)] 21 (.int v))) = xw ad ci cl (st2 σ 29 21 v) τ := rfl
theorem xa_30 {ad : Nat → Nat} {ci cl : ClassId} {σ : MI} {τ : ML} {i : Nat} {v : Int32} : (xw ad ci cl σ τ).set 30 (ad 30, .inl (ci, 4, .inl (upd (σ 30) i v))) = xw ad ci cl (st2 σ 30 i v) τ := rfl
theorem xc_30 {ad : Nat → Nat} {ci cl : ClassId} {σ : MI} {τ : ML} {f : Nat → Int32} : (xw ad ci cl σ τ).set 30 (ad 30, .inl (ci, 4, .inl f)) = xw ad ci cl (st1 σ 30 f) τ := rfl
theorem xa_31 {ad : Nat → Nat} {ci cl : ClassId} {σ : MI} {τ : ML} {i : Nat} {v : Int32} : (xw ad ci cl σ τ).set 31 (ad 31, .inl (ci, 4, .inl (upd (σ 31) i v))) = xw ad ci cl (st2 σ 31 i v) τ := rfl
theorem xc_31 {ad : Nat → Nat} {ci cl : ClassId} {σ : MI} {τ : ML} {f : Nat → Int32} : (xw ad ci cl σ τ).set 31 (ad 31, .inl (ci, 4, .inl f)) = xw ad ci cl (st1 σ 31 f) τ := rfl
theorem xa_32 {ad : Nat → Nat} {ci cl : ClassId} {σ : MI} {τ : ML} {i : Nat} {v : Int32} : (xw ad ci cl σ τ).set 32 (ad 32, .inl (ci, 4, .inl (upd (σ 32) i v))) = xw ad ci cl (st2 σ 32 i v) τ := rfl
theorem xc_32 {ad : Nat → Nat} {ci cl : ClassId} {σ : MI} {τ : ML} {f : Nat → Int32} : (xw ad ci cl σ τ).set 32 (ad 32, .inl (ci, 4, .inl f)) = xw ad ci cl (st1 σ 32 f) τ := rfl
theorem xa_33 {ad : Nat → Nat} {ci cl : ClassId} {σ : MI} {τ : ML} {i : Nat} {v : Int32} : (xw ad ci cl σ τ).set 33 (ad 33, .inl (ci, 4, .inl (upd (σ 33) i v))) = xw ad ci cl (st2 σ 33 i v) τ := rfl
theorem xc_33 {ad : Nat → Nat} {ci cl : ClassId} {σ : MI} {τ : ML} {f : Nat → Int32} : (xw ad ci cl σ τ).set 33 (ad 33, .inl (ci, 4, .inl f)) = xw ad ci cl (st1 σ 33 f) τ := rfl
theorem xa_34 {ad : Nat → Nat} {ci cl : ClassId} {σ : MI} {τ : ML} {i : Nat} {v : Int32} : (xw ad ci cl σ τ).set 34 (ad 34, .inl (ci, 4, .inl (upd (σ 34) i v))) = xw ad ci cl (st2 σ 34 i v) τ := rfl
theorem xc_34 {ad : Nat → Nat} {ci cl : ClassId} {σ : MI} {τ : ML} {f : Nat → Int32} : (xw ad ci cl σ τ).set 34 (ad 34, .inl (ci, 4, .inl f)) = xw ad ci cl (st1 σ 34 f) τ := rfl
theorem xa_35 {ad : Nat → Nat} {ci cl : ClassId} {σ : MI} {τ : ML} {i : Nat} {v : Int32} : (xw ad ci cl σ τ).set 35 (ad 35, .inl (ci, 4, .inl (upd (σ 35) i v))) = xw ad ci cl (st2 σ 35 i v) τ := rfl
theorem xc_35 {ad : Nat → Nat} {ci cl : ClassId} {σ : MI} {τ : ML} {f : Nat → Int32} : (xw ad ci cl σ τ).set 35 (ad 35, .inl (ci, 4, .inl f)) = xw ad ci cl (st1 σ 35 f) τ := rfl
theorem xa_36 {ad : Nat → Nat} {ci cl : ClassId} {σ : MI} {τ : ML} {i : Nat} {v : Int32} : (xw ad ci cl σ τ).set 36 (ad 36, .inl (ci, 6, .inl (upd (σ 36) i v))) = xw ad ci cl (st2 σ 36 i v) τ := rfl
theorem xc_36 {ad : Nat → Nat} {ci cl : ClassId} {σ : MI} {τ : ML} {f : Nat → Int32} : (xw ad ci cl σ τ).set 36 (ad 36, .inl (ci, 6, .inl f)) = xw ad ci cl (st1 σ 36 f) τ := rfl
theorem xa_37 {ad : Nat → Nat} {ci cl : ClassId} {σ : MI} {τ : ML} {i : Nat} {v : Int32} : (xw ad ci cl σ τ).set 37 (ad 37, .inl (ci, 7, .inl (upd (σ 37) i v))) = xw ad ci cl (st2 σ 37 i v) τ := rfl
theorem xc_37 {ad : Nat → Nat} {ci cl : ClassId} {σ : MI} {τ : ML} {f : Nat → Int32} : (xw ad ci cl σ τ).set 37 (ad 37, .inl (ci, 7, .inl f)) = xw ad ci cl (st1 σ 37 f) τ := rfl
theorem xa_38 {ad : Nat → Nat} {ci cl : ClassId} {σ : MI} {τ : ML} {i : Nat} {v : Int32} : (xw ad ci cl σ τ).set 38 (ad 38, .inl (ci, 7, .inl (upd (σ 38) i v))) = xw ad ci cl (st2 σ 38 i v) τ := rfl
theorem xc_38 {ad : Nat → Nat} {ci cl : ClassId} {σ : MI} {τ : ML} {f : Nat → Int32} : (xw ad ci cl σ τ).set 38 (ad 38, .inl (ci, 7, .inl f)) = xw ad ci cl (st1 σ 38 f) τ := rfl
theorem xa_39 {ad : Nat → Nat} {ci cl : ClassId} {σ : MI} {τ : ML} {i : Nat} {v : Int32} : (xw ad ci cl σ τ).set 39 (ad 39, .inl (ci, 7, .inl (upd (σ 39) i v))) = xw ad ci cl (st2 σ 39 i v) τ := rfl
theorem xc_39 {ad : Nat → Nat} {ci cl : ClassId} {σ : MI} {τ : ML} {f : Nat → Int32} : (xw ad ci cl σ τ).set 39 (ad 39, .inl (ci, 7, .inl f)) = xw ad ci cl (st1 σ 39 f) τ := rfl
theorem xa_40 {ad : Nat → Nat} {ci cl : ClassId} {σ : MI} {τ : ML} {i : Nat} {v : Int32} : (xw ad ci cl σ τ).set 40 (ad 40, .inl (ci, 7, .inl (upd (σ 40) i v))) = xw ad ci cl (st2 σ 40 i v) τ := rfl
theorem xc_40 {ad : Nat → Nat} {ci cl : ClassId} {σ : MI} {τ : ML} {f : Nat → Int32} : (xw ad ci cl σ τ).set 40 (ad 40, .inl (ci, 7, .inl f)) = xw ad ci cl (st1 σ 40 f) τ := rfl
theorem xa_41 {ad : Nat → Nat} {ci cl : ClassId} {σ : MI} {τ : ML} {i : Nat} {v : Int32} : (xw ad ci cl σ τ).set 41 (ad 41, .inl (ci, 7, .inl (upd (σ 41) i v))) = xw ad ci cl (st2 σ 41 i v) τ := rfl
theorem xc_41 {ad : Nat → Nat} {ci cl : ClassId} {σ : MI} {τ : ML} {f : Nat → Int32} : (xw ad ci cl σ τ).set 41 (ad 41, .inl (ci, 7, .inl f)) = xw ad ci cl (st1 σ 41 f) τ := rfl
theorem xa_42 {ad : Nat → Nat} {ci cl : ClassId} {σ : MI} {τ : ML} {i : Nat} {v : Int32} : (xw ad ci cl σ τ).set 42 (ad 42, .inl (ci, 25, .inl (upd (σ 42) i v))) = xw ad ci cl (st2 σ 42 i v) τ := rfl
theorem xc_42 {ad : Nat → Nat} {ci cl : ClassId} {σ : MI} {τ : ML} {f : Nat → Int32} : (xw ad ci cl σ τ).set 42 (ad 42, .inl (ci, 25, .inl f)) = xw ad ci cl (st1 σ 42 f) τ := rfl
theorem xa_43 {ad : Nat → Nat} {ci cl : ClassId} {σ : MI} {τ : ML} {i : Nat} {v : Int32} : (xw ad ci cl σ τ).set 43 (ad 43, .inl (ci, 7, .inl (upd (σ 43) i v))) = xw ad ci cl (st2 σ 43 i v) τ := rfl
theorem xc_43 {ad : Nat → Nat} {ci cl : ClassId} {σ : MI} {τ : ML} {f : Nat → Int32} : (xw ad ci cl σ τ).set 43 (ad 43, .inl (ci, 7, .inl f)) = xw ad ci cl (st1 σ 43 f) τ := rfl
theorem xa_44 {ad : Nat → Nat} {ci cl : ClassId} {σ : MI} {τ : ML} {i : Nat} {v : Int32} : (xw ad ci cl σ τ).set 44 (ad 44, .inl (ci, 7, .inl (upd (σ 44) i v))) = xw ad ci cl (st2 σ 44 i v) τ := rfl
theorem xc_44 {ad : Nat → Nat} {ci cl : ClassId} {σ : MI} {τ : ML} {f : Nat → Int32} : (xw ad ci cl σ τ).set 44 (ad 44, .inl (ci, 7, .inl f)) = xw ad ci cl (st1 σ 44 f) τ := rfl
theorem xa_45 {ad : Nat → Nat} {ci cl : ClassId} {σ : MI} {τ : ML} {i : Nat} {v : Int32} : (xw ad ci cl σ τ).set 45 (ad 45, .inl (ci, 512, .inl (upd (σ 45) i v))) = xw ad ci cl (st2 σ 45 i v) τ := rfl
theorem xc_45 {ad : Nat → Nat} {ci cl : ClassId} {σ : MI} {τ : ML} {f : Nat → Int32} : (xw ad ci cl σ τ).set 45 (ad 45, .inl (ci, 512, .inl f)) = xw ad ci cl (st1 σ 45 f) τ := rfl
theorem xa_46 {ad : Nat → Nat} {ci cl : ClassId} {σ : MI} {τ : ML} {i : Nat} {v : Int32} : (xw ad ci cl σ τ).set 46 (ad 46, .inl (ci, 7, .inl (upd (σ 46) i v))) = xw ad ci cl (st2 σ 46 i v) τ := rfl
theorem xc_46 {ad : Nat → Nat} {ci cl : ClassId} {σ : MI} {τ : ML} {f : Nat → Int32} : (xw ad ci cl σ τ).set 46 (ad 46, .inl (ci, 7, .inl f)) = xw ad ci cl (st1 σ 46 f) τ := rfl
