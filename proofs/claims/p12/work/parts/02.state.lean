/-! the reference's object: its numbers by the field's place, its rows by the field's place, its one row of longs -/
abbrev mST : Type := (Nat → Int32) × (Nat → Nat → Int32) × (Nat → Int64)
def mFs (ad : Nat → Nat) (u : mST) : List Value := [.ref (ad 0), .ref (ad 1), .ref (ad 2), .ref (ad 3), .ref (ad 4), .ref (ad 5), .int (u.1 6), .ref (ad 7), .int (u.1 8), .ref (ad 9), .ref (ad 10), .int (u.1 11), .ref (ad 12), .ref (ad 13), .int (u.1 14), .ref (ad 15), .int (u.1 16), .ref (ad 17), .int (u.1 18), .ref (ad 19), .int (u.1 20), .ref (ad 21), .int (u.1 22), .int (u.1 23), .int (u.1 24), .int (u.1 25), .ref (ad 26), .ref (ad 27), .ref (ad 28), .ref (ad 29), .int (u.1 30), .ref (ad 31), .int (u.1 32), .int (u.1 33), .int (u.1 34), .int (u.1 35), .ref (ad 36), .ref (ad 37), .ref (ad 38), .ref (ad 39), .ref (ad 40), .ref (ad 41), .int (u.1 42), .ref (ad 43), .ref (ad 44), .ref (ad 45), .ref (ad 46), .ref (ad 47), .ref (ad 48), .ref (ad 49), .ref (ad 50), .ref (ad 51), .ref (ad 52), .ref (ad 53), .int (u.1 54), .ref (ad 55), .ref (ad 56), .int (u.1 57), .int (u.1 58), .int (u.1 59), .int (u.1 60), .int (u.1 61), .int (u.1 62), .int (u.1 63), .int (u.1 64), .ref (ad 65), .ref (ad 66), .ref (ad 67), .ref (ad 68), .int (u.1 69), .ref (ad 70), .int (u.1 71), .ref (ad 72), .ref (ad 73), .int (u.1 74), .ref (ad 75), .int (u.1 76), .ref (ad 77), .int (u.1 78), .ref (ad 79), .ref (ad 80), .ref (ad 81), .ref (ad 82), .ref (ad 83), .ref (ad 84), .int (u.1 85), .ref (ad 86), .int (u.1 87), .int (u.1 88), .int (u.1 89), .int (u.1 90), .int (u.1 91), .ref (ad 92), .ref (ad 93), .ref (ad 94), .ref (ad 95), .ref (ad 96), .ref (ad 97), .ref (ad 98), .ref (ad 99), .ref (ad 100), .ref (ad 101), .int (u.1 102), .ref (ad 103), .int (u.1 104), .ref (ad 105), .ref (ad 106), .ref (ad 107), .ref (ad 108), .int (u.1 109), .int (u.1 110), .int (u.1 111), .ref (ad 112), .ref (ad 113), .ref (ad 114), .ref (ad 115), .ref (ad 116), .int (u.1 117), .ref (ad 118), .int (u.1 119), .ref (ad 120), .ref (ad 121), .int (u.1 122), .ref (ad 123), .ref (ad 124), .ref (ad 125), .int (u.1 126), .ref (ad 127), .ref (ad 128), .ref (ad 129), .ref (ad 130), .int (u.1 131), .int (u.1 132), .int (u.1 133), .int (u.1 134), .int (u.1 135), .int (u.1 136), .ref (ad 137), .ref (ad 138), .int (u.1 139), .ref (ad 140), .ref (ad 141), .ref (ad 142), .ref (ad 143), .int (u.1 144), .ref (ad 145), .ref (ad 146), .int (u.1 147), .int (u.1 148)]
def mCl (ca : Nat → ClassId) (h0 : Nat) (ad : Nat → Nat) (u : mST) : va_W := [(h0, .inr (12, mFs ad u)), (ad 0, .inl (ca 0, 452000, .inl (u.2.1 0))), (ad 1, .inl (ca 1, 452000, .inl (u.2.1 1))), (ad 2, .inl (ca 2, 452000, .inl (u.2.1 2))), (ad 3, .inl (ca 3, 452000, .inl (u.2.1 3))), (ad 4, .inl (ca 4, 452000, .inl (u.2.1 4))), (ad 5, .inl (ca 5, 40000, .inr (.inl u.2.2))), (ad 7, .inl (ca 7, 8192, .inl (u.2.1 7))), (ad 9, .inl (ca 9, 252000, .inl (u.2.1 9))), (ad 10, .inl (ca 10, 21000, .inl (u.2.1 10))), (ad 12, .inl (ca 12, 20, .inl (u.2.1 12))), (ad 13, .inl (ca 13, 3000, .inl (u.2.1 13))), (ad 15, .inl (ca 15, 2000, .inl (u.2.1 15))), (ad 17, .inl (ca 17, 12, .inl (u.2.1 17))), (ad 19, .inl (ca 19, 4000, .inl (u.2.1 19))), (ad 21, .inl (ca 21, 200, .inl (u.2.1 21))), (ad 26, .inl (ca 26, 40, .inl (u.2.1 26))), (ad 27, .inl (ca 27, 40, .inl (u.2.1 27))), (ad 28, .inl (ca 28, 40, .inl (u.2.1 28))), (ad 29, .inl (ca 29, 40, .inl (u.2.1 29))), (ad 31, .inl (ca 31, 1100, .inl (u.2.1 31))), (ad 36, .inl (ca 36, 40, .inl (u.2.1 36))), (ad 37, .inl (ca 37, 40, .inl (u.2.1 37))), (ad 38, .inl (ca 38, 240, .inl (u.2.1 38))), (ad 39, .inl (ca 39, 40, .inl (u.2.1 39))), (ad 40, .inl (ca 40, 40, .inl (u.2.1 40))), (ad 41, .inl (ca 41, 40, .inl (u.2.1 41))), (ad 43, .inl (ca 43, 60, .inl (u.2.1 43))), (ad 44, .inl (ca 44, 60, .inl (u.2.1 44))), (ad 45, .inl (ca 45, 60, .inl (u.2.1 45))), (ad 46, .inl (ca 46, 60, .inl (u.2.1 46))), (ad 47, .inl (ca 47, 60, .inl (u.2.1 47))), (ad 48, .inl (ca 48, 60, .inl (u.2.1 48))), (ad 49, .inl (ca 49, 7200, .inl (u.2.1 49))), (ad 50, .inl (ca 50, 60, .inl (u.2.1 50))), (ad 51, .inl (ca 51, 60, .inl (u.2.1 51))), (ad 52, .inl (ca 52, 60, .inl (u.2.1 52))), (ad 53, .inl (ca 53, 60, .inl (u.2.1 53))), (ad 55, .inl (ca 55, 100, .inl (u.2.1 55))), (ad 56, .inl (ca 56, 100, .inl (u.2.1 56))), (ad 65, .inl (ca 65, 200, .inl (u.2.1 65))), (ad 66, .inl (ca 66, 1200, .inl (u.2.1 66))), (ad 67, .inl (ca 67, 1200, .inl (u.2.1 67))), (ad 68, .inl (ca 68, 1200, .inl (u.2.1 68))), (ad 70, .inl (ca 70, 2400, .inl (u.2.1 70))), (ad 72, .inl (ca 72, 400, .inl (u.2.1 72))), (ad 73, .inl (ca 73, 400, .inl (u.2.1 73))), (ad 75, .inl (ca 75, 400, .inl (u.2.1 75))), (ad 77, .inl (ca 77, 130, .inl (u.2.1 77))), (ad 79, .inl (ca 79, 300, .inl (u.2.1 79))), (ad 80, .inl (ca 80, 300, .inl (u.2.1 80))), (ad 81, .inl (ca 81, 300, .inl (u.2.1 81))), (ad 82, .inl (ca 82, 300, .inl (u.2.1 82))), (ad 83, .inl (ca 83, 300, .inl (u.2.1 83))), (ad 84, .inl (ca 84, 300, .inl (u.2.1 84))), (ad 86, .inl (ca 86, 2400, .inl (u.2.1 86))), (ad 92, .inl (ca 92, 60, .inl (u.2.1 92))), (ad 93, .inl (ca 93, 60, .inl (u.2.1 93))), (ad 94, .inl (ca 94, 60, .inl (u.2.1 94))), (ad 95, .inl (ca 95, 60, .inl (u.2.1 95))), (ad 96, .inl (ca 96, 60, .inl (u.2.1 96))), (ad 97, .inl (ca 97, 60, .inl (u.2.1 97))), (ad 98, .inl (ca 98, 60, .inl (u.2.1 98))), (ad 99, .inl (ca 99, 60, .inl (u.2.1 99))), (ad 100, .inl (ca 100, 60, .inl (u.2.1 100))), (ad 101, .inl (ca 101, 60, .inl (u.2.1 101))), (ad 103, .inl (ca 103, 1200, .inl (u.2.1 103))), (ad 105, .inl (ca 105, 7800, .inl (u.2.1 105))), (ad 106, .inl (ca 106, 7800, .inl (u.2.1 106))), (ad 107, .inl (ca 107, 60, .inl (u.2.1 107))), (ad 108, .inl (ca 108, 200, .inl (u.2.1 108))), (ad 112, .inl (ca 112, 800, .inl (u.2.1 112))), (ad 113, .inl (ca 113, 800, .inl (u.2.1 113))), (ad 114, .inl (ca 114, 69000, .inl (u.2.1 114))), (ad 115, .inl (ca 115, 2300, .inl (u.2.1 115))), (ad 116, .inl (ca 116, 2300, .inl (u.2.1 116))), (ad 118, .inl (ca 118, 2300, .inl (u.2.1 118))), (ad 120, .inl (ca 120, 20, .inl (u.2.1 120))), (ad 121, .inl (ca 121, 1200, .inl (u.2.1 121))), (ad 123, .inl (ca 123, 128, .inl (u.2.1 123))), (ad 124, .inl (ca 124, 8192, .inl (u.2.1 124))), (ad 125, .inl (ca 125, 128, .inl (u.2.1 125))), (ad 127, .inl (ca 127, 128, .inl (u.2.1 127))), (ad 128, .inl (ca 128, 8192, .inl (u.2.1 128))), (ad 129, .inl (ca 129, 128, .inl (u.2.1 129))), (ad 130, .inl (ca 130, 130, .inl (u.2.1 130))), (ad 137, .inl (ca 137, 400, .inl (u.2.1 137))), (ad 138, .inl (ca 138, 400, .inl (u.2.1 138))), (ad 140, .inl (ca 140, 6, .inl (u.2.1 140))), (ad 141, .inl (ca 141, 40, .inl (u.2.1 141))), (ad 142, .inl (ca 142, 40, .inl (u.2.1 142))), (ad 143, .inl (ca 143, 40, .inl (u.2.1 143))), (ad 145, .inl (ca 145, 10500, .inl (u.2.1 145))), (ad 146, .inl (ca 146, 350, .inl (u.2.1 146)))]
def mTy (ca : Nat → ClassId) : List (ClassId × FieldType) := [(ca 0, .int), (ca 1, .int), (ca 2, .int), (ca 3, .int), (ca 4, .int), (ca 5, .long), (ca 7, .int), (ca 9, .int), (ca 10, .int), (ca 12, .int), (ca 13, .int), (ca 15, .int), (ca 17, .int), (ca 19, .int), (ca 21, .int), (ca 26, .int), (ca 27, .int), (ca 28, .int), (ca 29, .int), (ca 31, .int), (ca 36, .int), (ca 37, .int), (ca 38, .int), (ca 39, .int), (ca 40, .int), (ca 41, .boolean), (ca 43, .int), (ca 44, .int), (ca 45, .int), (ca 46, .int), (ca 47, .int), (ca 48, .int), (ca 49, .int), (ca 50, .boolean), (ca 51, .boolean), (ca 52, .boolean), (ca 53, .boolean), (ca 55, .int), (ca 56, .int), (ca 65, .int), (ca 66, .int), (ca 67, .int), (ca 68, .int), (ca 70, .int), (ca 72, .int), (ca 73, .int), (ca 75, .int), (ca 77, .int), (ca 79, .int), (ca 80, .int), (ca 81, .int), (ca 82, .int), (ca 83, .int), (ca 84, .boolean), (ca 86, .int), (ca 92, .int), (ca 93, .boolean), (ca 94, .int), (ca 95, .int), (ca 96, .int), (ca 97, .int), (ca 98, .int), (ca 99, .int), (ca 100, .int), (ca 101, .int), (ca 103, .int), (ca 105, .int), (ca 106, .int), (ca 107, .int), (ca 108, .int), (ca 112, .int), (ca 113, .int), (ca 114, .int), (ca 115, .int), (ca 116, .int), (ca 118, .int), (ca 120, .int), (ca 121, .int), (ca 123, .int), (ca 124, .int), (ca 125, .int), (ca 127, .int), (ca 128, .int), (ca 129, .int), (ca 130, .int), (ca 137, .int), (ca 138, .int), (ca 140, .int), (ca 141, .int), (ca 142, .int), (ca 143, .int), (ca 145, .int), (ca 146, .int)]
/-- a number becomes v -/
def mI (u : mST) (k : Nat) (v : Int32) : mST := (va_up u.1 k v, u.2.1, u.2.2)
/-- element i of a row becomes v -/
def mA (u : mST) (k i : Nat) (v : Int32) : mST := (u.1, va_up u.2.1 k (upd (u.2.1 k) i v), u.2.2)
abbrev mWd (D : va_G) (ca : Nat → ClassId) (A : Nat → Prop) (h0 : Nat) (ad : Nat → Nat) (u : mST) (t : State) : Prop := va_P D vwCl (mCl ca h0 ad u) t.heap ∧ va_K D vwCl (mTy ca) t ∧ va_D A (mCl ca h0 ad u)
theorem pl_free {A0 : Nat → Prop} {ws : va_W} {H0 H : Heap} {locs : List Loc} (hD : va_D A0 ws) (hS : va_S A0 H0 H locs) (hA : ∀ q, H0.size ≤ q → A0 q) : ∀ q, va_A ws H.size q → A0 q := by
  intro q h
  rcases h with ⟨k, e, hk⟩ | h
  · exact hD.2 k _ hk
  · exact hA q (Nat.le_trans hS.1 h)
theorem mH_0 {ca : Nat → ClassId} {h0 : Nat} {ad : Nat → Nat} {u : mST} : (mCl ca h0 ad u)[0]? = some (h0, .inr (12, mFs ad u)) := rfl
set_option maxRecDepth 100000 in
theorem mF_0 {ad : Nat → Nat} {u : mST} : (mFs ad u)[0]? = some (.ref (ad 0)) := rfl
set_option maxRecDepth 100000 in
theorem mG_0 {ca : Nat → ClassId} {h0 : Nat} {ad : Nat → Nat} {u : mST} : (mCl ca h0 ad u)[1]? = some (ad 0, .inl (ca 0, 452000, .inl (u.2.1 0))) := rfl
set_option maxRecDepth 100000 in
theorem mSA_0 {ca : Nat → ClassId} {h0 : Nat} {ad : Nat → Nat} {u : mST} {i : Nat} {x : Int32} : (mCl ca h0 ad u).set 1 (ad 0, .inl (ca 0, 452000, .inl (upd (u.2.1 0) i x))) = mCl ca h0 ad (mA u 0 i x) := rfl
set_option maxRecDepth 100000 in
theorem mF_1 {ad : Nat → Nat} {u : mST} : (mFs ad u)[1]? = some (.ref (ad 1)) := rfl
set_option maxRecDepth 100000 in
theorem mG_1 {ca : Nat → ClassId} {h0 : Nat} {ad : Nat → Nat} {u : mST} : (mCl ca h0 ad u)[2]? = some (ad 1, .inl (ca 1, 452000, .inl (u.2.1 1))) := rfl
set_option maxRecDepth 100000 in
theorem mSA_1 {ca : Nat → ClassId} {h0 : Nat} {ad : Nat → Nat} {u : mST} {i : Nat} {x : Int32} : (mCl ca h0 ad u).set 2 (ad 1, .inl (ca 1, 452000, .inl (upd (u.2.1 1) i x))) = mCl ca h0 ad (mA u 1 i x) := rfl
set_option maxRecDepth 100000 in
theorem mF_2 {ad : Nat → Nat} {u : mST} : (mFs ad u)[2]? = some (.ref (ad 2)) := rfl
set_option maxRecDepth 100000 in
theorem mG_2 {ca : Nat → ClassId} {h0 : Nat} {ad : Nat → Nat} {u : mST} : (mCl ca h0 ad u)[3]? = some (ad 2, .inl (ca 2, 452000, .inl (u.2.1 2))) := rfl
set_option maxRecDepth 100000 in
theorem mSA_2 {ca : Nat → ClassId} {h0 : Nat} {ad : Nat → Nat} {u : mST} {i : Nat} {x : Int32} : (mCl ca h0 ad u).set 3 (ad 2, .inl (ca 2, 452000, .inl (upd (u.2.1 2) i x))) = mCl ca h0 ad (mA u 2 i x) := rfl
set_option maxRecDepth 100000 in
theorem mF_3 {ad : Nat → Nat} {u : mST} : (mFs ad u)[3]? = some (.ref (ad 3)) := rfl
set_option maxRecDepth 100000 in
theorem mG_3 {ca : Nat → ClassId} {h0 : Nat} {ad : Nat → Nat} {u : mST} : (mCl ca h0 ad u)[4]? = some (ad 3, .inl (ca 3, 452000, .inl (u.2.1 3))) := rfl
set_option maxRecDepth 100000 in
theorem mSA_3 {ca : Nat → ClassId} {h0 : Nat} {ad : Nat → Nat} {u : mST} {i : Nat} {x : Int32} : (mCl ca h0 ad u).set 4 (ad 3, .inl (ca 3, 452000, .inl (upd (u.2.1 3) i x))) = mCl ca h0 ad (mA u 3 i x) := rfl
set_option maxRecDepth 100000 in
theorem mF_4 {ad : Nat → Nat} {u : mST} : (mFs ad u)[4]? = some (.ref (ad 4)) := rfl
set_option maxRecDepth 100000 in
theorem mG_4 {ca : Nat → ClassId} {h0 : Nat} {ad : Nat → Nat} {u : mST} : (mCl ca h0 ad u)[5]? = some (ad 4, .inl (ca 4, 452000, .inl (u.2.1 4))) := rfl
set_option maxRecDepth 100000 in
theorem mSA_4 {ca : Nat → ClassId} {h0 : Nat} {ad : Nat → Nat} {u : mST} {i : Nat} {x : Int32} : (mCl ca h0 ad u).set 5 (ad 4, .inl (ca 4, 452000, .inl (upd (u.2.1 4) i x))) = mCl ca h0 ad (mA u 4 i x) := rfl
set_option maxRecDepth 100000 in
theorem mF_5 {ad : Nat → Nat} {u : mST} : (mFs ad u)[5]? = some (.ref (ad 5)) := rfl
set_option maxRecDepth 100000 in
theorem mG_5 {ca : Nat → ClassId} {h0 : Nat} {ad : Nat → Nat} {u : mST} : (mCl ca h0 ad u)[6]? = some (ad 5, .inl (ca 5, 40000, .inr (.inl u.2.2))) := rfl
set_option maxRecDepth 100000 in
theorem mF_6 {ad : Nat → Nat} {u : mST} : (mFs ad u)[6]? = some (.int (u.1 6)) := rfl
set_option maxRecDepth 100000 in
theorem mSI_6 {ca : Nat → ClassId} {h0 : Nat} {ad : Nat → Nat} {u : mST} {x : Int32} : (mCl ca h0 ad u).set 0 (h0, .inr (12, (mFs ad u).set 6 (.int x))) = mCl ca h0 ad (mI u 6 x) := rfl
set_option maxRecDepth 100000 in
theorem mF_7 {ad : Nat → Nat} {u : mST} : (mFs ad u)[7]? = some (.ref (ad 7)) := rfl
set_option maxRecDepth 100000 in
theorem mG_7 {ca : Nat → ClassId} {h0 : Nat} {ad : Nat → Nat} {u : mST} : (mCl ca h0 ad u)[7]? = some (ad 7, .inl (ca 7, 8192, .inl (u.2.1 7))) := rfl
set_option maxRecDepth 100000 in
theorem mSA_7 {ca : Nat → ClassId} {h0 : Nat} {ad : Nat → Nat} {u : mST} {i : Nat} {x : Int32} : (mCl ca h0 ad u).set 7 (ad 7, .inl (ca 7, 8192, .inl (upd (u.2.1 7) i x))) = mCl ca h0 ad (mA u 7 i x) := rfl
set_option maxRecDepth 100000 in
theorem mF_8 {ad : Nat → Nat} {u : mST} : (mFs ad u)[8]? = some (.int (u.1 8)) := rfl
set_option maxRecDepth 100000 in
theorem mSI_8 {ca : Nat → ClassId} {h0 : Nat} {ad : Nat → Nat} {u : mST} {x : Int32} : (mCl ca h0 ad u).set 0 (h0, .inr (12, (mFs ad u).set 8 (.int x))) = mCl ca h0 ad (mI u 8 x) := rfl
set_option maxRecDepth 100000 in
theorem mF_9 {ad : Nat → Nat} {u : mST} : (mFs ad u)[9]? = some (.ref (ad 9)) := rfl
set_option maxRecDepth 100000 in
theorem mG_9 {ca : Nat → ClassId} {h0 : Nat} {ad : Nat → Nat} {u : mST} : (mCl ca h0 ad u)[8]? = some (ad 9, .inl (ca 9, 252000, .inl (u.2.1 9))) := rfl
set_option maxRecDepth 100000 in
theorem mSA_9 {ca : Nat → ClassId} {h0 : Nat} {ad : Nat → Nat} {u : mST} {i : Nat} {x : Int32} : (mCl ca h0 ad u).set 8 (ad 9, .inl (ca 9, 252000, .inl (upd (u.2.1 9) i x))) = mCl ca h0 ad (mA u 9 i x) := rfl
set_option maxRecDepth 100000 in
theorem mF_10 {ad : Nat → Nat} {u : mST} : (mFs ad u)[10]? = some (.ref (ad 10)) := rfl
set_option maxRecDepth 100000 in
theorem mG_10 {ca : Nat → ClassId} {h0 : Nat} {ad : Nat → Nat} {u : mST} : (mCl ca h0 ad u)[9]? = some (ad 10, .inl (ca 10, 21000, .inl (u.2.1 10))) := rfl
set_option maxRecDepth 100000 in
theorem mSA_10 {ca : Nat → ClassId} {h0 : Nat} {ad : Nat → Nat} {u : mST} {i : Nat} {x : Int32} : (mCl ca h0 ad u).set 9 (ad 10, .inl (ca 10, 21000, .inl (upd (u.2.1 10) i x))) = mCl ca h0 ad (mA u 10 i x) := rfl
set_option maxRecDepth 100000 in
theorem mF_11 {ad : Nat → Nat} {u : mST} : (mFs ad u)[11]? = some (.int (u.1 11)) := rfl
set_option maxRecDepth 100000 in
theorem mSI_11 {ca : Nat → ClassId} {h0 : Nat} {ad : Nat → Nat} {u : mST} {x : Int32} : (mCl ca h0 ad u).set 0 (h0, .inr (12, (mFs ad u).set 11 (.int x))) = mCl ca h0 ad (mI u 11 x) := rfl
set_option maxRecDepth 100000 in
theorem mF_12 {ad : Nat → Nat} {u : mST} : (mFs ad u)[12]? = some (.ref (ad 12)) := rfl
set_option maxRecDepth 100000 in
theorem mG_12 {ca : Nat → ClassId} {h0 : Nat} {ad : Nat → Nat} {u : mST} : (mCl ca h0 ad u)[10]? = some (ad 12, .inl (ca 12, 20, .inl (u.2.1 12))) := rfl
set_option maxRecDepth 100000 in
theorem mSA_12 {ca : Nat → ClassId} {h0 : Nat} {ad : Nat → Nat} {u : mST} {i : Nat} {x : Int32} : (mCl ca h0 ad u).set 10 (ad 12, .inl (ca 12, 20, .inl (upd (u.2.1 12) i x))) = mCl ca h0 ad (mA u 12 i x) := rfl
set_option maxRecDepth 100000 in
theorem mF_13 {ad : Nat → Nat} {u : mST} : (mFs ad u)[13]? = some (.ref (ad 13)) := rfl
set_option maxRecDepth 100000 in
theorem mG_13 {ca : Nat → ClassId} {h0 : Nat} {ad : Nat → Nat} {u : mST} : (mCl ca h0 ad u)[11]? = some (ad 13, .inl (ca 13, 3000, .inl (u.2.1 13))) := rfl
set_option maxRecDepth 100000 in
theorem mSA_13 {ca : Nat → ClassId} {h0 : Nat} {ad : Nat → Nat} {u : mST} {i : Nat} {x : Int32} : (mCl ca h0 ad u).set 11 (ad 13, .inl (ca 13, 3000, .inl (upd (u.2.1 13) i x))) = mCl ca h0 ad (mA u 13 i x) := rfl
set_option maxRecDepth 100000 in
theorem mF_14 {ad : Nat → Nat} {u : mST} : (mFs ad u)[14]? = some (.int (u.1 14)) := rfl
set_option maxRecDepth 100000 in
theorem mSI_14 {ca : Nat → ClassId} {h0 : Nat} {ad : Nat → Nat} {u : mST} {x : Int32} : (mCl ca h0 ad u).set 0 (h0, .inr (12, (mFs ad u).set 14 (.int x))) = mCl ca h0 ad (mI u 14 x) := rfl
set_option maxRecDepth 100000 in
theorem mF_15 {ad : Nat → Nat} {u : mST} : (mFs ad u)[15]? = some (.ref (ad 15)) := rfl
set_option maxRecDepth 100000 in
theorem mG_15 {ca : Nat → ClassId} {h0 : Nat} {ad : Nat → Nat} {u : mST} : (mCl ca h0 ad u)[12]? = some (ad 15, .inl (ca 15, 2000, .inl (u.2.1 15))) := rfl
set_option maxRecDepth 100000 in
theorem mSA_15 {ca : Nat → ClassId} {h0 : Nat} {ad : Nat → Nat} {u : mST} {i : Nat} {x : Int32} : (mCl ca h0 ad u).set 12 (ad 15, .inl (ca 15, 2000, .inl (upd (u.2.1 15) i x))) = mCl ca h0 ad (mA u 15 i x) := rfl
set_option maxRecDepth 100000 in
theorem mF_16 {ad : Nat → Nat} {u : mST} : (mFs ad u)[16]? = some (.int (u.1 16)) := rfl
set_option maxRecDepth 100000 in
theorem mSI_16 {ca : Nat → ClassId} {h0 : Nat} {ad : Nat → Nat} {u : mST} {x : Int32} : (mCl ca h0 ad u).set 0 (h0, .inr (12, (mFs ad u).set 16 (.int x))) = mCl ca h0 ad (mI u 16 x) := rfl
set_option maxRecDepth 100000 in
theorem mF_17 {ad : Nat → Nat} {u : mST} : (mFs ad u)[17]? = some (.ref (ad 17)) := rfl
set_option maxRecDepth 100000 in
theorem mG_17 {ca : Nat → ClassId} {h0 : Nat} {ad : Nat → Nat} {u : mST} : (mCl ca h0 ad u)[13]? = some (ad 17, .inl (ca 17, 12, .inl (u.2.1 17))) := rfl
set_option maxRecDepth 100000 in
theorem mSA_17 {ca : Nat → ClassId} {h0 : Nat} {ad : Nat → Nat} {u : mST} {i : Nat} {x : Int32} : (mCl ca h0 ad u).set 13 (ad 17, .inl (ca 17, 12, .inl (upd (u.2.1 17) i x))) = mCl ca h0 ad (mA u 17 i x) := rfl
set_option maxRecDepth 100000 in
theorem mF_18 {ad : Nat → Nat} {u : mST} : (mFs ad u)[18]? = some (.int (u.1 18)) := rfl
set_option maxRecDepth 100000 in
theorem mSI_18 {ca : Nat → ClassId} {h0 : Nat} {ad : Nat → Nat} {u : mST} {x : Int32} : (mCl ca h0 ad u).set 0 (h0, .inr (12, (mFs ad u).set 18 (.int x))) = mCl ca h0 ad (mI u 18 x) := rfl
set_option maxRecDepth 100000 in
theorem mF_19 {ad : Nat → Nat} {u : mST} : (mFs ad u)[19]? = some (.ref (ad 19)) := rfl
set_option maxRecDepth 100000 in
theorem mG_19 {ca : Nat → ClassId} {h0 : Nat} {ad : Nat → Nat} {u : mST} : (mCl ca h0 ad u)[14]? = some (ad 19, .inl (ca 19, 4000, .inl (u.2.1 19))) := rfl
set_option maxRecDepth 100000 in
theorem mSA_19 {ca : Nat → ClassId} {h0 : Nat} {ad : Nat → Nat} {u : mST} {i : Nat} {x : Int32} : (mCl ca h0 ad u).set 14 (ad 19, .inl (ca 19, 4000, .inl (upd (u.2.1 19) i x))) = mCl ca h0 ad (mA u 19 i x) := rfl
set_option maxRecDepth 100000 in
theorem mF_20 {ad : Nat → Nat} {u : mST} : (mFs ad u)[20]? = some (.int (u.1 20)) := rfl
set_option maxRecDepth 100000 in
theorem mSI_20 {ca : Nat → ClassId} {h0 : Nat} {ad : Nat → Nat} {u : mST} {x : Int32} : (mCl ca h0 ad u).set 0 (h0, .inr (12, (mFs ad u).set 20 (.int x))) = mCl ca h0 ad (mI u 20 x) := rfl
set_option maxRecDepth 100000 in
theorem mF_21 {ad : Nat → Nat} {u : mST} : (mFs ad u)[21]? = some (.ref (ad 21)) := rfl
set_option maxRecDepth 100000 in
theorem mG_21 {ca : Nat → ClassId} {h0 : Nat} {ad : Nat → Nat} {u : mST} : (mCl ca h0 ad u)[15]? = some (ad 21, .inl (ca 21, 200, .inl (u.2.1 21))) := rfl
set_option maxRecDepth 100000 in
theorem mSA_21 {ca : Nat → ClassId} {h0 : Nat} {ad : Nat → Nat} {u : mST} {i : Nat} {x : Int32} : (mCl ca h0 ad u).set 15 (ad 21, .inl (ca 21, 200, .inl (upd (u.2.1 21) i x))) = mCl ca h0 ad (mA u 21 i x) := rfl
set_option maxRecDepth 100000 in
theorem mF_22 {ad : Nat → Nat} {u : mST} : (mFs ad u)[22]? = some (.int (u.1 22)) := rfl
set_option maxRecDepth 100000 in
theorem mSI_22 {ca : Nat → ClassId} {h0 : Nat} {ad : Nat → Nat} {u : mST} {x : Int32} : (mCl ca h0 ad u).set 0 (h0, .inr (12, (mFs ad u).set 22 (.int x))) = mCl ca h0 ad (mI u 22 x) := rfl
set_option maxRecDepth 100000 in
theorem mF_23 {ad : Nat → Nat} {u : mST} : (mFs ad u)[23]? = some (.int (u.1 23)) := rfl
set_option maxRecDepth 100000 in
theorem mSI_23 {ca : Nat → ClassId} {h0 : Nat} {ad : Nat → Nat} {u : mST} {x : Int32} : (mCl ca h0 ad u).set 0 (h0, .inr (12, (mFs ad u).set 23 (.int x))) = mCl ca h0 ad (mI u 23 x) := rfl
set_option maxRecDepth 100000 in
theorem mF_24 {ad : Nat → Nat} {u : mST} : (mFs ad u)[24]? = some (.int (u.1 24)) := rfl
set_option maxRecDepth 100000 in
theorem mSI_24 {ca : Nat → ClassId} {h0 : Nat} {ad : Nat → Nat} {u : mST} {x : Int32} : (mCl ca h0 ad u).set 0 (h0, .inr (12, (mFs ad u).set 24 (.int x))) = mCl ca h0 ad (mI u 24 x) := rfl
set_option maxRecDepth 100000 in
theorem mF_25 {ad : Nat → Nat} {u : mST} : (mFs ad u)[25]? = some (.int (u.1 25)) := rfl
set_option maxRecDepth 100000 in
theorem mSI_25 {ca : Nat → ClassId} {h0 : Nat} {ad : Nat → Nat} {u : mST} {x : Int32} : (mCl ca h0 ad u).set 0 (h0, .inr (12, (mFs ad u).set 25 (.int x))) = mCl ca h0 ad (mI u 25 x) := rfl
set_option maxRecDepth 100000 in
theorem mF_26 {ad : Nat → Nat} {u : mST} : (mFs ad u)[26]? = some (.ref (ad 26)) := rfl
set_option maxRecDepth 100000 in
theorem mG_26 {ca : Nat → ClassId} {h0 : Nat} {ad : Nat → Nat} {u : mST} : (mCl ca h0 ad u)[16]? = some (ad 26, .inl (ca 26, 40, .inl (u.2.1 26))) := rfl
set_option maxRecDepth 100000 in
theorem mSA_26 {ca : Nat → ClassId} {h0 : Nat} {ad : Nat → Nat} {u : mST} {i : Nat} {x : Int32} : (mCl ca h0 ad u).set 16 (ad 26, .inl (ca 26, 40, .inl (upd (u.2.1 26) i x))) = mCl ca h0 ad (mA u 26 i x) := rfl
set_option maxRecDepth 100000 in
theorem mF_27 {ad : Nat → Nat} {u : mST} : (mFs ad u)[27]? = some (.ref (ad 27)) := rfl
set_option maxRecDepth 100000 in
theorem mG_27 {ca : Nat → ClassId} {h0 : Nat} {ad : Nat → Nat} {u : mST} : (mCl ca h0 ad u)[17]? = some (ad 27, .inl (ca 27, 40, .inl (u.2.1 27))) := rfl
set_option maxRecDepth 100000 in
theorem mSA_27 {ca : Nat → ClassId} {h0 : Nat} {ad : Nat → Nat} {u : mST} {i : Nat} {x : Int32} : (mCl ca h0 ad u).set 17 (ad 27, .inl (ca 27, 40, .inl (upd (u.2.1 27) i x))) = mCl ca h0 ad (mA u 27 i x) := rfl
set_option maxRecDepth 100000 in
theorem mF_28 {ad : Nat → Nat} {u : mST} : (mFs ad u)[28]? = some (.ref (ad 28)) := rfl
set_option maxRecDepth 100000 in
theorem mG_28 {ca : Nat → ClassId} {h0 : Nat} {ad : Nat → Nat} {u : mST} : (mCl ca h0 ad u)[18]? = some (ad 28, .inl (ca 28, 40, .inl (u.2.1 28))) := rfl
set_option maxRecDepth 100000 in
theorem mSA_28 {ca : Nat → ClassId} {h0 : Nat} {ad : Nat → Nat} {u : mST} {i : Nat} {x : Int32} : (mCl ca h0 ad u).set 18 (ad 28, .inl (ca 28, 40, .inl (upd (u.2.1 28) i x))) = mCl ca h0 ad (mA u 28 i x) := rfl
set_option maxRecDepth 100000 in
theorem mF_29 {ad : Nat → Nat} {u : mST} : (mFs ad u)[29]? = some (.ref (ad 29)) := rfl
set_option maxRecDepth 100000 in
theorem mG_29 {ca : Nat → ClassId} {h0 : Nat} {ad : Nat → Nat} {u : mST} : (mCl ca h0 ad u)[19]? = some (ad 29, .inl (ca 29, 40, .inl (u.2.1 29))) := rfl
set_option maxRecDepth 100000 in
theorem mSA_29 {ca : Nat → ClassId} {h0 : Nat} {ad : Nat → Nat} {u : mST} {i : Nat} {x : Int32} : (mCl ca h0 ad u).set 19 (ad 29, .inl (ca 29, 40, .inl (upd (u.2.1 29) i x))) = mCl ca h0 ad (mA u 29 i x) := rfl
set_option maxRecDepth 100000 in
theorem mF_30 {ad : Nat → Nat} {u : mST} : (mFs ad u)[30]? = some (.int (u.1 30)) := rfl
set_option maxRecDepth 100000 in
theorem mSI_30 {ca : Nat → ClassId} {h0 : Nat} {ad : Nat → Nat} {u : mST} {x : Int32} : (mCl ca h0 ad u).set 0 (h0, .inr (12, (mFs ad u).set 30 (.int x))) = mCl ca h0 ad (mI u 30 x) := rfl
set_option maxRecDepth 100000 in
theorem mF_31 {ad : Nat → Nat} {u : mST} : (mFs ad u)[31]? = some (.ref (ad 31)) := rfl
set_option maxRecDepth 100000 in
theorem mG_31 {ca : Nat → ClassId} {h0 : Nat} {ad : Nat → Nat} {u : mST} : (mCl ca h0 ad u)[20]? = some (ad 31, .inl (ca 31, 1100, .inl (u.2.1 31))) := rfl
set_option maxRecDepth 100000 in
theorem mSA_31 {ca : Nat → ClassId} {h0 : Nat} {ad : Nat → Nat} {u : mST} {i : Nat} {x : Int32} : (mCl ca h0 ad u).set 20 (ad 31, .inl (ca 31, 1100, .inl (upd (u.2.1 31) i x))) = mCl ca h0 ad (mA u 31 i x) := rfl
set_option maxRecDepth 100000 in
theorem mF_32 {ad : Nat → Nat} {u : mST} : (mFs ad u)[32]? = some (.int (u.1 32)) := rfl
set_option maxRecDepth 100000 in
theorem mSI_32 {ca : Nat → ClassId} {h0 : Nat} {ad : Nat → Nat} {u : mST} {x : Int32} : (mCl ca h0 ad u).set 0 (h0, .inr (12, (mFs ad u).set 32 (.int x))) = mCl ca h0 ad (mI u 32 x) := rfl
set_option maxRecDepth 100000 in
theorem mF_33 {ad : Nat → Nat} {u : mST} : (mFs ad u)[33]? = some (.int (u.1 33)) := rfl
set_option maxRecDepth 100000 in
theorem mSI_33 {ca : Nat → ClassId} {h0 : Nat} {ad : Nat → Nat} {u : mST} {x : Int32} : (mCl ca h0 ad u).set 0 (h0, .inr (12, (mFs ad u).set 33 (.int x))) = mCl ca h0 ad (mI u 33 x) := rfl
set_option maxRecDepth 100000 in
theorem mF_34 {ad : Nat → Nat} {u : mST} : (mFs ad u)[34]? = some (.int (u.1 34)) := rfl
set_option maxRecDepth 100000 in
theorem mSI_34 {ca : Nat → ClassId} {h0 : Nat} {ad : Nat → Nat} {u : mST} {x : Int32} : (mCl ca h0 ad u).set 0 (h0, .inr (12, (mFs ad u).set 34 (.int x))) = mCl ca h0 ad (mI u 34 x) := rfl
set_option maxRecDepth 100000 in
theorem mF_35 {ad : Nat → Nat} {u : mST} : (mFs ad u)[35]? = some (.int (u.1 35)) := rfl
set_option maxRecDepth 100000 in
theorem mSI_35 {ca : Nat → ClassId} {h0 : Nat} {ad : Nat → Nat} {u : mST} {x : Int32} : (mCl ca h0 ad u).set 0 (h0, .inr (12, (mFs ad u).set 35 (.int x))) = mCl ca h0 ad (mI u 35 x) := rfl
set_option maxRecDepth 100000 in
theorem mF_36 {ad : Nat → Nat} {u : mST} : (mFs ad u)[36]? = some (.ref (ad 36)) := rfl
set_option maxRecDepth 100000 in
theorem mG_36 {ca : Nat → ClassId} {h0 : Nat} {ad : Nat → Nat} {u : mST} : (mCl ca h0 ad u)[21]? = some (ad 36, .inl (ca 36, 40, .inl (u.2.1 36))) := rfl
set_option maxRecDepth 100000 in
theorem mSA_36 {ca : Nat → ClassId} {h0 : Nat} {ad : Nat → Nat} {u : mST} {i : Nat} {x : Int32} : (mCl ca h0 ad u).set 21 (ad 36, .inl (ca 36, 40, .inl (upd (u.2.1 36) i x))) = mCl ca h0 ad (mA u 36 i x) := rfl
set_option maxRecDepth 100000 in
theorem mF_37 {ad : Nat → Nat} {u : mST} : (mFs ad u)[37]? = some (.ref (ad 37)) := rfl
set_option maxRecDepth 100000 in
theorem mG_37 {ca : Nat → ClassId} {h0 : Nat} {ad : Nat → Nat} {u : mST} : (mCl ca h0 ad u)[22]? = some (ad 37, .inl (ca 37, 40, .inl (u.2.1 37))) := rfl
set_option maxRecDepth 100000 in
theorem mSA_37 {ca : Nat → ClassId} {h0 : Nat} {ad : Nat → Nat} {u : mST} {i : Nat} {x : Int32} : (mCl ca h0 ad u).set 22 (ad 37, .inl (ca 37, 40, .inl (upd (u.2.1 37) i x))) = mCl ca h0 ad (mA u 37 i x) := rfl
set_option maxRecDepth 100000 in
theorem mF_38 {ad : Nat → Nat} {u : mST} : (mFs ad u)[38]? = some (.ref (ad 38)) := rfl
set_option maxRecDepth 100000 in
theorem mG_38 {ca : Nat → ClassId} {h0 : Nat} {ad : Nat → Nat} {u : mST} : (mCl ca h0 ad u)[23]? = some (ad 38, .inl (ca 38, 240, .inl (u.2.1 38))) := rfl
set_option maxRecDepth 100000 in
theorem mSA_38 {ca : Nat → ClassId} {h0 : Nat} {ad : Nat → Nat} {u : mST} {i : Nat} {x : Int32} : (mCl ca h0 ad u).set 23 (ad 38, .inl (ca 38, 240, .inl (upd (u.2.1 38) i x))) = mCl ca h0 ad (mA u 38 i x) := rfl
set_option maxRecDepth 100000 in
theorem mF_39 {ad : Nat → Nat} {u : mST} : (mFs ad u)[39]? = some (.ref (ad 39)) := rfl
set_option maxRecDepth 100000 in
theorem mG_39 {ca : Nat → ClassId} {h0 : Nat} {ad : Nat → Nat} {u : mST} : (mCl ca h0 ad u)[24]? = some (ad 39, .inl (ca 39, 40, .inl (u.2.1 39))) := rfl
set_option maxRecDepth 100000 in
theorem mSA_39 {ca : Nat → ClassId} {h0 : Nat} {ad : Nat → Nat} {u : mST} {i : Nat} {x : Int32} : (mCl ca h0 ad u).set 24 (ad 39, .inl (ca 39, 40, .inl (upd (u.2.1 39) i x))) = mCl ca h0 ad (mA u 39 i x) := rfl
set_option maxRecDepth 100000 in
theorem mF_40 {ad : Nat → Nat} {u : mST} : (mFs ad u)[40]? = some (.ref (ad 40)) := rfl
set_option maxRecDepth 100000 in
theorem mG_40 {ca : Nat → ClassId} {h0 : Nat} {ad : Nat → Nat} {u : mST} : (mCl ca h0 ad u)[25]? = some (ad 40, .inl (ca 40, 40, .inl (u.2.1 40))) := rfl
set_option maxRecDepth 100000 in
theorem mSA_40 {ca : Nat → ClassId} {h0 : Nat} {ad : Nat → Nat} {u : mST} {i : Nat} {x : Int32} : (mCl ca h0 ad u).set 25 (ad 40, .inl (ca 40, 40, .inl (upd (u.2.1 40) i x))) = mCl ca h0 ad (mA u 40 i x) := rfl
set_option maxRecDepth 100000 in
theorem mF_41 {ad : Nat → Nat} {u : mST} : (mFs ad u)[41]? = some (.ref (ad 41)) := rfl
set_option maxRecDepth 100000 in
theorem mG_41 {ca : Nat → ClassId} {h0 : Nat} {ad : Nat → Nat} {u : mST} : (mCl ca h0 ad u)[26]? = some (ad 41, .inl (ca 41, 40, .inl (u.2.1 41))) := rfl
set_option maxRecDepth 100000 in
theorem mSA_41 {ca : Nat → ClassId} {h0 : Nat} {ad : Nat → Nat} {u : mST} {i : Nat} {x : Int32} : (mCl ca h0 ad u).set 26 (ad 41, .inl (ca 41, 40, .inl (upd (u.2.1 41) i x))) = mCl ca h0 ad (mA u 41 i x) := rfl
set_option maxRecDepth 100000 in
theorem mF_42 {ad : Nat → Nat} {u : mST} : (mFs ad u)[42]? = some (.int (u.1 42)) := rfl
set_option maxRecDepth 100000 in
theorem mSI_42 {ca : Nat → ClassId} {h0 : Nat} {ad : Nat → Nat} {u : mST} {x : Int32} : (mCl ca h0 ad u).set 0 (h0, .inr (12, (mFs ad u).set 42 (.int x))) = mCl ca h0 ad (mI u 42 x) := rfl
set_option maxRecDepth 100000 in
theorem mF_43 {ad : Nat → Nat} {u : mST} : (mFs ad u)[43]? = some (.ref (ad 43)) := rfl
set_option maxRecDepth 100000 in
theorem mG_43 {ca : Nat → ClassId} {h0 : Nat} {ad : Nat → Nat} {u : mST} : (mCl ca h0 ad u)[27]? = some (ad 43, .inl (ca 43, 60, .inl (u.2.1 43))) := rfl
set_option maxRecDepth 100000 in
theorem mSA_43 {ca : Nat → ClassId} {h0 : Nat} {ad : Nat → Nat} {u : mST} {i : Nat} {x : Int32} : (mCl ca h0 ad u).set 27 (ad 43, .inl (ca 43, 60, .inl (upd (u.2.1 43) i x))) = mCl ca h0 ad (mA u 43 i x) := rfl
set_option maxRecDepth 100000 in
theorem mF_44 {ad : Nat → Nat} {u : mST} : (mFs ad u)[44]? = some (.ref (ad 44)) := rfl
set_option maxRecDepth 100000 in
theorem mG_44 {ca : Nat → ClassId} {h0 : Nat} {ad : Nat → Nat} {u : mST} : (mCl ca h0 ad u)[28]? = some (ad 44, .inl (ca 44, 60, .inl (u.2.1 44))) := rfl
set_option maxRecDepth 100000 in
theorem mSA_44 {ca : Nat → ClassId} {h0 : Nat} {ad : Nat → Nat} {u : mST} {i : Nat} {x : Int32} : (mCl ca h0 ad u).set 28 (ad 44, .inl (ca 44, 60, .inl (upd (u.2.1 44) i x))) = mCl ca h0 ad (mA u 44 i x) := rfl
set_option maxRecDepth 100000 in
theorem mF_45 {ad : Nat → Nat} {u : mST} : (mFs ad u)[45]? = some (.ref (ad 45)) := rfl
set_option maxRecDepth 100000 in
theorem mG_45 {ca : Nat → ClassId} {h0 : Nat} {ad : Nat → Nat} {u : mST} : (mCl ca h0 ad u)[29]? = some (ad 45, .inl (ca 45, 60, .inl (u.2.1 45))) := rfl
set_option maxRecDepth 100000 in
theorem mSA_45 {ca : Nat → ClassId} {h0 : Nat} {ad : Nat → Nat} {u : mST} {i : Nat} {x : Int32} : (mCl ca h0 ad u).set 29 (ad 45, .inl (ca 45, 60, .inl (upd (u.2.1 45) i x))) = mCl ca h0 ad (mA u 45 i x) := rfl
set_option maxRecDepth 100000 in
theorem mF_46 {ad : Nat → Nat} {u : mST} : (mFs ad u)[46]? = some (.ref (ad 46)) := rfl
set_option maxRecDepth 100000 in
theorem mG_46 {ca : Nat → ClassId} {h0 : Nat} {ad : Nat → Nat} {u : mST} : (mCl ca h0 ad u)[30]? = some (ad 46, .inl (ca 46, 60, .inl (u.2.1 46))) := rfl
set_option maxRecDepth 100000 in
theorem mSA_46 {ca : Nat → ClassId} {h0 : Nat} {ad : Nat → Nat} {u : mST} {i : Nat} {x : Int32} : (mCl ca h0 ad u).set 30 (ad 46, .inl (ca 46, 60, .inl (upd (u.2.1 46) i x))) = mCl ca h0 ad (mA u 46 i x) := rfl
set_option maxRecDepth 100000 in
theorem mF_47 {ad : Nat → Nat} {u : mST} : (mFs ad u)[47]? = some (.ref (ad 47)) := rfl
set_option maxRecDepth 100000 in
theorem mG_47 {ca : Nat → ClassId} {h0 : Nat} {ad : Nat → Nat} {u : mST} : (mCl ca h0 ad u)[31]? = some (ad 47, .inl (ca 47, 60, .inl (u.2.1 47))) := rfl
set_option maxRecDepth 100000 in
theorem mSA_47 {ca : Nat → ClassId} {h0 : Nat} {ad : Nat → Nat} {u : mST} {i : Nat} {x : Int32} : (mCl ca h0 ad u).set 31 (ad 47, .inl (ca 47, 60, .inl (upd (u.2.1 47) i x))) = mCl ca h0 ad (mA u 47 i x) := rfl
set_option maxRecDepth 100000 in
theorem mF_48 {ad : Nat → Nat} {u : mST} : (mFs ad u)[48]? = some (.ref (ad 48)) := rfl
set_option maxRecDepth 100000 in
theorem mG_48 {ca : Nat → ClassId} {h0 : Nat} {ad : Nat → Nat} {u : mST} : (mCl ca h0 ad u)[32]? = some (ad 48, .inl (ca 48, 60, .inl (u.2.1 48))) := rfl
set_option maxRecDepth 100000 in
theorem mSA_48 {ca : Nat → ClassId} {h0 : Nat} {ad : Nat → Nat} {u : mST} {i : Nat} {x : Int32} : (mCl ca h0 ad u).set 32 (ad 48, .inl (ca 48, 60, .inl (upd (u.2.1 48) i x))) = mCl ca h0 ad (mA u 48 i x) := rfl
set_option maxRecDepth 100000 in
theorem mF_49 {ad : Nat → Nat} {u : mST} : (mFs ad u)[49]? = some (.ref (ad 49)) := rfl
set_option maxRecDepth 100000 in
theorem mG_49 {ca : Nat → ClassId} {h0 : Nat} {ad : Nat → Nat} {u : mST} : (mCl ca h0 ad u)[33]? = some (ad 49, .inl (ca 49, 7200, .inl (u.2.1 49))) := rfl
set_option maxRecDepth 100000 in
theorem mSA_49 {ca : Nat → ClassId} {h0 : Nat} {ad : Nat → Nat} {u : mST} {i : Nat} {x : Int32} : (mCl ca h0 ad u).set 33 (ad 49, .inl (ca 49, 7200, .inl (upd (u.2.1 49) i x))) = mCl ca h0 ad (mA u 49 i x) := rfl
set_option maxRecDepth 100000 in
theorem mF_50 {ad : Nat → Nat} {u : mST} : (mFs ad u)[50]? = some (.ref (ad 50)) := rfl
set_option maxRecDepth 100000 in
theorem mG_50 {ca : Nat → ClassId} {h0 : Nat} {ad : Nat → Nat} {u : mST} : (mCl ca h0 ad u)[34]? = some (ad 50, .inl (ca 50, 60, .inl (u.2.1 50))) := rfl
set_option maxRecDepth 100000 in
theorem mSA_50 {ca : Nat → ClassId} {h0 : Nat} {ad : Nat → Nat} {u : mST} {i : Nat} {x : Int32} : (mCl ca h0 ad u).set 34 (ad 50, .inl (ca 50, 60, .inl (upd (u.2.1 50) i x))) = mCl ca h0 ad (mA u 50 i x) := rfl
set_option maxRecDepth 100000 in
theorem mF_51 {ad : Nat → Nat} {u : mST} : (mFs ad u)[51]? = some (.ref (ad 51)) := rfl
set_option maxRecDepth 100000 in
theorem mG_51 {ca : Nat → ClassId} {h0 : Nat} {ad : Nat → Nat} {u : mST} : (mCl ca h0 ad u)[35]? = some (ad 51, .inl (ca 51, 60, .inl (u.2.1 51))) := rfl
set_option maxRecDepth 100000 in
theorem mSA_51 {ca : Nat → ClassId} {h0 : Nat} {ad : Nat → Nat} {u : mST} {i : Nat} {x : Int32} : (mCl ca h0 ad u).set 35 (ad 51, .inl (ca 51, 60, .inl (upd (u.2.1 51) i x))) = mCl ca h0 ad (mA u 51 i x) := rfl
set_option maxRecDepth 100000 in
theorem mF_52 {ad : Nat → Nat} {u : mST} : (mFs ad u)[52]? = some (.ref (ad 52)) := rfl
set_option maxRecDepth 100000 in
theorem mG_52 {ca : Nat → ClassId} {h0 : Nat} {ad : Nat → Nat} {u : mST} : (mCl ca h0 ad u)[36]? = some (ad 52, .inl (ca 52, 60, .inl (u.2.1 52))) := rfl
set_option maxRecDepth 100000 in
theorem mSA_52 {ca : Nat → ClassId} {h0 : Nat} {ad : Nat → Nat} {u : mST} {i : Nat} {x : Int32} : (mCl ca h0 ad u).set 36 (ad 52, .inl (ca 52, 60, .inl (upd (u.2.1 52) i x))) = mCl ca h0 ad (mA u 52 i x) := rfl
set_option maxRecDepth 100000 in
theorem mF_53 {ad : Nat → Nat} {u : mST} : (mFs ad u)[53]? = some (.ref (ad 53)) := rfl
set_option maxRecDepth 100000 in
theorem mG_53 {ca : Nat → ClassId} {h0 : Nat} {ad : Nat → Nat} {u : mST} : (mCl ca h0 ad u)[37]? = some (ad 53, .inl (ca 53, 60, .inl (u.2.1 53))) := rfl
set_option maxRecDepth 100000 in
theorem mSA_53 {ca : Nat → ClassId} {h0 : Nat} {ad : Nat → Nat} {u : mST} {i : Nat} {x : Int32} : (mCl ca h0 ad u).set 37 (ad 53, .inl (ca 53, 60, .inl (upd (u.2.1 53) i x))) = mCl ca h0 ad (mA u 53 i x) := rfl
set_option maxRecDepth 100000 in
theorem mF_54 {ad : Nat → Nat} {u : mST} : (mFs ad u)[54]? = some (.int (u.1 54)) := rfl
set_option maxRecDepth 100000 in
theorem mSI_54 {ca : Nat → ClassId} {h0 : Nat} {ad : Nat → Nat} {u : mST} {x : Int32} : (mCl ca h0 ad u).set 0 (h0, .inr (12, (mFs ad u).set 54 (.int x))) = mCl ca h0 ad (mI u 54 x) := rfl
set_option maxRecDepth 100000 in
theorem mF_55 {ad : Nat → Nat} {u : mST} : (mFs ad u)[55]? = some (.ref (ad 55)) := rfl
set_option maxRecDepth 100000 in
theorem mG_55 {ca : Nat → ClassId} {h0 : Nat} {ad : Nat → Nat} {u : mST} : (mCl ca h0 ad u)[38]? = some (ad 55, .inl (ca 55, 100, .inl (u.2.1 55))) := rfl
set_option maxRecDepth 100000 in
theorem mSA_55 {ca : Nat → ClassId} {h0 : Nat} {ad : Nat → Nat} {u : mST} {i : Nat} {x : Int32} : (mCl ca h0 ad u).set 38 (ad 55, .inl (ca 55, 100, .inl (upd (u.2.1 55) i x))) = mCl ca h0 ad (mA u 55 i x) := rfl
set_option maxRecDepth 100000 in
theorem mF_56 {ad : Nat → Nat} {u : mST} : (mFs ad u)[56]? = some (.ref (ad 56)) := rfl
set_option maxRecDepth 100000 in
theorem mG_56 {ca : Nat → ClassId} {h0 : Nat} {ad : Nat → Nat} {u : mST} : (mCl ca h0 ad u)[39]? = some (ad 56, .inl (ca 56, 100, .inl (u.2.1 56))) := rfl
set_option maxRecDepth 100000 in
theorem mSA_56 {ca : Nat → ClassId} {h0 : Nat} {ad : Nat → Nat} {u : mST} {i : Nat} {x : Int32} : (mCl ca h0 ad u).set 39 (ad 56, .inl (ca 56, 100, .inl (upd (u.2.1 56) i x))) = mCl ca h0 ad (mA u 56 i x) := rfl
set_option maxRecDepth 100000 in
theorem mF_57 {ad : Nat → Nat} {u : mST} : (mFs ad u)[57]? = some (.int (u.1 57)) := rfl
set_option maxRecDepth 100000 in
theorem mSI_57 {ca : Nat → ClassId} {h0 : Nat} {ad : Nat → Nat} {u : mST} {x : Int32} : (mCl ca h0 ad u).set 0 (h0, .inr (12, (mFs ad u).set 57 (.int x))) = mCl ca h0 ad (mI u 57 x) := rfl
set_option maxRecDepth 100000 in
theorem mF_58 {ad : Nat → Nat} {u : mST} : (mFs ad u)[58]? = some (.int (u.1 58)) := rfl
set_option maxRecDepth 100000 in
theorem mSI_58 {ca : Nat → ClassId} {h0 : Nat} {ad : Nat → Nat} {u : mST} {x : Int32} : (mCl ca h0 ad u).set 0 (h0, .inr (12, (mFs ad u).set 58 (.int x))) = mCl ca h0 ad (mI u 58 x) := rfl
set_option maxRecDepth 100000 in
theorem mF_59 {ad : Nat → Nat} {u : mST} : (mFs ad u)[59]? = some (.int (u.1 59)) := rfl
set_option maxRecDepth 100000 in
theorem mSI_59 {ca : Nat → ClassId} {h0 : Nat} {ad : Nat → Nat} {u : mST} {x : Int32} : (mCl ca h0 ad u).set 0 (h0, .inr (12, (mFs ad u).set 59 (.int x))) = mCl ca h0 ad (mI u 59 x) := rfl
set_option maxRecDepth 100000 in
theorem mF_60 {ad : Nat → Nat} {u : mST} : (mFs ad u)[60]? = some (.int (u.1 60)) := rfl
set_option maxRecDepth 100000 in
theorem mSI_60 {ca : Nat → ClassId} {h0 : Nat} {ad : Nat → Nat} {u : mST} {x : Int32} : (mCl ca h0 ad u).set 0 (h0, .inr (12, (mFs ad u).set 60 (.int x))) = mCl ca h0 ad (mI u 60 x) := rfl
set_option maxRecDepth 100000 in
theorem mF_61 {ad : Nat → Nat} {u : mST} : (mFs ad u)[61]? = some (.int (u.1 61)) := rfl
set_option maxRecDepth 100000 in
theorem mSI_61 {ca : Nat → ClassId} {h0 : Nat} {ad : Nat → Nat} {u : mST} {x : Int32} : (mCl ca h0 ad u).set 0 (h0, .inr (12, (mFs ad u).set 61 (.int x))) = mCl ca h0 ad (mI u 61 x) := rfl
set_option maxRecDepth 100000 in
theorem mF_62 {ad : Nat → Nat} {u : mST} : (mFs ad u)[62]? = some (.int (u.1 62)) := rfl
set_option maxRecDepth 100000 in
theorem mSI_62 {ca : Nat → ClassId} {h0 : Nat} {ad : Nat → Nat} {u : mST} {x : Int32} : (mCl ca h0 ad u).set 0 (h0, .inr (12, (mFs ad u).set 62 (.int x))) = mCl ca h0 ad (mI u 62 x) := rfl
set_option maxRecDepth 100000 in
theorem mF_63 {ad : Nat → Nat} {u : mST} : (mFs ad u)[63]? = some (.int (u.1 63)) := rfl
set_option maxRecDepth 100000 in
theorem mSI_63 {ca : Nat → ClassId} {h0 : Nat} {ad : Nat → Nat} {u : mST} {x : Int32} : (mCl ca h0 ad u).set 0 (h0, .inr (12, (mFs ad u).set 63 (.int x))) = mCl ca h0 ad (mI u 63 x) := rfl
set_option maxRecDepth 100000 in
theorem mF_64 {ad : Nat → Nat} {u : mST} : (mFs ad u)[64]? = some (.int (u.1 64)) := rfl
set_option maxRecDepth 100000 in
theorem mSI_64 {ca : Nat → ClassId} {h0 : Nat} {ad : Nat → Nat} {u : mST} {x : Int32} : (mCl ca h0 ad u).set 0 (h0, .inr (12, (mFs ad u).set 64 (.int x))) = mCl ca h0 ad (mI u 64 x) := rfl
set_option maxRecDepth 100000 in
theorem mF_65 {ad : Nat → Nat} {u : mST} : (mFs ad u)[65]? = some (.ref (ad 65)) := rfl
set_option maxRecDepth 100000 in
theorem mG_65 {ca : Nat → ClassId} {h0 : Nat} {ad : Nat → Nat} {u : mST} : (mCl ca h0 ad u)[40]? = some (ad 65, .inl (ca 65, 200, .inl (u.2.1 65))) := rfl
set_option maxRecDepth 100000 in
theorem mSA_65 {ca : Nat → ClassId} {h0 : Nat} {ad : Nat → Nat} {u : mST} {i : Nat} {x : Int32} : (mCl ca h0 ad u).set 40 (ad 65, .inl (ca 65, 200, .inl (upd (u.2.1 65) i x))) = mCl ca h0 ad (mA u 65 i x) := rfl
set_option maxRecDepth 100000 in
theorem mF_66 {ad : Nat → Nat} {u : mST} : (mFs ad u)[66]? = some (.ref (ad 66)) := rfl
set_option maxRecDepth 100000 in
theorem mG_66 {ca : Nat → ClassId} {h0 : Nat} {ad : Nat → Nat} {u : mST} : (mCl ca h0 ad u)[41]? = some (ad 66, .inl (ca 66, 1200, .inl (u.2.1 66))) := rfl
set_option maxRecDepth 100000 in
theorem mSA_66 {ca : Nat → ClassId} {h0 : Nat} {ad : Nat → Nat} {u : mST} {i : Nat} {x : Int32} : (mCl ca h0 ad u).set 41 (ad 66, .inl (ca 66, 1200, .inl (upd (u.2.1 66) i x))) = mCl ca h0 ad (mA u 66 i x) := rfl
set_option maxRecDepth 100000 in
theorem mF_67 {ad : Nat → Nat} {u : mST} : (mFs ad u)[67]? = some (.ref (ad 67)) := rfl
set_option maxRecDepth 100000 in
theorem mG_67 {ca : Nat → ClassId} {h0 : Nat} {ad : Nat → Nat} {u : mST} : (mCl ca h0 ad u)[42]? = some (ad 67, .inl (ca 67, 1200, .inl (u.2.1 67))) := rfl
set_option maxRecDepth 100000 in
theorem mSA_67 {ca : Nat → ClassId} {h0 : Nat} {ad : Nat → Nat} {u : mST} {i : Nat} {x : Int32} : (mCl ca h0 ad u).set 42 (ad 67, .inl (ca 67, 1200, .inl (upd (u.2.1 67) i x))) = mCl ca h0 ad (mA u 67 i x) := rfl
set_option maxRecDepth 100000 in
theorem mF_68 {ad : Nat → Nat} {u : mST} : (mFs ad u)[68]? = some (.ref (ad 68)) := rfl
set_option maxRecDepth 100000 in
theorem mG_68 {ca : Nat → ClassId} {h0 : Nat} {ad : Nat → Nat} {u : mST} : (mCl ca h0 ad u)[43]? = some (ad 68, .inl (ca 68, 1200, .inl (u.2.1 68))) := rfl
set_option maxRecDepth 100000 in
theorem mSA_68 {ca : Nat → ClassId} {h0 : Nat} {ad : Nat → Nat} {u : mST} {i : Nat} {x : Int32} : (mCl ca h0 ad u).set 43 (ad 68, .inl (ca 68, 1200, .inl (upd (u.2.1 68) i x))) = mCl ca h0 ad (mA u 68 i x) := rfl
set_option maxRecDepth 100000 in
theorem mF_69 {ad : Nat → Nat} {u : mST} : (mFs ad u)[69]? = some (.int (u.1 69)) := rfl
set_option maxRecDepth 100000 in
theorem mSI_69 {ca : Nat → ClassId} {h0 : Nat} {ad : Nat → Nat} {u : mST} {x : Int32} : (mCl ca h0 ad u).set 0 (h0, .inr (12, (mFs ad u).set 69 (.int x))) = mCl ca h0 ad (mI u 69 x) := rfl
set_option maxRecDepth 100000 in
theorem mF_70 {ad : Nat → Nat} {u : mST} : (mFs ad u)[70]? = some (.ref (ad 70)) := rfl
set_option maxRecDepth 100000 in
theorem mG_70 {ca : Nat → ClassId} {h0 : Nat} {ad : Nat → Nat} {u : mST} : (mCl ca h0 ad u)[44]? = some (ad 70, .inl (ca 70, 2400, .inl (u.2.1 70))) := rfl
set_option maxRecDepth 100000 in
theorem mSA_70 {ca : Nat → ClassId} {h0 : Nat} {ad : Nat → Nat} {u : mST} {i : Nat} {x : Int32} : (mCl ca h0 ad u).set 44 (ad 70, .inl (ca 70, 2400, .inl (upd (u.2.1 70) i x))) = mCl ca h0 ad (mA u 70 i x) := rfl
set_option maxRecDepth 100000 in
theorem mF_71 {ad : Nat → Nat} {u : mST} : (mFs ad u)[71]? = some (.int (u.1 71)) := rfl
set_option maxRecDepth 100000 in
theorem mSI_71 {ca : Nat → ClassId} {h0 : Nat} {ad : Nat → Nat} {u : mST} {x : Int32} : (mCl ca h0 ad u).set 0 (h0, .inr (12, (mFs ad u).set 71 (.int x))) = mCl ca h0 ad (mI u 71 x) := rfl
set_option maxRecDepth 100000 in
theorem mF_72 {ad : Nat → Nat} {u : mST} : (mFs ad u)[72]? = some (.ref (ad 72)) := rfl
set_option maxRecDepth 100000 in
theorem mG_72 {ca : Nat → ClassId} {h0 : Nat} {ad : Nat → Nat} {u : mST} : (mCl ca h0 ad u)[45]? = some (ad 72, .inl (ca 72, 400, .inl (u.2.1 72))) := rfl
set_option maxRecDepth 100000 in
theorem mSA_72 {ca : Nat → ClassId} {h0 : Nat} {ad : Nat → Nat} {u : mST} {i : Nat} {x : Int32} : (mCl ca h0 ad u).set 45 (ad 72, .inl (ca 72, 400, .inl (upd (u.2.1 72) i x))) = mCl ca h0 ad (mA u 72 i x) := rfl
set_option maxRecDepth 100000 in
theorem mF_73 {ad : Nat → Nat} {u : mST} : (mFs ad u)[73]? = some (.ref (ad 73)) := rfl
set_option maxRecDepth 100000 in
theorem mG_73 {ca : Nat → ClassId} {h0 : Nat} {ad : Nat → Nat} {u : mST} : (mCl ca h0 ad u)[46]? = some (ad 73, .inl (ca 73, 400, .inl (u.2.1 73))) := rfl
set_option maxRecDepth 100000 in
theorem mSA_73 {ca : Nat → ClassId} {h0 : Nat} {ad : Nat → Nat} {u : mST} {i : Nat} {x : Int32} : (mCl ca h0 ad u).set 46 (ad 73, .inl (ca 73, 400, .inl (upd (u.2.1 73) i x))) = mCl ca h0 ad (mA u 73 i x) := rfl
set_option maxRecDepth 100000 in
theorem mF_74 {ad : Nat → Nat} {u : mST} : (mFs ad u)[74]? = some (.int (u.1 74)) := rfl
set_option maxRecDepth 100000 in
theorem mSI_74 {ca : Nat → ClassId} {h0 : Nat} {ad : Nat → Nat} {u : mST} {x : Int32} : (mCl ca h0 ad u).set 0 (h0, .inr (12, (mFs ad u).set 74 (.int x))) = mCl ca h0 ad (mI u 74 x) := rfl
set_option maxRecDepth 100000 in
theorem mF_75 {ad : Nat → Nat} {u : mST} : (mFs ad u)[75]? = some (.ref (ad 75)) := rfl
set_option maxRecDepth 100000 in
theorem mG_75 {ca : Nat → ClassId} {h0 : Nat} {ad : Nat → Nat} {u : mST} : (mCl ca h0 ad u)[47]? = some (ad 75, .inl (ca 75, 400, .inl (u.2.1 75))) := rfl
set_option maxRecDepth 100000 in
theorem mSA_75 {ca : Nat → ClassId} {h0 : Nat} {ad : Nat → Nat} {u : mST} {i : Nat} {x : Int32} : (mCl ca h0 ad u).set 47 (ad 75, .inl (ca 75, 400, .inl (upd (u.2.1 75) i x))) = mCl ca h0 ad (mA u 75 i x) := rfl
set_option maxRecDepth 100000 in
theorem mF_76 {ad : Nat → Nat} {u : mST} : (mFs ad u)[76]? = some (.int (u.1 76)) := rfl
set_option maxRecDepth 100000 in
theorem mSI_76 {ca : Nat → ClassId} {h0 : Nat} {ad : Nat → Nat} {u : mST} {x : Int32} : (mCl ca h0 ad u).set 0 (h0, .inr (12, (mFs ad u).set 76 (.int x))) = mCl ca h0 ad (mI u 76 x) := rfl
set_option maxRecDepth 100000 in
theorem mF_77 {ad : Nat → Nat} {u : mST} : (mFs ad u)[77]? = some (.ref (ad 77)) := rfl
set_option maxRecDepth 100000 in
theorem mG_77 {ca : Nat → ClassId} {h0 : Nat} {ad : Nat → Nat} {u : mST} : (mCl ca h0 ad u)[48]? = some (ad 77, .inl (ca 77, 130, .inl (u.2.1 77))) := rfl
set_option maxRecDepth 100000 in
theorem mSA_77 {ca : Nat → ClassId} {h0 : Nat} {ad : Nat → Nat} {u : mST} {i : Nat} {x : Int32} : (mCl ca h0 ad u).set 48 (ad 77, .inl (ca 77, 130, .inl (upd (u.2.1 77) i x))) = mCl ca h0 ad (mA u 77 i x) := rfl
set_option maxRecDepth 100000 in
theorem mF_78 {ad : Nat → Nat} {u : mST} : (mFs ad u)[78]? = some (.int (u.1 78)) := rfl
set_option maxRecDepth 100000 in
theorem mSI_78 {ca : Nat → ClassId} {h0 : Nat} {ad : Nat → Nat} {u : mST} {x : Int32} : (mCl ca h0 ad u).set 0 (h0, .inr (12, (mFs ad u).set 78 (.int x))) = mCl ca h0 ad (mI u 78 x) := rfl
set_option maxRecDepth 100000 in
theorem mF_79 {ad : Nat → Nat} {u : mST} : (mFs ad u)[79]? = some (.ref (ad 79)) := rfl
set_option maxRecDepth 100000 in
theorem mG_79 {ca : Nat → ClassId} {h0 : Nat} {ad : Nat → Nat} {u : mST} : (mCl ca h0 ad u)[49]? = some (ad 79, .inl (ca 79, 300, .inl (u.2.1 79))) := rfl
set_option maxRecDepth 100000 in
theorem mSA_79 {ca : Nat → ClassId} {h0 : Nat} {ad : Nat → Nat} {u : mST} {i : Nat} {x : Int32} : (mCl ca h0 ad u).set 49 (ad 79, .inl (ca 79, 300, .inl (upd (u.2.1 79) i x))) = mCl ca h0 ad (mA u 79 i x) := rfl
set_option maxRecDepth 100000 in
theorem mF_80 {ad : Nat → Nat} {u : mST} : (mFs ad u)[80]? = some (.ref (ad 80)) := rfl
set_option maxRecDepth 100000 in
theorem mG_80 {ca : Nat → ClassId} {h0 : Nat} {ad : Nat → Nat} {u : mST} : (mCl ca h0 ad u)[50]? = some (ad 80, .inl (ca 80, 300, .inl (u.2.1 80))) := rfl
set_option maxRecDepth 100000 in
theorem mSA_80 {ca : Nat → ClassId} {h0 : Nat} {ad : Nat → Nat} {u : mST} {i : Nat} {x : Int32} : (mCl ca h0 ad u).set 50 (ad 80, .inl (ca 80, 300, .inl (upd (u.2.1 80) i x))) = mCl ca h0 ad (mA u 80 i x) := rfl
set_option maxRecDepth 100000 in
theorem mF_81 {ad : Nat → Nat} {u : mST} : (mFs ad u)[81]? = some (.ref (ad 81)) := rfl
set_option maxRecDepth 100000 in
theorem mG_81 {ca : Nat → ClassId} {h0 : Nat} {ad : Nat → Nat} {u : mST} : (mCl ca h0 ad u)[51]? = some (ad 81, .inl (ca 81, 300, .inl (u.2.1 81))) := rfl
set_option maxRecDepth 100000 in
theorem mSA_81 {ca : Nat → ClassId} {h0 : Nat} {ad : Nat → Nat} {u : mST} {i : Nat} {x : Int32} : (mCl ca h0 ad u).set 51 (ad 81, .inl (ca 81, 300, .inl (upd (u.2.1 81) i x))) = mCl ca h0 ad (mA u 81 i x) := rfl
set_option maxRecDepth 100000 in
theorem mF_82 {ad : Nat → Nat} {u : mST} : (mFs ad u)[82]? = some (.ref (ad 82)) := rfl
set_option maxRecDepth 100000 in
theorem mG_82 {ca : Nat → ClassId} {h0 : Nat} {ad : Nat → Nat} {u : mST} : (mCl ca h0 ad u)[52]? = some (ad 82, .inl (ca 82, 300, .inl (u.2.1 82))) := rfl
set_option maxRecDepth 100000 in
theorem mSA_82 {ca : Nat → ClassId} {h0 : Nat} {ad : Nat → Nat} {u : mST} {i : Nat} {x : Int32} : (mCl ca h0 ad u).set 52 (ad 82, .inl (ca 82, 300, .inl (upd (u.2.1 82) i x))) = mCl ca h0 ad (mA u 82 i x) := rfl
set_option maxRecDepth 100000 in
theorem mF_83 {ad : Nat → Nat} {u : mST} : (mFs ad u)[83]? = some (.ref (ad 83)) := rfl
set_option maxRecDepth 100000 in
theorem mG_83 {ca : Nat → ClassId} {h0 : Nat} {ad : Nat → Nat} {u : mST} : (mCl ca h0 ad u)[53]? = some (ad 83, .inl (ca 83, 300, .inl (u.2.1 83))) := rfl
set_option maxRecDepth 100000 in
theorem mSA_83 {ca : Nat → ClassId} {h0 : Nat} {ad : Nat → Nat} {u : mST} {i : Nat} {x : Int32} : (mCl ca h0 ad u).set 53 (ad 83, .inl (ca 83, 300, .inl (upd (u.2.1 83) i x))) = mCl ca h0 ad (mA u 83 i x) := rfl
set_option maxRecDepth 100000 in
theorem mF_84 {ad : Nat → Nat} {u : mST} : (mFs ad u)[84]? = some (.ref (ad 84)) := rfl
set_option maxRecDepth 100000 in
theorem mG_84 {ca : Nat → ClassId} {h0 : Nat} {ad : Nat → Nat} {u : mST} : (mCl ca h0 ad u)[54]? = some (ad 84, .inl (ca 84, 300, .inl (u.2.1 84))) := rfl
set_option maxRecDepth 100000 in
theorem mSA_84 {ca : Nat → ClassId} {h0 : Nat} {ad : Nat → Nat} {u : mST} {i : Nat} {x : Int32} : (mCl ca h0 ad u).set 54 (ad 84, .inl (ca 84, 300, .inl (upd (u.2.1 84) i x))) = mCl ca h0 ad (mA u 84 i x) := rfl
set_option maxRecDepth 100000 in
theorem mF_85 {ad : Nat → Nat} {u : mST} : (mFs ad u)[85]? = some (.int (u.1 85)) := rfl
set_option maxRecDepth 100000 in
theorem mSI_85 {ca : Nat → ClassId} {h0 : Nat} {ad : Nat → Nat} {u : mST} {x : Int32} : (mCl ca h0 ad u).set 0 (h0, .inr (12, (mFs ad u).set 85 (.int x))) = mCl ca h0 ad (mI u 85 x) := rfl
set_option maxRecDepth 100000 in
theorem mF_86 {ad : Nat → Nat} {u : mST} : (mFs ad u)[86]? = some (.ref (ad 86)) := rfl
set_option maxRecDepth 100000 in
theorem mG_86 {ca : Nat → ClassId} {h0 : Nat} {ad : Nat → Nat} {u : mST} : (mCl ca h0 ad u)[55]? = some (ad 86, .inl (ca 86, 2400, .inl (u.2.1 86))) := rfl
set_option maxRecDepth 100000 in
theorem mSA_86 {ca : Nat → ClassId} {h0 : Nat} {ad : Nat → Nat} {u : mST} {i : Nat} {x : Int32} : (mCl ca h0 ad u).set 55 (ad 86, .inl (ca 86, 2400, .inl (upd (u.2.1 86) i x))) = mCl ca h0 ad (mA u 86 i x) := rfl
set_option maxRecDepth 100000 in
theorem mF_87 {ad : Nat → Nat} {u : mST} : (mFs ad u)[87]? = some (.int (u.1 87)) := rfl
set_option maxRecDepth 100000 in
theorem mSI_87 {ca : Nat → ClassId} {h0 : Nat} {ad : Nat → Nat} {u : mST} {x : Int32} : (mCl ca h0 ad u).set 0 (h0, .inr (12, (mFs ad u).set 87 (.int x))) = mCl ca h0 ad (mI u 87 x) := rfl
set_option maxRecDepth 100000 in
theorem mF_88 {ad : Nat → Nat} {u : mST} : (mFs ad u)[88]? = some (.int (u.1 88)) := rfl
set_option maxRecDepth 100000 in
theorem mSI_88 {ca : Nat → ClassId} {h0 : Nat} {ad : Nat → Nat} {u : mST} {x : Int32} : (mCl ca h0 ad u).set 0 (h0, .inr (12, (mFs ad u).set 88 (.int x))) = mCl ca h0 ad (mI u 88 x) := rfl
set_option maxRecDepth 100000 in
theorem mF_89 {ad : Nat → Nat} {u : mST} : (mFs ad u)[89]? = some (.int (u.1 89)) := rfl
set_option maxRecDepth 100000 in
theorem mSI_89 {ca : Nat → ClassId} {h0 : Nat} {ad : Nat → Nat} {u : mST} {x : Int32} : (mCl ca h0 ad u).set 0 (h0, .inr (12, (mFs ad u).set 89 (.int x))) = mCl ca h0 ad (mI u 89 x) := rfl
set_option maxRecDepth 100000 in
theorem mF_90 {ad : Nat → Nat} {u : mST} : (mFs ad u)[90]? = some (.int (u.1 90)) := rfl
set_option maxRecDepth 100000 in
theorem mSI_90 {ca : Nat → ClassId} {h0 : Nat} {ad : Nat → Nat} {u : mST} {x : Int32} : (mCl ca h0 ad u).set 0 (h0, .inr (12, (mFs ad u).set 90 (.int x))) = mCl ca h0 ad (mI u 90 x) := rfl
set_option maxRecDepth 100000 in
theorem mF_91 {ad : Nat → Nat} {u : mST} : (mFs ad u)[91]? = some (.int (u.1 91)) := rfl
set_option maxRecDepth 100000 in
theorem mSI_91 {ca : Nat → ClassId} {h0 : Nat} {ad : Nat → Nat} {u : mST} {x : Int32} : (mCl ca h0 ad u).set 0 (h0, .inr (12, (mFs ad u).set 91 (.int x))) = mCl ca h0 ad (mI u 91 x) := rfl
set_option maxRecDepth 100000 in
theorem mF_92 {ad : Nat → Nat} {u : mST} : (mFs ad u)[92]? = some (.ref (ad 92)) := rfl
set_option maxRecDepth 100000 in
theorem mG_92 {ca : Nat → ClassId} {h0 : Nat} {ad : Nat → Nat} {u : mST} : (mCl ca h0 ad u)[56]? = some (ad 92, .inl (ca 92, 60, .inl (u.2.1 92))) := rfl
set_option maxRecDepth 100000 in
theorem mSA_92 {ca : Nat → ClassId} {h0 : Nat} {ad : Nat → Nat} {u : mST} {i : Nat} {x : Int32} : (mCl ca h0 ad u).set 56 (ad 92, .inl (ca 92, 60, .inl (upd (u.2.1 92) i x))) = mCl ca h0 ad (mA u 92 i x) := rfl
set_option maxRecDepth 100000 in
theorem mF_93 {ad : Nat → Nat} {u : mST} : (mFs ad u)[93]? = some (.ref (ad 93)) := rfl
set_option maxRecDepth 100000 in
theorem mG_93 {ca : Nat → ClassId} {h0 : Nat} {ad : Nat → Nat} {u : mST} : (mCl ca h0 ad u)[57]? = some (ad 93, .inl (ca 93, 60, .inl (u.2.1 93))) := rfl
set_option maxRecDepth 100000 in
theorem mSA_93 {ca : Nat → ClassId} {h0 : Nat} {ad : Nat → Nat} {u : mST} {i : Nat} {x : Int32} : (mCl ca h0 ad u).set 57 (ad 93, .inl (ca 93, 60, .inl (upd (u.2.1 93) i x))) = mCl ca h0 ad (mA u 93 i x) := rfl
set_option maxRecDepth 100000 in
theorem mF_94 {ad : Nat → Nat} {u : mST} : (mFs ad u)[94]? = some (.ref (ad 94)) := rfl
set_option maxRecDepth 100000 in
theorem mG_94 {ca : Nat → ClassId} {h0 : Nat} {ad : Nat → Nat} {u : mST} : (mCl ca h0 ad u)[58]? = some (ad 94, .inl (ca 94, 60, .inl (u.2.1 94))) := rfl
set_option maxRecDepth 100000 in
theorem mSA_94 {ca : Nat → ClassId} {h0 : Nat} {ad : Nat → Nat} {u : mST} {i : Nat} {x : Int32} : (mCl ca h0 ad u).set 58 (ad 94, .inl (ca 94, 60, .inl (upd (u.2.1 94) i x))) = mCl ca h0 ad (mA u 94 i x) := rfl
set_option maxRecDepth 100000 in
theorem mF_95 {ad : Nat → Nat} {u : mST} : (mFs ad u)[95]? = some (.ref (ad 95)) := rfl
set_option maxRecDepth 100000 in
theorem mG_95 {ca : Nat → ClassId} {h0 : Nat} {ad : Nat → Nat} {u : mST} : (mCl ca h0 ad u)[59]? = some (ad 95, .inl (ca 95, 60, .inl (u.2.1 95))) := rfl
set_option maxRecDepth 100000 in
theorem mSA_95 {ca : Nat → ClassId} {h0 : Nat} {ad : Nat → Nat} {u : mST} {i : Nat} {x : Int32} : (mCl ca h0 ad u).set 59 (ad 95, .inl (ca 95, 60, .inl (upd (u.2.1 95) i x))) = mCl ca h0 ad (mA u 95 i x) := rfl
set_option maxRecDepth 100000 in
theorem mF_96 {ad : Nat → Nat} {u : mST} : (mFs ad u)[96]? = some (.ref (ad 96)) := rfl
set_option maxRecDepth 100000 in
theorem mG_96 {ca : Nat → ClassId} {h0 : Nat} {ad : Nat → Nat} {u : mST} : (mCl ca h0 ad u)[60]? = some (ad 96, .inl (ca 96, 60, .inl (u.2.1 96))) := rfl
set_option maxRecDepth 100000 in
theorem mSA_96 {ca : Nat → ClassId} {h0 : Nat} {ad : Nat → Nat} {u : mST} {i : Nat} {x : Int32} : (mCl ca h0 ad u).set 60 (ad 96, .inl (ca 96, 60, .inl (upd (u.2.1 96) i x))) = mCl ca h0 ad (mA u 96 i x) := rfl
set_option maxRecDepth 100000 in
theorem mF_97 {ad : Nat → Nat} {u : mST} : (mFs ad u)[97]? = some (.ref (ad 97)) := rfl
set_option maxRecDepth 100000 in
theorem mG_97 {ca : Nat → ClassId} {h0 : Nat} {ad : Nat → Nat} {u : mST} : (mCl ca h0 ad u)[61]? = some (ad 97, .inl (ca 97, 60, .inl (u.2.1 97))) := rfl
set_option maxRecDepth 100000 in
theorem mSA_97 {ca : Nat → ClassId} {h0 : Nat} {ad : Nat → Nat} {u : mST} {i : Nat} {x : Int32} : (mCl ca h0 ad u).set 61 (ad 97, .inl (ca 97, 60, .inl (upd (u.2.1 97) i x))) = mCl ca h0 ad (mA u 97 i x) := rfl
set_option maxRecDepth 100000 in
theorem mF_98 {ad : Nat → Nat} {u : mST} : (mFs ad u)[98]? = some (.ref (ad 98)) := rfl
set_option maxRecDepth 100000 in
theorem mG_98 {ca : Nat → ClassId} {h0 : Nat} {ad : Nat → Nat} {u : mST} : (mCl ca h0 ad u)[62]? = some (ad 98, .inl (ca 98, 60, .inl (u.2.1 98))) := rfl
set_option maxRecDepth 100000 in
theorem mSA_98 {ca : Nat → ClassId} {h0 : Nat} {ad : Nat → Nat} {u : mST} {i : Nat} {x : Int32} : (mCl ca h0 ad u).set 62 (ad 98, .inl (ca 98, 60, .inl (upd (u.2.1 98) i x))) = mCl ca h0 ad (mA u 98 i x) := rfl
set_option maxRecDepth 100000 in
theorem mF_99 {ad : Nat → Nat} {u : mST} : (mFs ad u)[99]? = some (.ref (ad 99)) := rfl
set_option maxRecDepth 100000 in
theorem mG_99 {ca : Nat → ClassId} {h0 : Nat} {ad : Nat → Nat} {u : mST} : (mCl ca h0 ad u)[63]? = some (ad 99, .inl (ca 99, 60, .inl (u.2.1 99))) := rfl
set_option maxRecDepth 100000 in
theorem mSA_99 {ca : Nat → ClassId} {h0 : Nat} {ad : Nat → Nat} {u : mST} {i : Nat} {x : Int32} : (mCl ca h0 ad u).set 63 (ad 99, .inl (ca 99, 60, .inl (upd (u.2.1 99) i x))) = mCl ca h0 ad (mA u 99 i x) := rfl
set_option maxRecDepth 100000 in
theorem mF_100 {ad : Nat → Nat} {u : mST} : (mFs ad u)[100]? = some (.ref (ad 100)) := rfl
set_option maxRecDepth 100000 in
theorem mG_100 {ca : Nat → ClassId} {h0 : Nat} {ad : Nat → Nat} {u : mST} : (mCl ca h0 ad u)[64]? = some (ad 100, .inl (ca 100, 60, .inl (u.2.1 100))) := rfl
set_option maxRecDepth 100000 in
theorem mSA_100 {ca : Nat → ClassId} {h0 : Nat} {ad : Nat → Nat} {u : mST} {i : Nat} {x : Int32} : (mCl ca h0 ad u).set 64 (ad 100, .inl (ca 100, 60, .inl (upd (u.2.1 100) i x))) = mCl ca h0 ad (mA u 100 i x) := rfl
set_option maxRecDepth 100000 in
theorem mF_101 {ad : Nat → Nat} {u : mST} : (mFs ad u)[101]? = some (.ref (ad 101)) := rfl
set_option maxRecDepth 100000 in
theorem mG_101 {ca : Nat → ClassId} {h0 : Nat} {ad : Nat → Nat} {u : mST} : (mCl ca h0 ad u)[65]? = some (ad 101, .inl (ca 101, 60, .inl (u.2.1 101))) := rfl
set_option maxRecDepth 100000 in
theorem mSA_101 {ca : Nat → ClassId} {h0 : Nat} {ad : Nat → Nat} {u : mST} {i : Nat} {x : Int32} : (mCl ca h0 ad u).set 65 (ad 101, .inl (ca 101, 60, .inl (upd (u.2.1 101) i x))) = mCl ca h0 ad (mA u 101 i x) := rfl
set_option maxRecDepth 100000 in
theorem mF_102 {ad : Nat → Nat} {u : mST} : (mFs ad u)[102]? = some (.int (u.1 102)) := rfl
set_option maxRecDepth 100000 in
theorem mSI_102 {ca : Nat → ClassId} {h0 : Nat} {ad : Nat → Nat} {u : mST} {x : Int32} : (mCl ca h0 ad u).set 0 (h0, .inr (12, (mFs ad u).set 102 (.int x))) = mCl ca h0 ad (mI u 102 x) := rfl
set_option maxRecDepth 100000 in
theorem mF_103 {ad : Nat → Nat} {u : mST} : (mFs ad u)[103]? = some (.ref (ad 103)) := rfl
set_option maxRecDepth 100000 in
theorem mG_103 {ca : Nat → ClassId} {h0 : Nat} {ad : Nat → Nat} {u : mST} : (mCl ca h0 ad u)[66]? = some (ad 103, .inl (ca 103, 1200, .inl (u.2.1 103))) := rfl
set_option maxRecDepth 100000 in
theorem mSA_103 {ca : Nat → ClassId} {h0 : Nat} {ad : Nat → Nat} {u : mST} {i : Nat} {x : Int32} : (mCl ca h0 ad u).set 66 (ad 103, .inl (ca 103, 1200, .inl (upd (u.2.1 103) i x))) = mCl ca h0 ad (mA u 103 i x) := rfl
set_option maxRecDepth 100000 in
theorem mF_104 {ad : Nat → Nat} {u : mST} : (mFs ad u)[104]? = some (.int (u.1 104)) := rfl
set_option maxRecDepth 100000 in
theorem mSI_104 {ca : Nat → ClassId} {h0 : Nat} {ad : Nat → Nat} {u : mST} {x : Int32} : (mCl ca h0 ad u).set 0 (h0, .inr (12, (mFs ad u).set 104 (.int x))) = mCl ca h0 ad (mI u 104 x) := rfl
set_option maxRecDepth 100000 in
theorem mF_105 {ad : Nat → Nat} {u : mST} : (mFs ad u)[105]? = some (.ref (ad 105)) := rfl
set_option maxRecDepth 100000 in
theorem mG_105 {ca : Nat → ClassId} {h0 : Nat} {ad : Nat → Nat} {u : mST} : (mCl ca h0 ad u)[67]? = some (ad 105, .inl (ca 105, 7800, .inl (u.2.1 105))) := rfl
set_option maxRecDepth 100000 in
theorem mSA_105 {ca : Nat → ClassId} {h0 : Nat} {ad : Nat → Nat} {u : mST} {i : Nat} {x : Int32} : (mCl ca h0 ad u).set 67 (ad 105, .inl (ca 105, 7800, .inl (upd (u.2.1 105) i x))) = mCl ca h0 ad (mA u 105 i x) := rfl
set_option maxRecDepth 100000 in
theorem mF_106 {ad : Nat → Nat} {u : mST} : (mFs ad u)[106]? = some (.ref (ad 106)) := rfl
set_option maxRecDepth 100000 in
theorem mG_106 {ca : Nat → ClassId} {h0 : Nat} {ad : Nat → Nat} {u : mST} : (mCl ca h0 ad u)[68]? = some (ad 106, .inl (ca 106, 7800, .inl (u.2.1 106))) := rfl
set_option maxRecDepth 100000 in
theorem mSA_106 {ca : Nat → ClassId} {h0 : Nat} {ad : Nat → Nat} {u : mST} {i : Nat} {x : Int32} : (mCl ca h0 ad u).set 68 (ad 106, .inl (ca 106, 7800, .inl (upd (u.2.1 106) i x))) = mCl ca h0 ad (mA u 106 i x) := rfl
set_option maxRecDepth 100000 in
theorem mF_107 {ad : Nat → Nat} {u : mST} : (mFs ad u)[107]? = some (.ref (ad 107)) := rfl
set_option maxRecDepth 100000 in
theorem mG_107 {ca : Nat → ClassId} {h0 : Nat} {ad : Nat → Nat} {u : mST} : (mCl ca h0 ad u)[69]? = some (ad 107, .inl (ca 107, 60, .inl (u.2.1 107))) := rfl
set_option maxRecDepth 100000 in
theorem mSA_107 {ca : Nat → ClassId} {h0 : Nat} {ad : Nat → Nat} {u : mST} {i : Nat} {x : Int32} : (mCl ca h0 ad u).set 69 (ad 107, .inl (ca 107, 60, .inl (upd (u.2.1 107) i x))) = mCl ca h0 ad (mA u 107 i x) := rfl
set_option maxRecDepth 100000 in
theorem mF_108 {ad : Nat → Nat} {u : mST} : (mFs ad u)[108]? = some (.ref (ad 108)) := rfl
set_option maxRecDepth 100000 in
theorem mG_108 {ca : Nat → ClassId} {h0 : Nat} {ad : Nat → Nat} {u : mST} : (mCl ca h0 ad u)[70]? = some (ad 108, .inl (ca 108, 200, .inl (u.2.1 108))) := rfl
set_option maxRecDepth 100000 in
theorem mSA_108 {ca : Nat → ClassId} {h0 : Nat} {ad : Nat → Nat} {u : mST} {i : Nat} {x : Int32} : (mCl ca h0 ad u).set 70 (ad 108, .inl (ca 108, 200, .inl (upd (u.2.1 108) i x))) = mCl ca h0 ad (mA u 108 i x) := rfl
set_option maxRecDepth 100000 in
theorem mF_109 {ad : Nat → Nat} {u : mST} : (mFs ad u)[109]? = some (.int (u.1 109)) := rfl
set_option maxRecDepth 100000 in
theorem mSI_109 {ca : Nat → ClassId} {h0 : Nat} {ad : Nat → Nat} {u : mST} {x : Int32} : (mCl ca h0 ad u).set 0 (h0, .inr (12, (mFs ad u).set 109 (.int x))) = mCl ca h0 ad (mI u 109 x) := rfl
set_option maxRecDepth 100000 in
theorem mF_110 {ad : Nat → Nat} {u : mST} : (mFs ad u)[110]? = some (.int (u.1 110)) := rfl
set_option maxRecDepth 100000 in
theorem mSI_110 {ca : Nat → ClassId} {h0 : Nat} {ad : Nat → Nat} {u : mST} {x : Int32} : (mCl ca h0 ad u).set 0 (h0, .inr (12, (mFs ad u).set 110 (.int x))) = mCl ca h0 ad (mI u 110 x) := rfl
set_option maxRecDepth 100000 in
theorem mF_111 {ad : Nat → Nat} {u : mST} : (mFs ad u)[111]? = some (.int (u.1 111)) := rfl
set_option maxRecDepth 100000 in
theorem mSI_111 {ca : Nat → ClassId} {h0 : Nat} {ad : Nat → Nat} {u : mST} {x : Int32} : (mCl ca h0 ad u).set 0 (h0, .inr (12, (mFs ad u).set 111 (.int x))) = mCl ca h0 ad (mI u 111 x) := rfl
set_option maxRecDepth 100000 in
theorem mF_112 {ad : Nat → Nat} {u : mST} : (mFs ad u)[112]? = some (.ref (ad 112)) := rfl
set_option maxRecDepth 100000 in
theorem mG_112 {ca : Nat → ClassId} {h0 : Nat} {ad : Nat → Nat} {u : mST} : (mCl ca h0 ad u)[71]? = some (ad 112, .inl (ca 112, 800, .inl (u.2.1 112))) := rfl
set_option maxRecDepth 100000 in
theorem mSA_112 {ca : Nat → ClassId} {h0 : Nat} {ad : Nat → Nat} {u : mST} {i : Nat} {x : Int32} : (mCl ca h0 ad u).set 71 (ad 112, .inl (ca 112, 800, .inl (upd (u.2.1 112) i x))) = mCl ca h0 ad (mA u 112 i x) := rfl
set_option maxRecDepth 100000 in
theorem mF_113 {ad : Nat → Nat} {u : mST} : (mFs ad u)[113]? = some (.ref (ad 113)) := rfl
set_option maxRecDepth 100000 in
theorem mG_113 {ca : Nat → ClassId} {h0 : Nat} {ad : Nat → Nat} {u : mST} : (mCl ca h0 ad u)[72]? = some (ad 113, .inl (ca 113, 800, .inl (u.2.1 113))) := rfl
set_option maxRecDepth 100000 in
theorem mSA_113 {ca : Nat → ClassId} {h0 : Nat} {ad : Nat → Nat} {u : mST} {i : Nat} {x : Int32} : (mCl ca h0 ad u).set 72 (ad 113, .inl (ca 113, 800, .inl (upd (u.2.1 113) i x))) = mCl ca h0 ad (mA u 113 i x) := rfl
set_option maxRecDepth 100000 in
theorem mF_114 {ad : Nat → Nat} {u : mST} : (mFs ad u)[114]? = some (.ref (ad 114)) := rfl
set_option maxRecDepth 100000 in
theorem mG_114 {ca : Nat → ClassId} {h0 : Nat} {ad : Nat → Nat} {u : mST} : (mCl ca h0 ad u)[73]? = some (ad 114, .inl (ca 114, 69000, .inl (u.2.1 114))) := rfl
set_option maxRecDepth 100000 in
theorem mSA_114 {ca : Nat → ClassId} {h0 : Nat} {ad : Nat → Nat} {u : mST} {i : Nat} {x : Int32} : (mCl ca h0 ad u).set 73 (ad 114, .inl (ca 114, 69000, .inl (upd (u.2.1 114) i x))) = mCl ca h0 ad (mA u 114 i x) := rfl
set_option maxRecDepth 100000 in
theorem mF_115 {ad : Nat → Nat} {u : mST} : (mFs ad u)[115]? = some (.ref (ad 115)) := rfl
set_option maxRecDepth 100000 in
theorem mG_115 {ca : Nat → ClassId} {h0 : Nat} {ad : Nat → Nat} {u : mST} : (mCl ca h0 ad u)[74]? = some (ad 115, .inl (ca 115, 2300, .inl (u.2.1 115))) := rfl
set_option maxRecDepth 100000 in
theorem mSA_115 {ca : Nat → ClassId} {h0 : Nat} {ad : Nat → Nat} {u : mST} {i : Nat} {x : Int32} : (mCl ca h0 ad u).set 74 (ad 115, .inl (ca 115, 2300, .inl (upd (u.2.1 115) i x))) = mCl ca h0 ad (mA u 115 i x) := rfl
set_option maxRecDepth 100000 in
theorem mF_116 {ad : Nat → Nat} {u : mST} : (mFs ad u)[116]? = some (.ref (ad 116)) := rfl
set_option maxRecDepth 100000 in
theorem mG_116 {ca : Nat → ClassId} {h0 : Nat} {ad : Nat → Nat} {u : mST} : (mCl ca h0 ad u)[75]? = some (ad 116, .inl (ca 116, 2300, .inl (u.2.1 116))) := rfl
set_option maxRecDepth 100000 in
theorem mSA_116 {ca : Nat → ClassId} {h0 : Nat} {ad : Nat → Nat} {u : mST} {i : Nat} {x : Int32} : (mCl ca h0 ad u).set 75 (ad 116, .inl (ca 116, 2300, .inl (upd (u.2.1 116) i x))) = mCl ca h0 ad (mA u 116 i x) := rfl
set_option maxRecDepth 100000 in
theorem mF_117 {ad : Nat → Nat} {u : mST} : (mFs ad u)[117]? = some (.int (u.1 117)) := rfl
set_option maxRecDepth 100000 in
theorem mSI_117 {ca : Nat → ClassId} {h0 : Nat} {ad : Nat → Nat} {u : mST} {x : Int32} : (mCl ca h0 ad u).set 0 (h0, .inr (12, (mFs ad u).set 117 (.int x))) = mCl ca h0 ad (mI u 117 x) := rfl
set_option maxRecDepth 100000 in
theorem mF_118 {ad : Nat → Nat} {u : mST} : (mFs ad u)[118]? = some (.ref (ad 118)) := rfl
set_option maxRecDepth 100000 in
theorem mG_118 {ca : Nat → ClassId} {h0 : Nat} {ad : Nat → Nat} {u : mST} : (mCl ca h0 ad u)[76]? = some (ad 118, .inl (ca 118, 2300, .inl (u.2.1 118))) := rfl
set_option maxRecDepth 100000 in
theorem mSA_118 {ca : Nat → ClassId} {h0 : Nat} {ad : Nat → Nat} {u : mST} {i : Nat} {x : Int32} : (mCl ca h0 ad u).set 76 (ad 118, .inl (ca 118, 2300, .inl (upd (u.2.1 118) i x))) = mCl ca h0 ad (mA u 118 i x) := rfl
set_option maxRecDepth 100000 in
theorem mF_119 {ad : Nat → Nat} {u : mST} : (mFs ad u)[119]? = some (.int (u.1 119)) := rfl
set_option maxRecDepth 100000 in
theorem mSI_119 {ca : Nat → ClassId} {h0 : Nat} {ad : Nat → Nat} {u : mST} {x : Int32} : (mCl ca h0 ad u).set 0 (h0, .inr (12, (mFs ad u).set 119 (.int x))) = mCl ca h0 ad (mI u 119 x) := rfl
set_option maxRecDepth 100000 in
theorem mF_120 {ad : Nat → Nat} {u : mST} : (mFs ad u)[120]? = some (.ref (ad 120)) := rfl
set_option maxRecDepth 100000 in
theorem mG_120 {ca : Nat → ClassId} {h0 : Nat} {ad : Nat → Nat} {u : mST} : (mCl ca h0 ad u)[77]? = some (ad 120, .inl (ca 120, 20, .inl (u.2.1 120))) := rfl
set_option maxRecDepth 100000 in
theorem mSA_120 {ca : Nat → ClassId} {h0 : Nat} {ad : Nat → Nat} {u : mST} {i : Nat} {x : Int32} : (mCl ca h0 ad u).set 77 (ad 120, .inl (ca 120, 20, .inl (upd (u.2.1 120) i x))) = mCl ca h0 ad (mA u 120 i x) := rfl
set_option maxRecDepth 100000 in
theorem mF_121 {ad : Nat → Nat} {u : mST} : (mFs ad u)[121]? = some (.ref (ad 121)) := rfl
set_option maxRecDepth 100000 in
theorem mG_121 {ca : Nat → ClassId} {h0 : Nat} {ad : Nat → Nat} {u : mST} : (mCl ca h0 ad u)[78]? = some (ad 121, .inl (ca 121, 1200, .inl (u.2.1 121))) := rfl
set_option maxRecDepth 100000 in
theorem mSA_121 {ca : Nat → ClassId} {h0 : Nat} {ad : Nat → Nat} {u : mST} {i : Nat} {x : Int32} : (mCl ca h0 ad u).set 78 (ad 121, .inl (ca 121, 1200, .inl (upd (u.2.1 121) i x))) = mCl ca h0 ad (mA u 121 i x) := rfl
set_option maxRecDepth 100000 in
theorem mF_122 {ad : Nat → Nat} {u : mST} : (mFs ad u)[122]? = some (.int (u.1 122)) := rfl
set_option maxRecDepth 100000 in
theorem mSI_122 {ca : Nat → ClassId} {h0 : Nat} {ad : Nat → Nat} {u : mST} {x : Int32} : (mCl ca h0 ad u).set 0 (h0, .inr (12, (mFs ad u).set 122 (.int x))) = mCl ca h0 ad (mI u 122 x) := rfl
set_option maxRecDepth 100000 in
theorem mF_123 {ad : Nat → Nat} {u : mST} : (mFs ad u)[123]? = some (.ref (ad 123)) := rfl
set_option maxRecDepth 100000 in
theorem mG_123 {ca : Nat → ClassId} {h0 : Nat} {ad : Nat → Nat} {u : mST} : (mCl ca h0 ad u)[79]? = some (ad 123, .inl (ca 123, 128, .inl (u.2.1 123))) := rfl
set_option maxRecDepth 100000 in
theorem mSA_123 {ca : Nat → ClassId} {h0 : Nat} {ad : Nat → Nat} {u : mST} {i : Nat} {x : Int32} : (mCl ca h0 ad u).set 79 (ad 123, .inl (ca 123, 128, .inl (upd (u.2.1 123) i x))) = mCl ca h0 ad (mA u 123 i x) := rfl
set_option maxRecDepth 100000 in
theorem mF_124 {ad : Nat → Nat} {u : mST} : (mFs ad u)[124]? = some (.ref (ad 124)) := rfl
set_option maxRecDepth 100000 in
theorem mG_124 {ca : Nat → ClassId} {h0 : Nat} {ad : Nat → Nat} {u : mST} : (mCl ca h0 ad u)[80]? = some (ad 124, .inl (ca 124, 8192, .inl (u.2.1 124))) := rfl
set_option maxRecDepth 100000 in
theorem mSA_124 {ca : Nat → ClassId} {h0 : Nat} {ad : Nat → Nat} {u : mST} {i : Nat} {x : Int32} : (mCl ca h0 ad u).set 80 (ad 124, .inl (ca 124, 8192, .inl (upd (u.2.1 124) i x))) = mCl ca h0 ad (mA u 124 i x) := rfl
set_option maxRecDepth 100000 in
theorem mF_125 {ad : Nat → Nat} {u : mST} : (mFs ad u)[125]? = some (.ref (ad 125)) := rfl
set_option maxRecDepth 100000 in
theorem mG_125 {ca : Nat → ClassId} {h0 : Nat} {ad : Nat → Nat} {u : mST} : (mCl ca h0 ad u)[81]? = some (ad 125, .inl (ca 125, 128, .inl (u.2.1 125))) := rfl
set_option maxRecDepth 100000 in
theorem mSA_125 {ca : Nat → ClassId} {h0 : Nat} {ad : Nat → Nat} {u : mST} {i : Nat} {x : Int32} : (mCl ca h0 ad u).set 81 (ad 125, .inl (ca 125, 128, .inl (upd (u.2.1 125) i x))) = mCl ca h0 ad (mA u 125 i x) := rfl
set_option maxRecDepth 100000 in
theorem mF_126 {ad : Nat → Nat} {u : mST} : (mFs ad u)[126]? = some (.int (u.1 126)) := rfl
set_option maxRecDepth 100000 in
theorem mSI_126 {ca : Nat → ClassId} {h0 : Nat} {ad : Nat → Nat} {u : mST} {x : Int32} : (mCl ca h0 ad u).set 0 (h0, .inr (12, (mFs ad u).set 126 (.int x))) = mCl ca h0 ad (mI u 126 x) := rfl
set_option maxRecDepth 100000 in
theorem mF_127 {ad : Nat → Nat} {u : mST} : (mFs ad u)[127]? = some (.ref (ad 127)) := rfl
set_option maxRecDepth 100000 in
theorem mG_127 {ca : Nat → ClassId} {h0 : Nat} {ad : Nat → Nat} {u : mST} : (mCl ca h0 ad u)[82]? = some (ad 127, .inl (ca 127, 128, .inl (u.2.1 127))) := rfl
set_option maxRecDepth 100000 in
theorem mSA_127 {ca : Nat → ClassId} {h0 : Nat} {ad : Nat → Nat} {u : mST} {i : Nat} {x : Int32} : (mCl ca h0 ad u).set 82 (ad 127, .inl (ca 127, 128, .inl (upd (u.2.1 127) i x))) = mCl ca h0 ad (mA u 127 i x) := rfl
set_option maxRecDepth 100000 in
theorem mF_128 {ad : Nat → Nat} {u : mST} : (mFs ad u)[128]? = some (.ref (ad 128)) := rfl
set_option maxRecDepth 100000 in
theorem mG_128 {ca : Nat → ClassId} {h0 : Nat} {ad : Nat → Nat} {u : mST} : (mCl ca h0 ad u)[83]? = some (ad 128, .inl (ca 128, 8192, .inl (u.2.1 128))) := rfl
set_option maxRecDepth 100000 in
theorem mSA_128 {ca : Nat → ClassId} {h0 : Nat} {ad : Nat → Nat} {u : mST} {i : Nat} {x : Int32} : (mCl ca h0 ad u).set 83 (ad 128, .inl (ca 128, 8192, .inl (upd (u.2.1 128) i x))) = mCl ca h0 ad (mA u 128 i x) := rfl
set_option maxRecDepth 100000 in
theorem mF_129 {ad : Nat → Nat} {u : mST} : (mFs ad u)[129]? = some (.ref (ad 129)) := rfl
set_option maxRecDepth 100000 in
theorem mG_129 {ca : Nat → ClassId} {h0 : Nat} {ad : Nat → Nat} {u : mST} : (mCl ca h0 ad u)[84]? = some (ad 129, .inl (ca 129, 128, .inl (u.2.1 129))) := rfl
set_option maxRecDepth 100000 in
theorem mSA_129 {ca : Nat → ClassId} {h0 : Nat} {ad : Nat → Nat} {u : mST} {i : Nat} {x : Int32} : (mCl ca h0 ad u).set 84 (ad 129, .inl (ca 129, 128, .inl (upd (u.2.1 129) i x))) = mCl ca h0 ad (mA u 129 i x) := rfl
set_option maxRecDepth 100000 in
theorem mF_130 {ad : Nat → Nat} {u : mST} : (mFs ad u)[130]? = some (.ref (ad 130)) := rfl
set_option maxRecDepth 100000 in
theorem mG_130 {ca : Nat → ClassId} {h0 : Nat} {ad : Nat → Nat} {u : mST} : (mCl ca h0 ad u)[85]? = some (ad 130, .inl (ca 130, 130, .inl (u.2.1 130))) := rfl
set_option maxRecDepth 100000 in
theorem mSA_130 {ca : Nat → ClassId} {h0 : Nat} {ad : Nat → Nat} {u : mST} {i : Nat} {x : Int32} : (mCl ca h0 ad u).set 85 (ad 130, .inl (ca 130, 130, .inl (upd (u.2.1 130) i x))) = mCl ca h0 ad (mA u 130 i x) := rfl
set_option maxRecDepth 100000 in
theorem mF_131 {ad : Nat → Nat} {u : mST} : (mFs ad u)[131]? = some (.int (u.1 131)) := rfl
set_option maxRecDepth 100000 in
theorem mSI_131 {ca : Nat → ClassId} {h0 : Nat} {ad : Nat → Nat} {u : mST} {x : Int32} : (mCl ca h0 ad u).set 0 (h0, .inr (12, (mFs ad u).set 131 (.int x))) = mCl ca h0 ad (mI u 131 x) := rfl
set_option maxRecDepth 100000 in
theorem mF_132 {ad : Nat → Nat} {u : mST} : (mFs ad u)[132]? = some (.int (u.1 132)) := rfl
set_option maxRecDepth 100000 in
theorem mSI_132 {ca : Nat → ClassId} {h0 : Nat} {ad : Nat → Nat} {u : mST} {x : Int32} : (mCl ca h0 ad u).set 0 (h0, .inr (12, (mFs ad u).set 132 (.int x))) = mCl ca h0 ad (mI u 132 x) := rfl
set_option maxRecDepth 100000 in
theorem mF_133 {ad : Nat → Nat} {u : mST} : (mFs ad u)[133]? = some (.int (u.1 133)) := rfl
set_option maxRecDepth 100000 in
theorem mSI_133 {ca : Nat → ClassId} {h0 : Nat} {ad : Nat → Nat} {u : mST} {x : Int32} : (mCl ca h0 ad u).set 0 (h0, .inr (12, (mFs ad u).set 133 (.int x))) = mCl ca h0 ad (mI u 133 x) := rfl
set_option maxRecDepth 100000 in
theorem mF_134 {ad : Nat → Nat} {u : mST} : (mFs ad u)[134]? = some (.int (u.1 134)) := rfl
set_option maxRecDepth 100000 in
theorem mSI_134 {ca : Nat → ClassId} {h0 : Nat} {ad : Nat → Nat} {u : mST} {x : Int32} : (mCl ca h0 ad u).set 0 (h0, .inr (12, (mFs ad u).set 134 (.int x))) = mCl ca h0 ad (mI u 134 x) := rfl
set_option maxRecDepth 100000 in
theorem mF_135 {ad : Nat → Nat} {u : mST} : (mFs ad u)[135]? = some (.int (u.1 135)) := rfl
set_option maxRecDepth 100000 in
theorem mSI_135 {ca : Nat → ClassId} {h0 : Nat} {ad : Nat → Nat} {u : mST} {x : Int32} : (mCl ca h0 ad u).set 0 (h0, .inr (12, (mFs ad u).set 135 (.int x))) = mCl ca h0 ad (mI u 135 x) := rfl
set_option maxRecDepth 100000 in
theorem mF_136 {ad : Nat → Nat} {u : mST} : (mFs ad u)[136]? = some (.int (u.1 136)) := rfl
set_option maxRecDepth 100000 in
theorem mSI_136 {ca : Nat → ClassId} {h0 : Nat} {ad : Nat → Nat} {u : mST} {x : Int32} : (mCl ca h0 ad u).set 0 (h0, .inr (12, (mFs ad u).set 136 (.int x))) = mCl ca h0 ad (mI u 136 x) := rfl
set_option maxRecDepth 100000 in
theorem mF_137 {ad : Nat → Nat} {u : mST} : (mFs ad u)[137]? = some (.ref (ad 137)) := rfl
set_option maxRecDepth 100000 in
theorem mG_137 {ca : Nat → ClassId} {h0 : Nat} {ad : Nat → Nat} {u : mST} : (mCl ca h0 ad u)[86]? = some (ad 137, .inl (ca 137, 400, .inl (u.2.1 137))) := rfl
set_option maxRecDepth 100000 in
theorem mSA_137 {ca : Nat → ClassId} {h0 : Nat} {ad : Nat → Nat} {u : mST} {i : Nat} {x : Int32} : (mCl ca h0 ad u).set 86 (ad 137, .inl (ca 137, 400, .inl (upd (u.2.1 137) i x))) = mCl ca h0 ad (mA u 137 i x) := rfl
set_option maxRecDepth 100000 in
theorem mF_138 {ad : Nat → Nat} {u : mST} : (mFs ad u)[138]? = some (.ref (ad 138)) := rfl
set_option maxRecDepth 100000 in
theorem mG_138 {ca : Nat → ClassId} {h0 : Nat} {ad : Nat → Nat} {u : mST} : (mCl ca h0 ad u)[87]? = some (ad 138, .inl (ca 138, 400, .inl (u.2.1 138))) := rfl
set_option maxRecDepth 100000 in
theorem mSA_138 {ca : Nat → ClassId} {h0 : Nat} {ad : Nat → Nat} {u : mST} {i : Nat} {x : Int32} : (mCl ca h0 ad u).set 87 (ad 138, .inl (ca 138, 400, .inl (upd (u.2.1 138) i x))) = mCl ca h0 ad (mA u 138 i x) := rfl
set_option maxRecDepth 100000 in
theorem mF_139 {ad : Nat → Nat} {u : mST} : (mFs ad u)[139]? = some (.int (u.1 139)) := rfl
set_option maxRecDepth 100000 in
theorem mSI_139 {ca : Nat → ClassId} {h0 : Nat} {ad : Nat → Nat} {u : mST} {x : Int32} : (mCl ca h0 ad u).set 0 (h0, .inr (12, (mFs ad u).set 139 (.int x))) = mCl ca h0 ad (mI u 139 x) := rfl
set_option maxRecDepth 100000 in
theorem mF_140 {ad : Nat → Nat} {u : mST} : (mFs ad u)[140]? = some (.ref (ad 140)) := rfl
set_option maxRecDepth 100000 in
theorem mG_140 {ca : Nat → ClassId} {h0 : Nat} {ad : Nat → Nat} {u : mST} : (mCl ca h0 ad u)[88]? = some (ad 140, .inl (ca 140, 6, .inl (u.2.1 140))) := rfl
set_option maxRecDepth 100000 in
theorem mSA_140 {ca : Nat → ClassId} {h0 : Nat} {ad : Nat → Nat} {u : mST} {i : Nat} {x : Int32} : (mCl ca h0 ad u).set 88 (ad 140, .inl (ca 140, 6, .inl (upd (u.2.1 140) i x))) = mCl ca h0 ad (mA u 140 i x) := rfl
set_option maxRecDepth 100000 in
theorem mF_141 {ad : Nat → Nat} {u : mST} : (mFs ad u)[141]? = some (.ref (ad 141)) := rfl
set_option maxRecDepth 100000 in
theorem mG_141 {ca : Nat → ClassId} {h0 : Nat} {ad : Nat → Nat} {u : mST} : (mCl ca h0 ad u)[89]? = some (ad 141, .inl (ca 141, 40, .inl (u.2.1 141))) := rfl
set_option maxRecDepth 100000 in
theorem mSA_141 {ca : Nat → ClassId} {h0 : Nat} {ad : Nat → Nat} {u : mST} {i : Nat} {x : Int32} : (mCl ca h0 ad u).set 89 (ad 141, .inl (ca 141, 40, .inl (upd (u.2.1 141) i x))) = mCl ca h0 ad (mA u 141 i x) := rfl
set_option maxRecDepth 100000 in
theorem mF_142 {ad : Nat → Nat} {u : mST} : (mFs ad u)[142]? = some (.ref (ad 142)) := rfl
set_option maxRecDepth 100000 in
theorem mG_142 {ca : Nat → ClassId} {h0 : Nat} {ad : Nat → Nat} {u : mST} : (mCl ca h0 ad u)[90]? = some (ad 142, .inl (ca 142, 40, .inl (u.2.1 142))) := rfl
set_option maxRecDepth 100000 in
theorem mSA_142 {ca : Nat → ClassId} {h0 : Nat} {ad : Nat → Nat} {u : mST} {i : Nat} {x : Int32} : (mCl ca h0 ad u).set 90 (ad 142, .inl (ca 142, 40, .inl (upd (u.2.1 142) i x))) = mCl ca h0 ad (mA u 142 i x) := rfl
set_option maxRecDepth 100000 in
theorem mF_143 {ad : Nat → Nat} {u : mST} : (mFs ad u)[143]? = some (.ref (ad 143)) := rfl
set_option maxRecDepth 100000 in
theorem mG_143 {ca : Nat → ClassId} {h0 : Nat} {ad : Nat → Nat} {u : mST} : (mCl ca h0 ad u)[91]? = some (ad 143, .inl (ca 143, 40, .inl (u.2.1 143))) := rfl
set_option maxRecDepth 100000 in
theorem mSA_143 {ca : Nat → ClassId} {h0 : Nat} {ad : Nat → Nat} {u : mST} {i : Nat} {x : Int32} : (mCl ca h0 ad u).set 91 (ad 143, .inl (ca 143, 40, .inl (upd (u.2.1 143) i x))) = mCl ca h0 ad (mA u 143 i x) := rfl
set_option maxRecDepth 100000 in
theorem mF_144 {ad : Nat → Nat} {u : mST} : (mFs ad u)[144]? = some (.int (u.1 144)) := rfl
set_option maxRecDepth 100000 in
theorem mSI_144 {ca : Nat → ClassId} {h0 : Nat} {ad : Nat → Nat} {u : mST} {x : Int32} : (mCl ca h0 ad u).set 0 (h0, .inr (12, (mFs ad u).set 144 (.int x))) = mCl ca h0 ad (mI u 144 x) := rfl
set_option maxRecDepth 100000 in
theorem mF_145 {ad : Nat → Nat} {u : mST} : (mFs ad u)[145]? = some (.ref (ad 145)) := rfl
set_option maxRecDepth 100000 in
theorem mG_145 {ca : Nat → ClassId} {h0 : Nat} {ad : Nat → Nat} {u : mST} : (mCl ca h0 ad u)[92]? = some (ad 145, .inl (ca 145, 10500, .inl (u.2.1 145))) := rfl
set_option maxRecDepth 100000 in
theorem mSA_145 {ca : Nat → ClassId} {h0 : Nat} {ad : Nat → Nat} {u : mST} {i : Nat} {x : Int32} : (mCl ca h0 ad u).set 92 (ad 145, .inl (ca 145, 10500, .inl (upd (u.2.1 145) i x))) = mCl ca h0 ad (mA u 145 i x) := rfl
set_option maxRecDepth 100000 in
theorem mF_146 {ad : Nat → Nat} {u : mST} : (mFs ad u)[146]? = some (.ref (ad 146)) := rfl
set_option maxRecDepth 100000 in
theorem mG_146 {ca : Nat → ClassId} {h0 : Nat} {ad : Nat → Nat} {u : mST} : (mCl ca h0 ad u)[93]? = some (ad 146, .inl (ca 146, 350, .inl (u.2.1 146))) := rfl
set_option maxRecDepth 100000 in
theorem mSA_146 {ca : Nat → ClassId} {h0 : Nat} {ad : Nat → Nat} {u : mST} {i : Nat} {x : Int32} : (mCl ca h0 ad u).set 93 (ad 146, .inl (ca 146, 350, .inl (upd (u.2.1 146) i x))) = mCl ca h0 ad (mA u 146 i x) := rfl
set_option maxRecDepth 100000 in
theorem mF_147 {ad : Nat → Nat} {u : mST} : (mFs ad u)[147]? = some (.int (u.1 147)) := rfl
set_option maxRecDepth 100000 in
theorem mSI_147 {ca : Nat → ClassId} {h0 : Nat} {ad : Nat → Nat} {u : mST} {x : Int32} : (mCl ca h0 ad u).set 0 (h0, .inr (12, (mFs ad u).set 147 (.int x))) = mCl ca h0 ad (mI u 147 x) := rfl
set_option maxRecDepth 100000 in
theorem mF_148 {ad : Nat → Nat} {u : mST} : (mFs ad u)[148]? = some (.int (u.1 148)) := rfl
set_option maxRecDepth 100000 in
theorem mSI_148 {ca : Nat → ClassId} {h0 : Nat} {ad : Nat → Nat} {u : mST} {x : Int32} : (mCl ca h0 ad u).set 0 (h0, .inr (12, (mFs ad u).set 148 (.int x))) = mCl ca h0 ad (mI u 148 x) := rfl
theorem mI_s (u : mST) (k : Nat) (v : Int32) : (mI u k v).1 k = v := if_pos rfl
theorem mI_n (u : mST) {k j : Nat} (v : Int32) (h : j ≠ k) : (mI u k v).1 j = u.1 j := if_neg h
theorem mI_r (u : mST) (k : Nat) (v : Int32) : (mI u k v).2 = u.2 := rfl
theorem mA_i (u : mST) (k i : Nat) (v : Int32) : (mA u k i v).1 = u.1 := rfl
theorem mA_s (u : mST) (k i : Nat) (v : Int32) : (mA u k i v).2.1 k = upd (u.2.1 k) i v := if_pos rfl
theorem mA_n (u : mST) {k j : Nat} (i : Nat) (v : Int32) (h : j ≠ k) : (mA u k i v).2.1 j = u.2.1 j := if_neg h
set_option maxRecDepth 100000 in
theorem mSL_5 {ca : Nat → ClassId} {h0 : Nat} {ad : Nat → Nat} {u : mST} {i : Nat} {x : Int64} : (mCl ca h0 ad u).set 6 (ad 5, .inl (ca 5, 40000, .inr (.inl (vp_updL u.2.2 i x)))) = mCl ca h0 ad (u.1, u.2.1, vp_updL u.2.2 i x) := rfl
