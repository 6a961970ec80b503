/-! ===== CELLS: reads and writes of the two worlds ===== -/
/-- a register alone, as its constructor has it -/
def rw (q : Nat → Nat) (aI : ClassId) (M : xM) : va_W := [
  (q 0, .inr (2, [.ref (q 1), .ref (q 2), .ref (q 3), .ref (q 4), .ref (q 5), .int (M.1 0), .int (M.1 1), .int (M.1 2), .int (M.1 3)])),
  (q 1, .inl (aI, 5, .inl (M.2.2 0))),
  (q 2, .inl (aI, 9, .inl (M.2.2 1))),
  (q 3, .inl (aI, 8, .inl (M.2.2 2))),
  (q 4, .inl (aI, 8, .inl (M.2.2 3))),
  (q 5, .inl (aI, 8, .inl (M.2.2 4)))]
section CELLS
variable {q : Nat → Nat} {aI : ClassId} {M : xM}
theorem cwG_0 : (cw q aI M)[0]? = some (q 0, .inr (5, [.ref (q 1), .ref (q 3), .ref (q 18), .ref (q 21), .int (M.1 0)])) := rfl
theorem cwI_0 {v : Int32} : (cw q aI M).set 0 (q 0, .inr (5, ([.ref (q 1), .ref (q 3), .ref (q 18), .ref (q 21), .int (M.1 0)] : List Value).set 4 (.int v))) = cw q aI (xI M 0 v) := rfl
theorem cwG_1 : (cw q aI M)[1]? = some (q 1, .inr (1, [.ref (q 2), .int (M.1 1)])) := rfl
theorem cwI_1 {v : Int32} : (cw q aI M).set 1 (q 1, .inr (1, ([.ref (q 2), .int (M.1 1)] : List Value).set 1 (.int v))) = cw q aI (xI M 1 v) := rfl
theorem cwG_2 : (cw q aI M)[2]? = some (q 2, .inl (aI, 36, .inl (M.2.2 0))) := rfl
theorem cwA_0 {g : Nat → Int32} : (cw q aI M).set 2 (q 2, .inl (aI, 36, .inl g)) = cw q aI (xA M 0 g) := rfl
theorem cwG_3 : (cw q aI M)[3]? = some (q 3, .inr (3, [.ref (q 4), .ref (q 5), .ref (q 6), .ref (q 12), .int (M.1 2), .int (M.1 3), .int (M.1 4)])) := rfl
theorem cwI_2 {v : Int32} : (cw q aI M).set 3 (q 3, .inr (3, ([.ref (q 4), .ref (q 5), .ref (q 6), .ref (q 12), .int (M.1 2), .int (M.1 3), .int (M.1 4)] : List Value).set 4 (.int v))) = cw q aI (xI M 2 v) := rfl
theorem cwI_3 {v : Int32} : (cw q aI M).set 3 (q 3, .inr (3, ([.ref (q 4), .ref (q 5), .ref (q 6), .ref (q 12), .int (M.1 2), .int (M.1 3), .int (M.1 4)] : List Value).set 5 (.int v))) = cw q aI (xI M 3 v) := rfl
theorem cwI_4 {v : Int32} : (cw q aI M).set 3 (q 3, .inr (3, ([.ref (q 4), .ref (q 5), .ref (q 6), .ref (q 12), .int (M.1 2), .int (M.1 3), .int (M.1 4)] : List Value).set 6 (.int v))) = cw q aI (xI M 4 v) := rfl
theorem cwG_4 : (cw q aI M)[4]? = some (q 4, .inl (aI, 15, .inl (M.2.2 1))) := rfl
theorem cwA_1 {g : Nat → Int32} : (cw q aI M).set 4 (q 4, .inl (aI, 15, .inl g)) = cw q aI (xA M 1 g) := rfl
theorem cwG_5 : (cw q aI M)[5]? = some (q 5, .inl (aI, 3, .inl (M.2.2 2))) := rfl
theorem cwA_2 {g : Nat → Int32} : (cw q aI M).set 5 (q 5, .inl (aI, 3, .inl g)) = cw q aI (xA M 2 g) := rfl
theorem cwG_6 : (cw q aI M)[6]? = some (q 6, .inr (2, [.ref (q 7), .ref (q 8), .ref (q 9), .ref (q 10), .ref (q 11), .int (M.1 5), .int (M.1 6), .int (M.1 7), .int (M.1 8)])) := rfl
theorem cwI_5 {v : Int32} : (cw q aI M).set 6 (q 6, .inr (2, ([.ref (q 7), .ref (q 8), .ref (q 9), .ref (q 10), .ref (q 11), .int (M.1 5), .int (M.1 6), .int (M.1 7), .int (M.1 8)] : List Value).set 5 (.int v))) = cw q aI (xI M 5 v) := rfl
theorem cwI_6 {v : Int32} : (cw q aI M).set 6 (q 6, .inr (2, ([.ref (q 7), .ref (q 8), .ref (q 9), .ref (q 10), .ref (q 11), .int (M.1 5), .int (M.1 6), .int (M.1 7), .int (M.1 8)] : List Value).set 6 (.int v))) = cw q aI (xI M 6 v) := rfl
theorem cwI_7 {v : Int32} : (cw q aI M).set 6 (q 6, .inr (2, ([.ref (q 7), .ref (q 8), .ref (q 9), .ref (q 10), .ref (q 11), .int (M.1 5), .int (M.1 6), .int (M.1 7), .int (M.1 8)] : List Value).set 7 (.int v))) = cw q aI (xI M 7 v) := rfl
theorem cwI_8 {v : Int32} : (cw q aI M).set 6 (q 6, .inr (2, ([.ref (q 7), .ref (q 8), .ref (q 9), .ref (q 10), .ref (q 11), .int (M.1 5), .int (M.1 6), .int (M.1 7), .int (M.1 8)] : List Value).set 8 (.int v))) = cw q aI (xI M 8 v) := rfl
theorem cwG_7 : (cw q aI M)[7]? = some (q 7, .inl (aI, 5, .inl (M.2.2 3))) := rfl
theorem cwA_3 {g : Nat → Int32} : (cw q aI M).set 7 (q 7, .inl (aI, 5, .inl g)) = cw q aI (xA M 3 g) := rfl
theorem cwG_8 : (cw q aI M)[8]? = some (q 8, .inl (aI, 9, .inl (M.2.2 4))) := rfl
theorem cwA_4 {g : Nat → Int32} : (cw q aI M).set 8 (q 8, .inl (aI, 9, .inl g)) = cw q aI (xA M 4 g) := rfl
theorem cwG_9 : (cw q aI M)[9]? = some (q 9, .inl (aI, 8, .inl (M.2.2 5))) := rfl
theorem cwA_5 {g : Nat → Int32} : (cw q aI M).set 9 (q 9, .inl (aI, 8, .inl g)) = cw q aI (xA M 5 g) := rfl
theorem cwG_10 : (cw q aI M)[10]? = some (q 10, .inl (aI, 8, .inl (M.2.2 6))) := rfl
theorem cwA_6 {g : Nat → Int32} : (cw q aI M).set 10 (q 10, .inl (aI, 8, .inl g)) = cw q aI (xA M 6 g) := rfl
theorem cwG_11 : (cw q aI M)[11]? = some (q 11, .inl (aI, 8, .inl (M.2.2 7))) := rfl
theorem cwA_7 {g : Nat → Int32} : (cw q aI M).set 11 (q 11, .inl (aI, 8, .inl g)) = cw q aI (xA M 7 g) := rfl
theorem cwG_12 : (cw q aI M)[12]? = some (q 12, .inr (2, [.ref (q 13), .ref (q 14), .ref (q 15), .ref (q 16), .ref (q 17), .int (M.1 9), .int (M.1 10), .int (M.1 11), .int (M.1 12)])) := rfl
theorem cwI_9 {v : Int32} : (cw q aI M).set 12 (q 12, .inr (2, ([.ref (q 13), .ref (q 14), .ref (q 15), .ref (q 16), .ref (q 17), .int (M.1 9), .int (M.1 10), .int (M.1 11), .int (M.1 12)] : List Value).set 5 (.int v))) = cw q aI (xI M 9 v) := rfl
theorem cwI_10 {v : Int32} : (cw q aI M).set 12 (q 12, .inr (2, ([.ref (q 13), .ref (q 14), .ref (q 15), .ref (q 16), .ref (q 17), .int (M.1 9), .int (M.1 10), .int (M.1 11), .int (M.1 12)] : List Value).set 6 (.int v))) = cw q aI (xI M 10 v) := rfl
theorem cwI_11 {v : Int32} : (cw q aI M).set 12 (q 12, .inr (2, ([.ref (q 13), .ref (q 14), .ref (q 15), .ref (q 16), .ref (q 17), .int (M.1 9), .int (M.1 10), .int (M.1 11), .int (M.1 12)] : List Value).set 7 (.int v))) = cw q aI (xI M 11 v) := rfl
theorem cwI_12 {v : Int32} : (cw q aI M).set 12 (q 12, .inr (2, ([.ref (q 13), .ref (q 14), .ref (q 15), .ref (q 16), .ref (q 17), .int (M.1 9), .int (M.1 10), .int (M.1 11), .int (M.1 12)] : List Value).set 8 (.int v))) = cw q aI (xI M 12 v) := rfl
theorem cwG_13 : (cw q aI M)[13]? = some (q 13, .inl (aI, 5, .inl (M.2.2 8))) := rfl
theorem cwA_8 {g : Nat → Int32} : (cw q aI M).set 13 (q 13, .inl (aI, 5, .inl g)) = cw q aI (xA M 8 g) := rfl
theorem cwG_14 : (cw q aI M)[14]? = some (q 14, .inl (aI, 9, .inl (M.2.2 9))) := rfl
theorem cwA_9 {g : Nat → Int32} : (cw q aI M).set 14 (q 14, .inl (aI, 9, .inl g)) = cw q aI (xA M 9 g) := rfl
theorem cwG_15 : (cw q aI M)[15]? = some (q 15, .inl (aI, 8, .inl (M.2.2 10))) := rfl
theorem cwA_10 {g : Nat → Int32} : (cw q aI M).set 15 (q 15, .inl (aI, 8, .inl g)) = cw q aI (xA M 10 g) := rfl
theorem cwG_16 : (cw q aI M)[16]? = some (q 16, .inl (aI, 8, .inl (M.2.2 11))) := rfl
theorem cwA_11 {g : Nat → Int32} : (cw q aI M).set 16 (q 16, .inl (aI, 8, .inl g)) = cw q aI (xA M 11 g) := rfl
theorem cwG_17 : (cw q aI M)[17]? = some (q 17, .inl (aI, 8, .inl (M.2.2 12))) := rfl
theorem cwA_12 {g : Nat → Int32} : (cw q aI M).set 17 (q 17, .inl (aI, 8, .inl g)) = cw q aI (xA M 12 g) := rfl
theorem cwG_18 : (cw q aI M)[18]? = some (q 18, .inr (0, [.ref (q 19), .ref (q 20), .int (M.1 13), .int (M.1 14), .int (M.1 15)])) := rfl
theorem cwI_13 {v : Int32} : (cw q aI M).set 18 (q 18, .inr (0, ([.ref (q 19), .ref (q 20), .int (M.1 13), .int (M.1 14), .int (M.1 15)] : List Value).set 2 (.int v))) = cw q aI (xI M 13 v) := rfl
theorem cwI_14 {v : Int32} : (cw q aI M).set 18 (q 18, .inr (0, ([.ref (q 19), .ref (q 20), .int (M.1 13), .int (M.1 14), .int (M.1 15)] : List Value).set 3 (.int v))) = cw q aI (xI M 14 v) := rfl
theorem cwI_15 {v : Int32} : (cw q aI M).set 18 (q 18, .inr (0, ([.ref (q 19), .ref (q 20), .int (M.1 13), .int (M.1 14), .int (M.1 15)] : List Value).set 4 (.int v))) = cw q aI (xI M 15 v) := rfl
theorem cwG_19 : (cw q aI M)[19]? = some (q 19, .inl (aI, 15, .inl (M.2.2 13))) := rfl
theorem cwA_13 {g : Nat → Int32} : (cw q aI M).set 19 (q 19, .inl (aI, 15, .inl g)) = cw q aI (xA M 13 g) := rfl
theorem cwG_20 : (cw q aI M)[20]? = some (q 20, .inl (aI, 3, .inl (M.2.2 14))) := rfl
theorem cwA_14 {g : Nat → Int32} : (cw q aI M).set 20 (q 20, .inl (aI, 3, .inl g)) = cw q aI (xA M 14 g) := rfl
theorem cwG_21 : (cw q aI M)[21]? = some (q 21, .inr (4, [.long M.2.1, .int (M.1 16), .int (M.1 17)])) := rfl
theorem cwL {v : Int64} : (cw q aI M).set 21 (q 21, .inr (4, ([.long M.2.1, .int (M.1 16), .int (M.1 17)] : List Value).set 0 (.long v))) = cw q aI (xL M v) := rfl
theorem cwI_16 {v : Int32} : (cw q aI M).set 21 (q 21, .inr (4, ([.long M.2.1, .int (M.1 16), .int (M.1 17)] : List Value).set 1 (.int v))) = cw q aI (xI M 16 v) := rfl
theorem cwI_17 {v : Int32} : (cw q aI M).set 21 (q 21, .inr (4, ([.long M.2.1, .int (M.1 16), .int (M.1 17)] : List Value).set 2 (.int v))) = cw q aI (xI M 17 v) := rfl
theorem dwG_0 : (dw q aI M)[0]? = some (q 0, .inr (6, [.ref (q 1), .int (M.1 0), .int (M.1 1), .int (M.1 2), .int (M.1 3), .int (M.1 4), .int (M.1 5), .int (M.1 6), .int (M.1 7), .ref (q 2), .ref (q 3), .ref (q 4), .ref (q 5), .ref (q 6), .int (M.1 8), .ref (q 7), .int (M.1 9), .ref (q 8), .int (M.1 10), .int (M.1 11), .int (M.1 12), .int (M.1 13), .int (M.1 14), .ref (q 9), .ref (q 10), .ref (q 11), .long M.2.1])) := rfl
theorem dwI_0 {v : Int32} : (dw q aI M).set 0 (q 0, .inr (6, ([.ref (q 1), .int (M.1 0), .int (M.1 1), .int (M.1 2), .int (M.1 3), .int (M.1 4), .int (M.1 5), .int (M.1 6), .int (M.1 7), .ref (q 2), .ref (q 3), .ref (q 4), .ref (q 5), .ref (q 6), .int (M.1 8), .ref (q 7), .int (M.1 9), .ref (q 8), .int (M.1 10), .int (M.1 11), .int (M.1 12), .int (M.1 13), .int (M.1 14), .ref (q 9), .ref (q 10), .ref (q 11), .long M.2.1] : List Value).set 1 (.int v))) = dw q aI (xI M 0 v) := rfl
theorem dwI_1 {v : Int32} : (dw q aI M).set 0 (q 0, .inr (6, ([.ref (q 1), .int (M.1 0), .int (M.1 1), .int (M.1 2), .int (M.1 3), .int (M.1 4), .int (M.1 5), .int (M.1 6), .int (M.1 7), .ref (q 2), .ref (q 3), .ref (q 4), .ref (q 5), .ref (q 6), .int (M.1 8), .ref (q 7), .int (M.1 9), .ref (q 8), .int (M.1 10), .int (M.1 11), .int (M.1 12), .int (M.1 13), .int (M.1 14), .ref (q 9), .ref (q 10), .ref (q 11), .long M.2.1] : List Value).set 2 (.int v))) = dw q aI (xI M 1 v) := rfl
theorem dwI_2 {v : Int32} : (dw q aI M).set 0 (q 0, .inr (6, ([.ref (q 1), .int (M.1 0), .int (M.1 1), .int (M.1 2), .int (M.1 3), .int (M.1 4), .int (M.1 5), .int (M.1 6), .int (M.1 7), .ref (q 2), .ref (q 3), .ref (q 4), .ref (q 5), .ref (q 6), .int (M.1 8), .ref (q 7), .int (M.1 9), .ref (q 8), .int (M.1 10), .int (M.1 11), .int (M.1 12), .int (M.1 13), .int (M.1 14), .ref (q 9), .ref (q 10), .ref (q 11), .long M.2.1] : List Value).set 3 (.int v))) = dw q aI (xI M 2 v) := rfl
theorem dwI_3 {v : Int32} : (dw q aI M).set 0 (q 0, .inr (6, ([.ref (q 1), .int (M.1 0), .int (M.1 1), .int (M.1 2), .int (M.1 3), .int (M.1 4), .int (M.1 5), .int (M.1 6), .int (M.1 7), .ref (q 2), .ref (q 3), .ref (q 4), .ref (q 5), .ref (q 6), .int (M.1 8), .ref (q 7), .int (M.1 9), .ref (q 8), .int (M.1 10), .int (M.1 11), .int (M.1 12), .int (M.1 13), .int (M.1 14), .ref (q 9), .ref (q 10), .ref (q 11), .long M.2.1] : List Value).set 4 (.int v))) = dw q aI (xI M 3 v) := rfl
theorem dwI_4 {v : Int32} : (dw q aI M).set 0 (q 0, .inr (6, ([.ref (q 1), .int (M.1 0), .int (M.1 1), .int (M.1 2), .int (M.1 3), .int (M.1 4), .int (M.1 5), .int (M.1 6), .int (M.1 7), .ref (q 2), .ref (q 3), .ref (q 4), .ref (q 5), .ref (q 6), .int (M.1 8), .ref (q 7), .int (M.1 9), .ref (q 8), .int (M.1 10), .int (M.1 11), .int (M.1 12), .int (M.1 13), .int (M.1 14), .ref (q 9), .ref (q 10), .ref (q 11), .long M.2.1] : List Value).set 5 (.int v))) = dw q aI (xI M 4 v) := rfl
theorem dwI_5 {v : Int32} : (dw q aI M).set 0 (q 0, .inr (6, ([.ref (q 1), .int (M.1 0), .int (M.1 1), .int (M.1 2), .int (M.1 3), .int (M.1 4), .int (M.1 5), .int (M.1 6), .int (M.1 7), .ref (q 2), .ref (q 3), .ref (q 4), .ref (q 5), .ref (q 6), .int (M.1 8), .ref (q 7), .int (M.1 9), .ref (q 8), .int (M.1 10), .int (M.1 11), .int (M.1 12), .int (M.1 13), .int (M.1 14), .ref (q 9), .ref (q 10), .ref (q 11), .long M.2.1] : List Value).set 6 (.int v))) = dw q aI (xI M 5 v) := rfl
theorem dwI_6 {v : Int32} : (dw q aI M).set 0 (q 0, .inr (6, ([.ref (q 1), .int (M.1 0), .int (M.1 1), .int (M.1 2), .int (M.1 3), .int (M.1 4), .int (M.1 5), .int (M.1 6), .int (M.1 7), .ref (q 2), .ref (q 3), .ref (q 4), .ref (q 5), .ref (q 6), .int (M.1 8), .ref (q 7), .int (M.1 9), .ref (q 8), .int (M.1 10), .int (M.1 11), .int (M.1 12), .int (M.1 13), .int (M.1 14), .ref (q 9), .ref (q 10), .ref (q 11), .long M.2.1] : List Value).set 7 (.int v))) = dw q aI (xI M 6 v) := rfl
theorem dwI_7 {v : Int32} : (dw q aI M).set 0 (q 0, .inr (6, ([.ref (q 1), .int (M.1 0), .int (M.1 1), .int (M.1 2), .int (M.1 3), .int (M.1 4), .int (M.1 5), .int (M.1 6), .int (M.1 7), .ref (q 2), .ref (q 3), .ref (q 4), .ref (q 5), .ref (q 6), .int (M.1 8), .ref (q 7), .int (M.1 9), .ref (q 8), .int (M.1 10), .int (M.1 11), .int (M.1 12), .int (M.1 13), .int (M.1 14), .ref (q 9), .ref (q 10), .ref (q 11), .long M.2.1] : List Value).set 8 (.int v))) = dw q aI (xI M 7 v) := rfl
theorem dwI_8 {v : Int32} : (dw q aI M).set 0 (q 0, .inr (6, ([.ref (q 1), .int (M.1 0), .int (M.1 1), .int (M.1 2), .int (M.1 3), .int (M.1 4), .int (M.1 5), .int (M.1 6), .int (M.1 7), .ref (q 2), .ref (q 3), .ref (q 4), .ref (q 5), .ref (q 6), .int (M.1 8), .ref (q 7), .int (M.1 9), .ref (q 8), .int (M.1 10), .int (M.1 11), .int (M.1 12), .int (M.1 13), .int (M.1 14), .ref (q 9), .ref (q 10), .ref (q 11), .long M.2.1] : List Value).set 14 (.int v))) = dw q aI (xI M 8 v) := rfl
theorem dwI_9 {v : Int32} : (dw q aI M).set 0 (q 0, .inr (6, ([.ref (q 1), .int (M.1 0), .int (M.1 1), .int (M.1 2), .int (M.1 3), .int (M.1 4), .int (M.1 5), .int (M.1 6), .int (M.1 7), .ref (q 2), .ref (q 3), .ref (q 4), .ref (q 5), .ref (q 6), .int (M.1 8), .ref (q 7), .int (M.1 9), .ref (q 8), .int (M.1 10), .int (M.1 11), .int (M.1 12), .int (M.1 13), .int (M.1 14), .ref (q 9), .ref (q 10), .ref (q 11), .long M.2.1] : List Value).set 16 (.int v))) = dw q aI (xI M 9 v) := rfl
theorem dwI_10 {v : Int32} : (dw q aI M).set 0 (q 0, .inr (6, ([.ref (q 1), .int (M.1 0), .int (M.1 1), .int (M.1 2), .int (M.1 3), .int (M.1 4), .int (M.1 5), .int (M.1 6), .int (M.1 7), .ref (q 2), .ref (q 3), .ref (q 4), .ref (q 5), .ref (q 6), .int (M.1 8), .ref (q 7), .int (M.1 9), .ref (q 8), .int (M.1 10), .int (M.1 11), .int (M.1 12), .int (M.1 13), .int (M.1 14), .ref (q 9), .ref (q 10), .ref (q 11), .long M.2.1] : List Value).set 18 (.int v))) = dw q aI (xI M 10 v) := rfl
theorem dwI_11 {v : Int32} : (dw q aI M).set 0 (q 0, .inr (6, ([.ref (q 1), .int (M.1 0), .int (M.1 1), .int (M.1 2), .int (M.1 3), .int (M.1 4), .int (M.1 5), .int (M.1 6), .int (M.1 7), .ref (q 2), .ref (q 3), .ref (q 4), .ref (q 5), .ref (q 6), .int (M.1 8), .ref (q 7), .int (M.1 9), .ref (q 8), .int (M.1 10), .int (M.1 11), .int (M.1 12), .int (M.1 13), .int (M.1 14), .ref (q 9), .ref (q 10), .ref (q 11), .long M.2.1] : List Value).set 19 (.int v))) = dw q aI (xI M 11 v) := rfl
theorem dwI_12 {v : Int32} : (dw q aI M).set 0 (q 0, .inr (6, ([.ref (q 1), .int (M.1 0), .int (M.1 1), .int (M.1 2), .int (M.1 3), .int (M.1 4), .int (M.1 5), .int (M.1 6), .int (M.1 7), .ref (q 2), .ref (q 3), .ref (q 4), .ref (q 5), .ref (q 6), .int (M.1 8), .ref (q 7), .int (M.1 9), .ref (q 8), .int (M.1 10), .int (M.1 11), .int (M.1 12), .int (M.1 13), .int (M.1 14), .ref (q 9), .ref (q 10), .ref (q 11), .long M.2.1] : List Value).set 20 (.int v))) = dw q aI (xI M 12 v) := rfl
theorem dwI_13 {v : Int32} : (dw q aI M).set 0 (q 0, .inr (6, ([.ref (q 1), .int (M.1 0), .int (M.1 1), .int (M.1 2), .int (M.1 3), .int (M.1 4), .int (M.1 5), .int (M.1 6), .int (M.1 7), .ref (q 2), .ref (q 3), .ref (q 4), .ref (q 5), .ref (q 6), .int (M.1 8), .ref (q 7), .int (M.1 9), .ref (q 8), .int (M.1 10), .int (M.1 11), .int (M.1 12), .int (M.1 13), .int (M.1 14), .ref (q 9), .ref (q 10), .ref (q 11), .long M.2.1] : List Value).set 21 (.int v))) = dw q aI (xI M 13 v) := rfl
theorem dwI_14 {v : Int32} : (dw q aI M).set 0 (q 0, .inr (6, ([.ref (q 1), .int (M.1 0), .int (M.1 1), .int (M.1 2), .int (M.1 3), .int (M.1 4), .int (M.1 5), .int (M.1 6), .int (M.1 7), .ref (q 2), .ref (q 3), .ref (q 4), .ref (q 5), .ref (q 6), .int (M.1 8), .ref (q 7), .int (M.1 9), .ref (q 8), .int (M.1 10), .int (M.1 11), .int (M.1 12), .int (M.1 13), .int (M.1 14), .ref (q 9), .ref (q 10), .ref (q 11), .long M.2.1] : List Value).set 22 (.int v))) = dw q aI (xI M 14 v) := rfl
theorem dwL {v : Int64} : (dw q aI M).set 0 (q 0, .inr (6, ([.ref (q 1), .int (M.1 0), .int (M.1 1), .int (M.1 2), .int (M.1 3), .int (M.1 4), .int (M.1 5), .int (M.1 6), .int (M.1 7), .ref (q 2), .ref (q 3), .ref (q 4), .ref (q 5), .ref (q 6), .int (M.1 8), .ref (q 7), .int (M.1 9), .ref (q 8), .int (M.1 10), .int (M.1 11), .int (M.1 12), .int (M.1 13), .int (M.1 14), .ref (q 9), .ref (q 10), .ref (q 11), .long M.2.1] : List Value).set 26 (.long v))) = dw q aI (xL M v) := rfl
theorem dwG_1 : (dw q aI M)[1]? = some (q 1, .inl (aI, 36, .inl (M.2.2 0))) := rfl
theorem dwA_0 {g : Nat → Int32} : (dw q aI M).set 1 (q 1, .inl (aI, 36, .inl g)) = dw q aI (xA M 0 g) := rfl
theorem dwG_2 : (dw q aI M)[2]? = some (q 2, .inl (aI, 20, .inl (M.2.2 1))) := rfl
theorem dwA_1 {g : Nat → Int32} : (dw q aI M).set 2 (q 2, .inl (aI, 20, .inl g)) = dw q aI (xA M 1 g) := rfl
theorem dwG_3 : (dw q aI M)[3]? = some (q 3, .inl (aI, 15, .inl (M.2.2 2))) := rfl
theorem dwA_2 {g : Nat → Int32} : (dw q aI M).set 3 (q 3, .inl (aI, 15, .inl g)) = dw q aI (xA M 2 g) := rfl
theorem dwG_4 : (dw q aI M)[4]? = some (q 4, .inl (aI, 10, .inl (M.2.2 3))) := rfl
theorem dwA_3 {g : Nat → Int32} : (dw q aI M).set 4 (q 4, .inl (aI, 10, .inl g)) = dw q aI (xA M 3 g) := rfl
theorem dwG_5 : (dw q aI M)[5]? = some (q 5, .inl (aI, 3, .inl (M.2.2 4))) := rfl
theorem dwA_4 {g : Nat → Int32} : (dw q aI M).set 5 (q 5, .inl (aI, 3, .inl g)) = dw q aI (xA M 4 g) := rfl
theorem dwG_6 : (dw q aI M)[6]? = some (q 6, .inl (aI, 3, .inl (M.2.2 5))) := rfl
theorem dwA_5 {g : Nat → Int32} : (dw q aI M).set 6 (q 6, .inl (aI, 3, .inl g)) = dw q aI (xA M 5 g) := rfl
theorem dwG_7 : (dw q aI M)[7]? = some (q 7, .inl (aI, 24, .inl (M.2.2 6))) := rfl
theorem dwA_6 {g : Nat → Int32} : (dw q aI M).set 7 (q 7, .inl (aI, 24, .inl g)) = dw q aI (xA M 6 g) := rfl
theorem dwG_8 : (dw q aI M)[8]? = some (q 8, .inl (aI, 15, .inl (M.2.2 7))) := rfl
theorem dwA_7 {g : Nat → Int32} : (dw q aI M).set 8 (q 8, .inl (aI, 15, .inl g)) = dw q aI (xA M 7 g) := rfl
theorem dwG_9 : (dw q aI M)[9]? = some (q 9, .inl (aI, 20, .inl (M.2.2 8))) := rfl
theorem dwA_8 {g : Nat → Int32} : (dw q aI M).set 9 (q 9, .inl (aI, 20, .inl g)) = dw q aI (xA M 8 g) := rfl
theorem dwG_10 : (dw q aI M)[10]? = some (q 10, .inl (aI, 15, .inl (M.2.2 9))) := rfl
theorem dwA_9 {g : Nat → Int32} : (dw q aI M).set 10 (q 10, .inl (aI, 15, .inl g)) = dw q aI (xA M 9 g) := rfl
theorem dwG_11 : (dw q aI M)[11]? = some (q 11, .inl (aI, 24, .inl (M.2.2 10))) := rfl
theorem dwA_10 {g : Nat → Int32} : (dw q aI M).set 11 (q 11, .inl (aI, 24, .inl g)) = dw q aI (xA M 10 g) := rfl
theorem rwG_0 : (rw q aI M)[0]? = some (q 0, .inr (2, [.ref (q 1), .ref (q 2), .ref (q 3), .ref (q 4), .ref (q 5), .int (M.1 0), .int (M.1 1), .int (M.1 2), .int (M.1 3)])) := rfl
theorem rwI_0 {v : Int32} : (rw q aI M).set 0 (q 0, .inr (2, ([.ref (q 1), .ref (q 2), .ref (q 3), .ref (q 4), .ref (q 5), .int (M.1 0), .int (M.1 1), .int (M.1 2), .int (M.1 3)] : List Value).set 5 (.int v))) = rw q aI (xI M 0 v) := rfl
theorem rwI_1 {v : Int32} : (rw q aI M).set 0 (q 0, .inr (2, ([.ref (q 1), .ref (q 2), .ref (q 3), .ref (q 4), .ref (q 5), .int (M.1 0), .int (M.1 1), .int (M.1 2), .int (M.1 3)] : List Value).set 6 (.int v))) = rw q aI (xI M 1 v) := rfl
theorem rwI_2 {v : Int32} : (rw q aI M).set 0 (q 0, .inr (2, ([.ref (q 1), .ref (q 2), .ref (q 3), .ref (q 4), .ref (q 5), .int (M.1 0), .int (M.1 1), .int (M.1 2), .int (M.1 3)] : List Value).set 7 (.int v))) = rw q aI (xI M 2 v) := rfl
theorem rwI_3 {v : Int32} : (rw q aI M).set 0 (q 0, .inr (2, ([.ref (q 1), .ref (q 2), .ref (q 3), .ref (q 4), .ref (q 5), .int (M.1 0), .int (M.1 1), .int (M.1 2), .int (M.1 3)] : List Value).set 8 (.int v))) = rw q aI (xI M 3 v) := rfl
theorem rwG_1 : (rw q aI M)[1]? = some (q 1, .inl (aI, 5, .inl (M.2.2 0))) := rfl
theorem rwA_0 {g : Nat → Int32} : (rw q aI M).set 1 (q 1, .inl (aI, 5, .inl g)) = rw q aI (xA M 0 g) := rfl
theorem rwG_2 : (rw q aI M)[2]? = some (q 2, .inl (aI, 9, .inl (M.2.2 1))) := rfl
theorem rwA_1 {g : Nat → Int32} : (rw q aI M).set 2 (q 2, .inl (aI, 9, .inl g)) = rw q aI (xA M 1 g) := rfl
theorem rwG_3 : (rw q aI M)[3]? = some (q 3, .inl (aI, 8, .inl (M.2.2 2))) := rfl
theorem rwA_2 {g : Nat → Int32} : (rw q aI M).set 3 (q 3, .inl (aI, 8, .inl g)) = rw q aI (xA M 2 g) := rfl
theorem rwG_4 : (rw q aI M)[4]? = some (q 4, .inl (aI, 8, .inl (M.2.2 3))) := rfl
theorem rwA_3 {g : Nat → Int32} : (rw q aI M).set 4 (q 4, .inl (aI, 8, .inl g)) = rw q aI (xA M 3 g) := rfl
theorem rwG_5 : (rw q aI M)[5]? = some (q 5, .inl (aI, 8, .inl (M.2.2 4))) := rfl
theorem rwA_4 {g : Nat → Int32} : (rw q aI M).set 5 (q 5, .inl (aI, 8, .inl g)) = rw q aI (xA M 4 g) := rfl
end CELLS
theorem cZ_0 {t : Nat → Nat} {A : Nat → Prop} {U : State} (h : cE t A U) : va_Z "LostTent" "SIGN_VALUES" "[I" (.ref (t 0)) A U U.heap := h.2.2.1.1
theorem cT_0 {t : Nat → Nat} (A : Nat → Prop) (U : State) (h : cE t A U) : va_T .int (t 0) 3 (cV [10, 6, 5]) A U U.heap := h.2.2.1.2
theorem cZ_1 {t : Nat → Nat} {A : Nat → Prop} {U : State} (h : cE t A U) : va_Z "LostTent" "WRONG_A_YEAR" "[I" (.ref (t 1)) A U U.heap := h.2.2.2.1.1
theorem cT_1 {t : Nat → Nat} (A : Nat → Prop) (U : State) (h : cE t A U) : va_T .int (t 1) 5 (cV [1, 1, 3, 0, 1]) A U U.heap := h.2.2.2.1.2
theorem cZ_2 {t : Nat → Nat} {A : Nat → Prop} {U : State} (h : cE t A U) : va_Z "LostTent" "WRONG_BY_PLACE" "[I" (.ref (t 2)) A U U.heap := h.2.2.2.2.1.1
theorem cT_2 {t : Nat → Nat} (A : Nat → Prop) (U : State) (h : cE t A U) : va_T .int (t 2) 5 (cV [2, 0, 2, 0, 0]) A U U.heap := h.2.2.2.2.1.2
theorem cZ_3 {t : Nat → Nat} {A : Nat → Prop} {U : State} (h : cE t A U) : va_Z "LostTent" "WRONG_BY_LIKE" "[I" (.ref (t 3)) A U U.heap := h.2.2.2.2.2.1.1
theorem cT_3 {t : Nat → Nat} (A : Nat → Prop) (U : State) (h : cE t A U) : va_T .int (t 3) 5 (cV [2, 2, 2, 3, 2]) A U U.heap := h.2.2.2.2.2.1.2
theorem cZ_4 {t : Nat → Nat} {A : Nat → Prop} {U : State} (h : cE t A U) : va_Z "LostTent" "FITS_UP_TO" "[I" (.ref (t 4)) A U U.heap := h.2.2.2.2.2.2.1.1
theorem cT_4 {t : Nat → Nat} (A : Nat → Prop) (U : State) (h : cE t A U) : va_T .int (t 4) 5 (cV [2, 2, 2, 2, 4]) A U U.heap := h.2.2.2.2.2.2.1.2
theorem cZ_S {t : Nat → Nat} {A : Nat → Prop} {U : State} (h : cE t A U) : va_Z "java/lang/String" "COMPACT_STRINGS" "Z" (.int 1) A U U.heap := h.2.2.2.2.2.2.2.1
theorem cK_S {t : Nat → Nat} {A : Nat → Prop} {U : State} (h : cE t A U) : vk_S 1 [5] [[99, 119, 108, 104, 110]] (fun _ => t 5) (fun _ => t 6) A U U.heap := h.2.2.2.2.2.2.2.2
def xN : Nat := 400
section KV
variable {p : Program} {l : Launch} {e : Env} {R : Room} {s : State} {m : MethodId} {args : Array Value} {below : List Frame} {meth : Method} {c : Code} {H : Heap} {locs : List Loc} {cells slots : Nat} {Q : State → Prop}
variable {cc : ByteArray} {pc : Nat} {ls : Array Slot} {rest : List Value} {D : va_G} {aI : ClassId} {t : Nat → Nat} {own : String} {nL : Nat} {A : Nat → Prop}
theorem k_idiv {x y r : Int32} (X : kX D aI t p s m args c cc own nL A) (h : xdv x y = some r) (hdg : decode cc pc = .ok (.idiv, 1)) (kk : W p l e R s m args below meth c H locs cells slots Q (F0 m (pc + 1) ls (.int r :: rest))) : W p l e R s m args below meth c H locs cells slots Q (F0 m pc ls (.int y :: .int x :: rest)) := by
  obtain ⟨h1, rfl⟩ := xdv_ne h
  exact lv_idiv X.1 X.2.1 hdg h1 kk
theorem k_irem {x y r : Int32} (X : kX D aI t p s m args c cc own nL A) (h : xrm x y = some r) (hdg : decode cc pc = .ok (.irem, 1)) (kk : W p l e R s m args below meth c H locs cells slots Q (F0 m (pc + 1) ls (.int r :: rest))) : W p l e R s m args below meth c H locs cells slots Q (F0 m pc ls (.int y :: .int x :: rest)) := by
  obtain ⟨h1, rfl⟩ := xrm_ne h
  exact lv_irem X.1 X.2.1 hdg h1 kk
theorem k_lrem {x y r : Int64} (X : kX D aI t p s m args c cc own nL A) (h : xlr x y = some r) (hdg : decode cc pc = .ok (.lrem, 1)) (kk : W p l e R s m args below meth c H locs cells slots Q (F0 m (pc + 1) ls (.long r :: rest))) : W p l e R s m args below meth c H locs cells slots Q (F0 m pc ls (.long y :: .long x :: rest)) := by
  obtain ⟨h1, rfl⟩ := xlr_ne h
  exact lv_lrem X.1 X.2.1 hdg h1 kk
theorem k_mabs {index : Nat} {x : Int32} (X : kX D aI t p s m args c cc own nL A) (hls : ls.size = nL) (h1 : Cond.methodLink own index Lib.Math.abs.name ∈ xU) (hR : 1 ≤ R.frames ∧ 21 ≤ R.locals) (hroom : (rest.map fun v => v.category).sum ≤ 8) (hc0 : cells ≤ R.cells ∧ slots ≤ R.slots) (hdg : decode cc pc = .ok (.invokestatic index, 3))
    (kk : W p l e R s m args below meth c H locs cells slots Q (F0 m (pc + 3) ls (.int (if 0 ≤ x then x else 0 - x) :: rest))) : W p l e R s m args below meth c H locs cells slots Q (F0 m pc ls (.int x :: rest)) := by
  obtain ⟨hx, hb, hml, hown, hts, hK, hE, hA⟩ := X
  exact va_mabs hx hb (hml.trans hls.symm) hown (hts _ h1) (hts _ uw_2_153) (hts _ uw_1_10) (hts _ uw_2_154) hR.1 (by omega) hc0.1 hc0.2 hdg kk
theorem k_mmax {index : Nat} {x y : Int32} (X : kX D aI t p s m args c cc own nL A) (hls : ls.size = nL) (h1 : Cond.methodLink own index Lib.Math.max.name ∈ xU) (hR : 1 ≤ R.frames ∧ 21 ≤ R.locals) (hroom : (rest.map fun v => v.category).sum ≤ 8) (hc0 : cells ≤ R.cells ∧ slots ≤ R.slots) (hdg : decode cc pc = .ok (.invokestatic index, 3))
    (kk : W p l e R s m args below meth c H locs cells slots Q (F0 m (pc + 3) ls (.int (if x < y then y else x) :: rest))) : W p l e R s m args below meth c H locs cells slots Q (F0 m pc ls (.int y :: .int x :: rest)) := by
  obtain ⟨hx, hb, hml, hown, hts, hK, hE, hA⟩ := X
  exact va_mmax hx hb (hml.trans hls.symm) hown (hts _ h1) (hts _ uw_2_7) (hts _ uw_1_10) (hts _ uw_2_8) hR.1 (by omega) hc0.1 hc0.2 hdg kk
theorem k_mmin {index : Nat} {x y : Int32} (X : kX D aI t p s m args c cc own nL A) (hls : ls.size = nL) (h1 : Cond.methodLink own index Lib.Math.min.name ∈ xU) (hR : 1 ≤ R.frames ∧ 21 ≤ R.locals) (hroom : (rest.map fun v => v.category).sum ≤ 8) (hc0 : cells ≤ R.cells ∧ slots ≤ R.slots) (hdg : decode cc pc = .ok (.invokestatic index, 3))
    (kk : W p l e R s m args below meth c H locs cells slots Q (F0 m (pc + 3) ls (.int (if y < x then y else x) :: rest))) : W p l e R s m args below meth c H locs cells slots Q (F0 m pc ls (.int y :: .int x :: rest)) := by
  obtain ⟨hx, hb, hml, hown, hts, hK, hE, hA⟩ := X
  exact va_mmin hx hb (hml.trans hls.symm) hown (hts _ h1) (hts _ uw_2_10) (hts _ uw_1_10) (hts _ uw_2_11) hR.1 (by omega) hc0.1 hc0.2 hdg kk
end KV
theorem sw_eq {x : Int32} {k : Int} {v : Int32} (h : x.toInt = k) (hv : Int32.ofInt k = v) : x = v := by
  rw [← hv, ← h, Int32.ofInt_toInt]
