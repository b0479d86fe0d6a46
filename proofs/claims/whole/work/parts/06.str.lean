def y_Str_length : MethodName := ⟨"java/lang/String", "length", "()I"⟩
def y_Str_charAt : MethodName := ⟨"java/lang/String", "charAt", "(I)C"⟩
def f_Str_length (w : Nat) (σ : Mem) : Option (Int32 × Mem) := if w < 6 then some (nI (lenS.getD w 0), σ) else none
def f_Str_charAt (w : Nat) (i : Int32) (σ : Mem) : Option (Int32 × Mem) := if w < 6 then if ib i (lenS.getD w 0) then some ((bytS.getD w []).getD i.toNatClampNeg 0, σ) else none else none
theorem c_Str_length {X : CX} (l : Launch) (w : Nat) (hw : w < 6) (σ : Mem) : CT X l y_Str_length prog_12_method_54_code 1 (some .int) 1 vI [.ref (xk X w)] σ (f_Str_length w σ) := sorry
theorem c_Str_charAt {X : CX} (l : Launch) (w : Nat) (p1 : Int32) (hw : w < 6) (σ : Mem) : CT X l y_Str_charAt prog_12_method_56_code 2 (some .char) 4 vI [.ref (xk X w), .int p1] σ (f_Str_charAt w p1 σ) := sorry
