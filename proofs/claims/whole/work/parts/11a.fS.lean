def f_String_length (i : Nat) : Int32 := Int32.ofNat (zsL.getD i 0)
def f_String_charAt (i : Nat) (k : Int32) : Option Int32 := (ix (zsL.getD i 0) k).bind fun j => some ((zsB.getD i []).getD j 0)
