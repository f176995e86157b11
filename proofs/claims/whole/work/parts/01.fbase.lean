abbrev FU : Nat := 1000000
def bIn (i : Int32) (n : Nat) : Bool := decide (¬ i < 0) && decide (i.toNatClampNeg < n)
abbrev rd (f : Nat → Int32) (i : Int32) : Int32 := f i.toNatClampNeg
abbrev rdL (f : Nat → Int64) (i : Int32) : Int64 := f i.toNatClampNeg
abbrev wr (f : Nat → Int32) (i x : Int32) : Nat → Int32 := upd f i.toNatClampNeg x
abbrev wrC (f : Nat → Int32) (i x : Int32) : Nat → Int32 := upd f i.toNatClampNeg (vp_nar .char x)
abbrev wrL (f : Nat → Int64) (i : Int32) (x : Int64) : Nat → Int64 := vp_updL f i.toNatClampNeg x
def vLEAST : Nat → Int32 := fun j => if j = 0 then 1 else 0
def vMOST : Nat → Int32 := fun j => if j = 0 then 9 else if j = 1 then 20 else if j = 2 then 20 else if j = 3 then 6 else 4
def vFIRST : Nat → Int32 := fun j => if j = 0 then 2 else if j = 1 then 3 else if j = 2 then 3 else if j = 3 then 2 else 3
