def strLen (w : List Int32) : Int32 := Int32.ofNat w.length
def strAt (w : List Int32) (i : Int32) : Int32 := w.getD i.toNatClampNeg 0
def strIxF (c : Int32) : List Int32 → Nat → Int32
  | [], _ => -1
  | b :: l, k => if b = c then nI k else strIxF c l (k + 1)
def strIdx (w : List Int32) (c : Int32) : Int32 := strIxF c w 0
def tabL : List Int32 := [-1, 0, 0, 0, 1, 2, 3]
def tabA (i : Int32) : Int32 := tabL.getD i.toNatClampNeg 0
def str_53 : List Int32 := [103, 102, 97]
def str_59 : List Int32 := [103, 114, 101, 97, 116, 32]
def str_61 : List Int32 := [102, 97, 114, 32]
def str_63 : List Int32 := [97, 114, 109, 115, 32]
def str_96 : List Int32 := [112, 107, 118, 99, 110, 114]
def str_98 : List Int32 := [60, 61, 62]
/-- a row of bytes that was there at the start, nobody writes it -/
def mjByt (G : Gw) (v : Nat) (w : List Int32) : Prop := va_T .byte v w.length (fun j => .int (w.getD j 0)) (gA G) (gs0 G) (gs0 G).heap
/-- a String that was there at the start, of one byte a sign -/
def mjStr (G : Gw) (a : Nat) (w : List Int32) : Prop := w.length < 2 ^ 31 ∧ va_O "java/lang/String" a (gA G) (gs0 G) (gs0 G).heap ∧ va_OF "java/lang/String" "coder" "B" (.int 0) a (gA G) (gs0 G) (gs0 G).heap ∧ ∃ v : Nat, va_OF "java/lang/String" "value" "[B" (.ref v) a (gA G) (gs0 G) (gs0 G).heap ∧ mjByt G v w
/-- the table of the kinds above -/
def mjTab (G : Gw) (t : Nat) : Prop := va_T .int t 7 (fun j => .int (tabL.getD j 0)) (gA G) (gs0 G) (gs0 G).heap
