abbrev jrem (x y : Int32) : Int32 := x - x / y * y
abbrev jshl (x y : Int32) : Int32 := x <<< (y &&& 31)
abbrev jshr (x y : Int32) : Int32 := x >>> (y &&& 31)
abbrev jushr (x y : Int32) : Int32 := (x.toUInt32 >>> (y.toUInt32 &&& Int32.toUInt32 31)).toInt32
abbrev jlshl (x : Int64) (y : Int32) : Int64 := x <<< (y.toInt64 &&& 63)
abbrev jlushr (x : Int64) (y : Int32) : Int64 := (x.toUInt64 >>> (y.toInt64.toUInt64 &&& Int64.toUInt64 63)).toInt64
abbrev ji2b (x : Int32) : Int32 := x.toInt8.toInt32
abbrev ji2c (x : Int32) : Int32 := (x.toUInt32 % 65536).toInt32
abbrev jmin (x y : Int32) : Int32 := if y < x then y else x
abbrev jmax (x y : Int32) : Int32 := if x < y then y else x
abbrev jabs (x : Int32) : Int32 := if 0 ≤ x then x else 0 - x
abbrev jminL (x y : Int64) : Int64 := if y < x then y else x
theorem rv_text {s : PS} (h : mr s 16 4 = some 11) : fv s 7 16 4 = .ref 11 := by
  show va_rf (mr s 16 4) = _
  rw [h]
  rfl
