/-! Numbers that the code names -/
theorem am_cN0 : Int32.toNatClampNeg 0 = 0 := by decide +kernel
theorem am_cN1 : Int32.toNatClampNeg 1 = 1 := by decide +kernel
theorem am_cN2 : Int32.toNatClampNeg 2 = 2 := by decide +kernel
theorem am_cN3 : Int32.toNatClampNeg 3 = 3 := by decide +kernel
theorem am_cN4 : Int32.toNatClampNeg 4 = 4 := by decide +kernel
theorem am_cN5 : Int32.toNatClampNeg 5 = 5 := by decide +kernel
theorem am_cbm20 : (Int8.ofInt (-20)).toInt32 = (-20) := by decide +kernel
theorem am_cb6 : (Int8.ofInt 6).toInt32 = 6 := by decide +kernel
theorem am_cb7 : (Int8.ofInt 7).toInt32 = 7 := by decide +kernel
theorem am_cb8 : (Int8.ofInt 8).toInt32 = 8 := by decide +kernel
theorem am_cb9 : (Int8.ofInt 9).toInt32 = 9 := by decide +kernel
theorem am_cb10 : (Int8.ofInt 10).toInt32 = 10 := by decide +kernel
theorem am_cb11 : (Int8.ofInt 11).toInt32 = 11 := by decide +kernel
theorem am_cb12 : (Int8.ofInt 12).toInt32 = 12 := by decide +kernel
theorem am_cb16 : (Int8.ofInt 16).toInt32 = 16 := by decide +kernel
theorem am_cb17 : (Int8.ofInt 17).toInt32 = 17 := by decide +kernel
theorem am_cb18 : (Int8.ofInt 18).toInt32 = 18 := by decide +kernel
theorem am_cb20 : (Int8.ofInt 20).toInt32 = 20 := by decide +kernel
theorem am_cb24 : (Int8.ofInt 24).toInt32 = 24 := by decide +kernel
theorem am_cb25 : (Int8.ofInt 25).toInt32 = 25 := by decide +kernel
theorem am_cb27 : (Int8.ofInt 27).toInt32 = 27 := by decide +kernel
theorem am_cb32 : (Int8.ofInt 32).toInt32 = 32 := by decide +kernel
theorem am_cb35 : (Int8.ofInt 35).toInt32 = 35 := by decide +kernel
theorem am_cb37 : (Int8.ofInt 37).toInt32 = 37 := by decide +kernel
theorem am_cb38 : (Int8.ofInt 38).toInt32 = 38 := by decide +kernel
theorem am_cb39 : (Int8.ofInt 39).toInt32 = 39 := by decide +kernel
theorem am_cb40 : (Int8.ofInt 40).toInt32 = 40 := by decide +kernel
theorem am_cb41 : (Int8.ofInt 41).toInt32 = 41 := by decide +kernel
theorem am_cb42 : (Int8.ofInt 42).toInt32 = 42 := by decide +kernel
theorem am_cb43 : (Int8.ofInt 43).toInt32 = 43 := by decide +kernel
theorem am_cb44 : (Int8.ofInt 44).toInt32 = 44 := by decide +kernel
theorem am_cb45 : (Int8.ofInt 45).toInt32 = 45 := by decide +kernel
theorem am_cb47 : (Int8.ofInt 47).toInt32 = 47 := by decide +kernel
theorem am_cb48 : (Int8.ofInt 48).toInt32 = 48 := by decide +kernel
theorem am_cb57 : (Int8.ofInt 57).toInt32 = 57 := by decide +kernel
theorem am_cb59 : (Int8.ofInt 59).toInt32 = 59 := by decide +kernel
theorem am_cb60 : (Int8.ofInt 60).toInt32 = 60 := by decide +kernel
theorem am_cb63 : (Int8.ofInt 63).toInt32 = 63 := by decide +kernel
theorem am_cb64 : (Int8.ofInt 64).toInt32 = 64 := by decide +kernel
theorem am_cb91 : (Int8.ofInt 91).toInt32 = 91 := by decide +kernel
theorem am_cb92 : (Int8.ofInt 92).toInt32 = 92 := by decide +kernel
theorem am_cb93 : (Int8.ofInt 93).toInt32 = 93 := by decide +kernel
theorem am_cb95 : (Int8.ofInt 95).toInt32 = 95 := by decide +kernel
theorem am_cb96 : (Int8.ofInt 96).toInt32 = 96 := by decide +kernel
theorem am_cb97 : (Int8.ofInt 97).toInt32 = 97 := by decide +kernel
theorem am_cb122 : (Int8.ofInt 122).toInt32 = 122 := by decide +kernel
theorem am_cb124 : (Int8.ofInt 124).toInt32 = 124 := by decide +kernel
theorem am_cb126 : (Int8.ofInt 126).toInt32 = 126 := by decide +kernel
theorem am_cb127 : (Int8.ofInt 127).toInt32 = 127 := by decide +kernel
theorem am_ccm8 : Int32.ofInt (-8) = (-8) := by decide +kernel
theorem am_ccm1 : Int32.ofInt (-1) = (-1) := by decide +kernel
theorem am_cc0 : Int32.ofInt 0 = 0 := by decide +kernel
theorem am_cc1 : Int32.ofInt 1 = 1 := by decide +kernel
theorem am_cc2 : Int32.ofInt 2 = 2 := by decide +kernel
theorem am_cc3 : Int32.ofInt 3 = 3 := by decide +kernel
theorem am_cc4 : Int32.ofInt 4 = 4 := by decide +kernel
theorem am_cc5 : Int32.ofInt 5 = 5 := by decide +kernel
theorem am_cc12 : Int32.ofInt 12 = 12 := by decide +kernel
theorem am_cs150 : (Int16.ofInt 150).toInt32 = 150 := by decide +kernel
theorem am_cs192 : (Int16.ofInt 192).toInt32 = 192 := by decide +kernel
theorem am_cs200 : (Int16.ofInt 200).toInt32 = 200 := by decide +kernel
theorem am_cs255 : (Int16.ofInt 255).toInt32 = 255 := by decide +kernel
theorem am_cs256 : (Int16.ofInt 256).toInt32 = 256 := by decide +kernel
theorem am_cs400 : (Int16.ofInt 400).toInt32 = 400 := by decide +kernel
theorem am_cs408 : (Int16.ofInt 408).toInt32 = 408 := by decide +kernel
theorem am_cs426 : (Int16.ofInt 426).toInt32 = 426 := by decide +kernel
theorem am_cs600 : (Int16.ofInt 600).toInt32 = 600 := by decide +kernel
theorem am_cs625 : (Int16.ofInt 625).toInt32 = 625 := by decide +kernel
theorem am_cs972 : (Int16.ofInt 972).toInt32 = 972 := by decide +kernel
theorem am_cs992 : (Int16.ofInt 992).toInt32 = 992 := by decide +kernel
theorem am_cs999 : (Int16.ofInt 999).toInt32 = 999 := by decide +kernel
theorem am_cs1000 : (Int16.ofInt 1000).toInt32 = 1000 := by decide +kernel
theorem am_cs1008 : (Int16.ofInt 1008).toInt32 = 1008 := by decide +kernel
theorem am_cs1040 : (Int16.ofInt 1040).toInt32 = 1040 := by decide +kernel
theorem am_cs5000 : (Int16.ofInt 5000).toInt32 = 5000 := by decide +kernel
theorem am_cs9999 : (Int16.ofInt 9999).toInt32 = 9999 := by decide +kernel
theorem am_cs10000 : (Int16.ofInt 10000).toInt32 = 10000 := by decide +kernel
theorem am_cs12345 : (Int16.ofInt 12345).toInt32 = 12345 := by decide +kernel
theorem am_cs32767 : (Int16.ofInt 32767).toInt32 = 32767 := by decide +kernel
theorem am_blt {q : Nat} {s : am_K} (h : am_SH[q]? = some s) : Nat.blt q am_SH.length = true := Nat.blt_eq.mpr (List.getElem?_eq_some_iff.mp h).1
theorem am_vT {a b c : Bool} (h : a = true) (hb : b = true) (hc : c = true) : (a && b && c) = true := by rw [h, hb, hc]; rfl
theorem am_SHlen : am_SH.length = 203 := by decide +kernel
theorem am_bltc {q : Nat} (h : Nat.blt q 203 = true) : Nat.blt q am_SH.length = true := by rw [am_SHlen]; exact h
def am_k1 (x : Option Value) : Bool := match x with
  | some v => !Nat.beq v.category 2
  | none => true
theorem am_kill_x {ls : am_L} {j : Nat} {x : Option Value} (hj : ls[j]? = some x) (hx : am_k1 x = true) : am_kill ls (j + 1) = ls := by
  show (match ls[j]? with | some (some v) => _ | _ => ls) = ls
  rw [hj]
  cases x with
  | none => rfl
  | some v =>
    have : Nat.beq v.category 2 = false := by simpa [am_k1] using hx
    show (match Nat.beq v.category 2 with | true => _ | false => ls) = ls
    rw [this]
theorem am_set1_k {ls ls' : am_L} {i : Nat} {v : Value} (h : am_kill ls i = ls) (hs : ls.set i (some v) = ls') : am_set1 ls i v = ls' := by
  unfold am_set1
  rw [h, hs]
theorem am_set2_k {ls ls' : am_L} {i : Nat} {v : Value} (h : am_kill ls i = ls) (hs : (ls.set i (some v)).set (i + 1) none = ls') : am_set2 ls i v = ls' := by
  unfold am_set2
  rw [h, hs]
