/-! ===== a small machine over numbered cells: state, locals, one step, a run ===== -/
abbrev ip_St : Type := (Nat → Nat → Int32) × (Nat → Nat → Int64)
abbrev ip_LV : Type := List (Option Value)
abbrev ip_Cf : Type := Nat × ip_LV × List Value × ip_St
def ip_upI (S : ip_St) (c k : Nat) (v : Int32) : ip_St := (fun a b => if a = c ∧ b = k then v else S.1 a b, S.2)
def ip_upL (S : ip_St) (c k : Nat) (v : Int64) : ip_St := (S.1, fun a b => if a = c ∧ b = k then v else S.2 a b)
def ip_at : ip_LV → Nat → Option Value
  | [], _ => none
  | v :: _, 0 => v
  | _ :: t, n + 1 => ip_at t n
def ip_set : ip_LV → Nat → Option Value → Option ip_LV
  | [], _, _ => none
  | _ :: t, 0, v => some (v :: t)
  | x :: t, n + 1, v => match ip_set t n v with
    | some t' => some (x :: t')
    | none => none
def ip_kd (v : Option Value) : Option Value := match v with
  | some (.long _) => none
  | some (.double _) => none
  | w => w
/-- a long that reaches into place i is gone -/
def ip_k : ip_LV → Nat → ip_LV
  | [], _ => []
  | v :: t, 0 => v :: t
  | v :: t, 1 => ip_kd v :: t
  | v :: t, n + 2 => v :: ip_k t (n + 1)
def ip_s1 (lv : ip_LV) (i : Nat) (v : Value) : Option ip_LV := ip_set (ip_k lv i) i (some v)
def ip_s2 (lv : ip_LV) (i : Nat) (v : Value) : Option ip_LV := match ip_set (ip_k lv i) i (some v) with
  | some t => ip_set t (i + 1) none
  | none => none
/-- the cells: 0 the class's object with its own (to 29), 30 the reference with its own (to 54), 55 to 57 the static rows, 58 the script (its length: cell 59, place 0) -/
def ip_ob (c : Nat) : Option Nat := (cond (Nat.blt c 64) (cond (Nat.blt c 17) (cond (Nat.blt c 12) (cond (Nat.blt c 2) (cond (Nat.beq c 0) (some 5) none) (cond (Nat.blt c 3) (cond (Nat.beq c 2) (some 3) none) (cond (Nat.beq c 3) (some 2) none))) (cond (Nat.blt c 15) (cond (Nat.blt c 14) (cond (Nat.beq c 12) (some 0) none) (cond (Nat.beq c 14) (some 1) none)) (cond (Nat.blt c 16) (cond (Nat.beq c 15) (some 1) none) (cond (Nat.beq c 16) (some 1) none)))) (cond (Nat.blt c 23) (cond (Nat.blt c 21) (cond (Nat.blt c 19) (cond (Nat.beq c 17) (some 2) none) (cond (Nat.beq c 19) (some 0) none)) (cond (Nat.blt c 22) (cond (Nat.beq c 21) (some 1) none) (cond (Nat.beq c 22) (some 1) none))) (cond (Nat.blt c 26) (cond (Nat.blt c 24) (cond (Nat.beq c 23) (some 1) none) (cond (Nat.beq c 24) (some 2) none)) (cond (Nat.blt c 30) (cond (Nat.beq c 26) (some 4) none) (cond (Nat.beq c 30) (some 6) none))))) none)
def ip_ar (c : Nat) : Option (Nat × Nat) := (cond (Nat.blt c 64) (cond (Nat.blt c 37) (cond (Nat.blt c 20) (cond (Nat.blt c 8) (cond (Nat.blt c 5) (cond (Nat.blt c 4) (cond (Nat.beq c 1) (some (0, 56)) none) (cond (Nat.beq c 4) (some (0, 57)) none)) (cond (Nat.blt c 6) (cond (Nat.beq c 5) (some (0, 57)) none) (cond (Nat.blt c 7) (cond (Nat.beq c 6) (some (2, 57)) none) (cond (Nat.beq c 7) (some (1, 57)) none)))) (cond (Nat.blt c 11) (cond (Nat.blt c 9) (cond (Nat.beq c 8) (some (1, 57)) none) (cond (Nat.blt c 10) (cond (Nat.beq c 9) (some (1, 57)) none) (cond (Nat.beq c 10) (some (1, 57)) none))) (cond (Nat.blt c 13) (cond (Nat.beq c 11) (some (1, 57)) none) (cond (Nat.blt c 18) (cond (Nat.beq c 13) (some (3, 3)) none) (cond (Nat.beq c 18) (some (0, 8)) none))))) (cond (Nat.blt c 31) (cond (Nat.blt c 27) (cond (Nat.blt c 25) (cond (Nat.beq c 20) (some (3, 3)) none) (cond (Nat.beq c 25) (some (0, 8)) none)) (cond (Nat.blt c 28) (cond (Nat.beq c 27) (some (0, 6)) none) (cond (Nat.blt c 29) (cond (Nat.beq c 28) (some (1, 729)) none) (cond (Nat.beq c 29) (some (0, 729)) none)))) (cond (Nat.blt c 34) (cond (Nat.blt c 32) (cond (Nat.beq c 31) (some (1, 30)) none) (cond (Nat.blt c 33) (cond (Nat.beq c 32) (some (0, 56)) none) (cond (Nat.beq c 33) (some (0, 60)) none))) (cond (Nat.blt c 35) (cond (Nat.beq c 34) (some (1, 60)) none) (cond (Nat.blt c 36) (cond (Nat.beq c 35) (some (1, 60)) none) (cond (Nat.beq c 36) (some (0, 60)) none)))))) (cond (Nat.blt c 48) (cond (Nat.blt c 42) (cond (Nat.blt c 39) (cond (Nat.blt c 38) (cond (Nat.beq c 37) (some (0, 60)) none) (cond (Nat.beq c 38) (some (1, 60)) none)) (cond (Nat.blt c 40) (cond (Nat.beq c 39) (some (1, 60)) none) (cond (Nat.blt c 41) (cond (Nat.beq c 40) (some (1, 60)) none) (cond (Nat.beq c 41) (some (0, 56)) none)))) (cond (Nat.blt c 45) (cond (Nat.blt c 43) (cond (Nat.beq c 42) (some (0, 6)) none) (cond (Nat.blt c 44) (cond (Nat.beq c 43) (some (0, 18)) none) (cond (Nat.beq c 44) (some (0, 18)) none))) (cond (Nat.blt c 46) (cond (Nat.beq c 45) (some (0, 729)) none) (cond (Nat.blt c 47) (cond (Nat.beq c 46) (some (0, 729)) none) (cond (Nat.beq c 47) (some (0, 729)) none))))) (cond (Nat.blt c 53) (cond (Nat.blt c 50) (cond (Nat.blt c 49) (cond (Nat.beq c 48) (some (1, 6)) none) (cond (Nat.beq c 49) (some (0, 32)) none)) (cond (Nat.blt c 51) (cond (Nat.beq c 50) (some (0, 56)) none) (cond (Nat.blt c 52) (cond (Nat.beq c 51) (some (0, 6)) none) (cond (Nat.beq c 52) (some (0, 18)) none)))) (cond (Nat.blt c 56) (cond (Nat.blt c 54) (cond (Nat.beq c 53) (some (0, 18)) none) (cond (Nat.blt c 55) (cond (Nat.beq c 54) (some (0, 32)) none) (cond (Nat.beq c 55) (some (5, 6)) none))) (cond (Nat.blt c 57) (cond (Nat.beq c 56) (some (4, 5)) none) (cond (Nat.blt c 58) (cond (Nat.beq c 57) (some (4, 5)) none) (cond (Nat.beq c 58) (some (6, 0)) none))))))) none)
def ip_rfT (n : Nat) : Option Nat := (cond (Nat.blt n 1920) (cond (Nat.blt n 134) (cond (Nat.blt n 128) (cond (Nat.blt n 4) (cond (Nat.blt n 2) (cond (Nat.beq n 0) (some 1) none) (cond (Nat.beq n 2) (some 2) none)) (cond (Nat.blt n 5) (cond (Nat.beq n 4) (some 12) none) (cond (Nat.blt n 8) (cond (Nat.beq n 5) (some 19) none) (cond (Nat.beq n 8) (some 26) none)))) (cond (Nat.blt n 131) (cond (Nat.blt n 129) (cond (Nat.beq n 128) (some 3) none) (cond (Nat.blt n 130) (cond (Nat.beq n 129) (some 4) none) (cond (Nat.beq n 130) (some 5) none))) (cond (Nat.blt n 132) (cond (Nat.beq n 131) (some 6) none) (cond (Nat.blt n 133) (cond (Nat.beq n 132) (some 7) none) (cond (Nat.beq n 133) (some 8) none))))) (cond (Nat.blt n 1216) (cond (Nat.blt n 768) (cond (Nat.blt n 135) (cond (Nat.beq n 134) (some 9) none) (cond (Nat.blt n 136) (cond (Nat.beq n 135) (some 10) none) (cond (Nat.beq n 136) (some 11) none))) (cond (Nat.blt n 770) (cond (Nat.beq n 768) (some 13) none) (cond (Nat.blt n 773) (cond (Nat.beq n 770) (some 17) none) (cond (Nat.beq n 773) (some 18) none)))) (cond (Nat.blt n 1669) (cond (Nat.blt n 1218) (cond (Nat.beq n 1216) (some 20) none) (cond (Nat.blt n 1221) (cond (Nat.beq n 1218) (some 24) none) (cond (Nat.beq n 1221) (some 25) none))) (cond (Nat.blt n 1671) (cond (Nat.beq n 1669) (some 27) none) (cond (Nat.blt n 1672) (cond (Nat.beq n 1671) (some 28) none) (cond (Nat.beq n 1672) (some 29) none)))))) (cond (Nat.blt n 1943) (cond (Nat.blt n 1930) (cond (Nat.blt n 1927) (cond (Nat.blt n 1921) (cond (Nat.beq n 1920) (some 31) none) (cond (Nat.blt n 1923) (cond (Nat.beq n 1921) (some 32) none) (cond (Nat.beq n 1923) (some 33) none))) (cond (Nat.blt n 1928) (cond (Nat.beq n 1927) (some 34) none) (cond (Nat.blt n 1929) (cond (Nat.beq n 1928) (some 35) none) (cond (Nat.beq n 1929) (some 36) none)))) (cond (Nat.blt n 1933) (cond (Nat.blt n 1931) (cond (Nat.beq n 1930) (some 37) none) (cond (Nat.blt n 1932) (cond (Nat.beq n 1931) (some 38) none) (cond (Nat.beq n 1932) (some 39) none))) (cond (Nat.blt n 1935) (cond (Nat.beq n 1933) (some 40) none) (cond (Nat.blt n 1942) (cond (Nat.beq n 1935) (some 41) none) (cond (Nat.beq n 1942) (some 42) none))))) (cond (Nat.blt n 1950) (cond (Nat.blt n 1946) (cond (Nat.blt n 1944) (cond (Nat.beq n 1943) (some 43) none) (cond (Nat.blt n 1945) (cond (Nat.beq n 1944) (some 44) none) (cond (Nat.beq n 1945) (some 45) none))) (cond (Nat.blt n 1947) (cond (Nat.beq n 1946) (some 46) none) (cond (Nat.blt n 1948) (cond (Nat.beq n 1947) (some 47) none) (cond (Nat.beq n 1948) (some 48) none)))) (cond (Nat.blt n 1960) (cond (Nat.blt n 1958) (cond (Nat.beq n 1950) (some 49) none) (cond (Nat.blt n 1959) (cond (Nat.beq n 1958) (some 50) none) (cond (Nat.beq n 1959) (some 51) none))) (cond (Nat.blt n 1961) (cond (Nat.beq n 1960) (some 52) none) (cond (Nat.blt n 1962) (cond (Nat.beq n 1961) (some 53) none) (cond (Nat.beq n 1962) (some 54) none)))))))
def ip_rf (c k : Nat) : Option Nat := cond (Nat.beq c 13) (cond (Nat.blt k 3) (some (14 + k)) none) (cond (Nat.beq c 20) (cond (Nat.blt k 3) (some (21 + k)) none) (cond (Nat.blt k 64) (ip_rfT (c * 64 + k)) none))
/-- of a field: 0 int, 1 long, 2 boolean, 3 a reference -/
def ip_ty (ci k : Nat) : Nat := (cond (Nat.blt k 64) (cond (Nat.blt (ci * 64 + k) 265) (cond (Nat.blt (ci * 64 + k) 130) (cond (Nat.blt (ci * 64 + k) 66) (cond (Nat.blt (ci * 64 + k) 6) (cond (Nat.blt (ci * 64 + k) 3) (cond (Nat.beq (ci * 64 + k) 1) 0 3) (cond (Nat.blt (ci * 64 + k) 4) (cond (Nat.beq (ci * 64 + k) 3) 0 3) (cond (Nat.beq (ci * 64 + k) 4) 0 3))) (cond (Nat.blt (ci * 64 + k) 64) (cond (Nat.beq (ci * 64 + k) 6) 0 3) (cond (Nat.blt (ci * 64 + k) 65) (cond (Nat.beq (ci * 64 + k) 64) 0 3) (cond (Nat.beq (ci * 64 + k) 65) 0 3)))) (cond (Nat.blt (ci * 64 + k) 69) (cond (Nat.blt (ci * 64 + k) 67) (cond (Nat.beq (ci * 64 + k) 66) 0 3) (cond (Nat.blt (ci * 64 + k) 68) (cond (Nat.beq (ci * 64 + k) 67) 0 3) (cond (Nat.beq (ci * 64 + k) 68) 0 3))) (cond (Nat.blt (ci * 64 + k) 128) (cond (Nat.beq (ci * 64 + k) 69) 2 3) (cond (Nat.blt (ci * 64 + k) 129) (cond (Nat.beq (ci * 64 + k) 128) 1 3) (cond (Nat.beq (ci * 64 + k) 129) 0 3))))) (cond (Nat.blt (ci * 64 + k) 204) (cond (Nat.blt (ci * 64 + k) 201) (cond (Nat.blt (ci * 64 + k) 131) (cond (Nat.beq (ci * 64 + k) 130) 0 3) (cond (Nat.blt (ci * 64 + k) 132) (cond (Nat.beq (ci * 64 + k) 131) 0 3) (cond (Nat.beq (ci * 64 + k) 132) 0 3))) (cond (Nat.blt (ci * 64 + k) 202) (cond (Nat.beq (ci * 64 + k) 201) 0 3) (cond (Nat.blt (ci * 64 + k) 203) (cond (Nat.beq (ci * 64 + k) 202) 2 3) (cond (Nat.beq (ci * 64 + k) 203) 2 3)))) (cond (Nat.blt (ci * 64 + k) 258) (cond (Nat.blt (ci * 64 + k) 256) (cond (Nat.beq (ci * 64 + k) 204) 0 3) (cond (Nat.blt (ci * 64 + k) 257) (cond (Nat.beq (ci * 64 + k) 256) 0 3) (cond (Nat.beq (ci * 64 + k) 257) 0 3))) (cond (Nat.blt (ci * 64 + k) 260) (cond (Nat.blt (ci * 64 + k) 259) (cond (Nat.beq (ci * 64 + k) 258) 0 3) (cond (Nat.beq (ci * 64 + k) 259) 1 3)) (cond (Nat.blt (ci * 64 + k) 262) (cond (Nat.beq (ci * 64 + k) 260) 1 3) (cond (Nat.beq (ci * 64 + k) 262) 0 3)))))) (cond (Nat.blt (ci * 64 + k) 402) (cond (Nat.blt (ci * 64 + k) 388) (cond (Nat.blt (ci * 64 + k) 326) (cond (Nat.blt (ci * 64 + k) 321) (cond (Nat.beq (ci * 64 + k) 265) 0 3) (cond (Nat.blt (ci * 64 + k) 323) (cond (Nat.beq (ci * 64 + k) 321) 0 3) (cond (Nat.beq (ci * 64 + k) 323) 0 3))) (cond (Nat.blt (ci * 64 + k) 327) (cond (Nat.beq (ci * 64 + k) 326) 2 3) (cond (Nat.blt (ci * 64 + k) 386) (cond (Nat.beq (ci * 64 + k) 327) 0 3) (cond (Nat.beq (ci * 64 + k) 386) 0 3)))) (cond (Nat.blt (ci * 64 + k) 398) (cond (Nat.blt (ci * 64 + k) 389) (cond (Nat.beq (ci * 64 + k) 388) 0 3) (cond (Nat.blt (ci * 64 + k) 390) (cond (Nat.beq (ci * 64 + k) 389) 0 3) (cond (Nat.beq (ci * 64 + k) 390) 0 3))) (cond (Nat.blt (ci * 64 + k) 400) (cond (Nat.beq (ci * 64 + k) 398) 0 3) (cond (Nat.blt (ci * 64 + k) 401) (cond (Nat.beq (ci * 64 + k) 400) 0 3) (cond (Nat.beq (ci * 64 + k) 401) 1 3))))) (cond (Nat.blt (ci * 64 + k) 416) (cond (Nat.blt (ci * 64 + k) 405) (cond (Nat.blt (ci * 64 + k) 403) (cond (Nat.beq (ci * 64 + k) 402) 0 3) (cond (Nat.blt (ci * 64 + k) 404) (cond (Nat.beq (ci * 64 + k) 403) 0 3) (cond (Nat.beq (ci * 64 + k) 404) 0 3))) (cond (Nat.blt (ci * 64 + k) 413) (cond (Nat.beq (ci * 64 + k) 405) 0 3) (cond (Nat.blt (ci * 64 + k) 415) (cond (Nat.beq (ci * 64 + k) 413) 0 3) (cond (Nat.beq (ci * 64 + k) 415) 0 3)))) (cond (Nat.blt (ci * 64 + k) 419) (cond (Nat.blt (ci * 64 + k) 417) (cond (Nat.beq (ci * 64 + k) 416) 0 3) (cond (Nat.blt (ci * 64 + k) 418) (cond (Nat.beq (ci * 64 + k) 417) 0 3) (cond (Nat.beq (ci * 64 + k) 418) 0 3))) (cond (Nat.blt (ci * 64 + k) 421) (cond (Nat.blt (ci * 64 + k) 420) (cond (Nat.beq (ci * 64 + k) 419) 0 3) (cond (Nat.beq (ci * 64 + k) 420) 0 3)) (cond (Nat.blt (ci * 64 + k) 427) (cond (Nat.beq (ci * 64 + k) 421) 1 3) (cond (Nat.beq (ci * 64 + k) 427) 1 3))))))) 3)
def ip_tI (c k : Nat) : Int32 := cond (Nat.beq c 56) (([0, 56, 0, 7, 39] : List Int32).getD k 0) (([0, 56, 0, 0, 32] : List Int32).getD k 0)
def ip_tL (_ k : Nat) : Int64 := ([-6148914691236517206, -3689348814741910324, -1085102592571150096, -71777214294589696, -281470681808896, -4294967296] : List Int64).getD k 0
def ip_in (i : Int32) (n : Nat) : Bool := !(decide (i < 0)) && decide (i.toNatClampNeg < n)
def ip_aI (S : ip_St) (c : Nat) (i : Int32) : Option Int32 := match ip_ar c with
  | some (0, n) => cond (ip_in i n) (some (S.1 c i.toNatClampNeg)) none
  | some (4, n) => cond (ip_in i n) (some (ip_tI c i.toNatClampNeg)) none
  | some (6, _) => cond (ip_in i (S.1 59 0).toNatClampNeg) (some (S.1 58 i.toNatClampNeg)) none
  | _ => none
def ip_aL (S : ip_St) (c : Nat) (i : Int32) : Option Int64 := match ip_ar c with
  | some (1, n) => cond (ip_in i n) (some (S.2 c i.toNatClampNeg)) none
  | some (5, n) => cond (ip_in i n) (some (ip_tL c i.toNatClampNeg)) none
  | _ => none
def ip_aZ (S : ip_St) (c : Nat) (i : Int32) : Option Int32 := match ip_ar c with
  | some (2, n) => cond (ip_in i n) (some (S.1 c i.toNatClampNeg)) none
  | _ => none
def ip_aA (c : Nat) (i : Int32) : Option Nat := match ip_ar c with
  | some (3, n) => cond (ip_in i n) (ip_rf c i.toNatClampNeg) none
  | _ => none
def ip_wI (S : ip_St) (c : Nat) (i : Int32) (v : Int32) : Option ip_St := match ip_ar c with
  | some (0, n) => cond (ip_in i n) (some (ip_upI S c i.toNatClampNeg v)) none
  | _ => none
def ip_wL (S : ip_St) (c : Nat) (i : Int32) (v : Int64) : Option ip_St := match ip_ar c with
  | some (1, n) => cond (ip_in i n) (some (ip_upL S c i.toNatClampNeg v)) none
  | _ => none
def ip_wZ (S : ip_St) (c : Nat) (i : Int32) (v : Int32) : Option ip_St := match ip_ar c with
  | some (2, n) => cond (ip_in i n) (some (ip_upI S c i.toNatClampNeg (v &&& 1))) none
  | _ => none
def ip_ln (S : ip_St) (c : Nat) : Option Int32 := match ip_ar c with
  | some (6, _) => some (S.1 59 0)
  | some (5, _) => none
  | some (4, _) => none
  | some (_, n) => some (Int32.ofNat n)
  | none => none
def ip_isB (x : Int32) : Bool := decide (x = 0) || decide (x = 1)
-- one instruction
def ip_cs (pc : Nat) (v : Value) (lv : ip_LV) (st : List Value) (S : ip_St) : Option ip_Cf := some (pc, lv, v :: st, S)
def ip_ldI (pc : Nat) (lv : ip_LV) (i : Nat) (st : List Value) (S : ip_St) : Option ip_Cf := match ip_at lv i with
  | some (.int x) => some (pc, lv, .int x :: st, S)
  | _ => none
def ip_ldL (pc : Nat) (lv : ip_LV) (i : Nat) (st : List Value) (S : ip_St) : Option ip_Cf := match ip_at lv i with
  | some (.long x) => some (pc, lv, .long x :: st, S)
  | _ => none
def ip_ldA (pc : Nat) (lv : ip_LV) (i : Nat) (st : List Value) (S : ip_St) : Option ip_Cf := match ip_at lv i with
  | some (.ref x) => some (pc, lv, .ref x :: st, S)
  | _ => none
def ip_stI (pc : Nat) (lv : ip_LV) (i : Nat) (st : List Value) (S : ip_St) : Option ip_Cf := match st with
  | .int x :: r => match ip_s1 lv i (.int x) with
    | some lv' => some (pc, lv', r, S)
    | none => none
  | _ => none
def ip_stA (pc : Nat) (lv : ip_LV) (i : Nat) (st : List Value) (S : ip_St) : Option ip_Cf := match st with
  | .ref x :: r => match ip_s1 lv i (.ref x) with
    | some lv' => some (pc, lv', r, S)
    | none => none
  | _ => none
def ip_stL (pc : Nat) (lv : ip_LV) (i : Nat) (st : List Value) (S : ip_St) : Option ip_Cf := match st with
  | .long x :: r => match ip_s2 lv i (.long x) with
    | some lv' => some (pc, lv', r, S)
    | none => none
  | _ => none
def ip_inc (pc : Nat) (lv : ip_LV) (i : Nat) (n : Int) (st : List Value) (S : ip_St) : Option ip_Cf := match ip_at lv i with
  | some (.int x) => match ip_s1 lv i (.int (x + Int32.ofInt n)) with
    | some lv' => some (pc, lv', st, S)
    | none => none
  | _ => none
def ip_bI (f : Int32 → Int32 → Int32) (pc : Nat) (lv : ip_LV) (st : List Value) (S : ip_St) : Option ip_Cf := match st with
  | .int y :: .int x :: r => some (pc, lv, .int (f x y) :: r, S)
  | _ => none
/-- a division: only by what isn't 0 -/
def ip_bD (f : Int32 → Int32 → Int32) (pc : Nat) (lv : ip_LV) (st : List Value) (S : ip_St) : Option ip_Cf := match st with
  | .int y :: .int x :: r => cond (decide (y = 0)) none (some (pc, lv, .int (f x y) :: r, S))
  | _ => none
def ip_bL (f : Int64 → Int64 → Int64) (pc : Nat) (lv : ip_LV) (st : List Value) (S : ip_St) : Option ip_Cf := match st with
  | .long y :: .long x :: r => some (pc, lv, .long (f x y) :: r, S)
  | _ => none
def ip_bC (pc : Nat) (lv : ip_LV) (st : List Value) (S : ip_St) : Option ip_Cf := match st with
  | .long y :: .long x :: r => some (pc, lv, .int (lg_cmp x y) :: r, S)
  | _ => none
def ip_sL (f : Int64 → Int32 → Int64) (pc : Nat) (lv : ip_LV) (st : List Value) (S : ip_St) : Option ip_Cf := match st with
  | .int y :: .long x :: r => some (pc, lv, .long (f x y) :: r, S)
  | _ => none
def ip_cv (pc : Nat) (lv : ip_LV) (st : List Value) (S : ip_St) : Option ip_Cf := match st with
  | .int x :: r => some (pc, lv, .long x.toInt64 :: r, S)
  | .long x :: r => some (pc, lv, .int x.toInt32 :: r, S)
  | _ => none
def ip_du1 (pc : Nat) (lv : ip_LV) (st : List Value) (S : ip_St) : Option ip_Cf := match st with
  | .int x :: r => some (pc, lv, .int x :: .int x :: r, S)
  | .ref x :: r => some (pc, lv, .ref x :: .ref x :: r, S)
  | _ => none
def ip_du2 (pc : Nat) (lv : ip_LV) (st : List Value) (S : ip_St) : Option ip_Cf := match st with
  | .int x :: .ref y :: r => some (pc, lv, .int x :: .ref y :: .int x :: .ref y :: r, S)
  | _ => none
def ip_tg (pc : Nat) (off : Int) : Option Nat := match (pc : Int) + off with
  | .ofNat t => some t
  | .negSucc _ => none
def ip_jp (pc : Nat) (off : Int) (lv : ip_LV) (st : List Value) (S : ip_St) : Option ip_Cf := match ip_tg pc off with
  | some t => some (t, lv, st, S)
  | none => none
def ip_cnd (c : Jvm.ClassFile.Cond) (x y : Int32) : Bool := match c with
  | .eq => decide (x = y)
  | .ne => !(decide (x = y))
  | .lt => decide (x < y)
  | .ge => decide (y ≤ x)
  | .gt => decide (y < x)
  | .le => decide (x ≤ y)
def ip_br (b : Bool) (pc : Nat) (off : Int) (lv : ip_LV) (st : List Value) (S : ip_St) : Option ip_Cf := match ip_tg pc off with
  | some t => some (cond b t (pc + 3), lv, st, S)
  | none => none
def ip_if1 (c : Jvm.ClassFile.Cond) (pc : Nat) (off : Int) (lv : ip_LV) (st : List Value) (S : ip_St) : Option ip_Cf := match st with
  | .int x :: r => ip_br (ip_cnd c x 0) pc off lv r S
  | _ => none
def ip_if2 (c : Jvm.ClassFile.Cond) (pc : Nat) (off : Int) (lv : ip_LV) (st : List Value) (S : ip_St) : Option ip_Cf := match st with
  | .int y :: .int x :: r => ip_br (ip_cnd c x y) pc off lv r S
  | _ => none
def ip_tsO (dflt lo hi : Int) (offs : Array Int) (x : Int) : Option Int := cond (decide (x < lo) || decide (hi < x)) (some dflt) (offs[(x - lo).toNat]?)
def ip_ts (dflt lo hi : Int) (offs : Array Int) (pc : Nat) (lv : ip_LV) (st : List Value) (S : ip_St) : Option ip_Cf := match st with
  | .int x :: r => match ip_tsO dflt lo hi offs x.toInt with
    | some off => ip_jp pc off lv r S
    | none => none
  | _ => none
def ip_ls (dflt : Int) (ps : Array (Int × Int)) (pc : Nat) (lv : ip_LV) (st : List Value) (S : ip_St) : Option ip_Cf := match st with
  | .int x :: r => cond ((ps.toList.zip (ps.toList.drop 1)).all (fun (a, next) => a.1 < next.1)) (ip_jp pc (Op.lookupswitch.offset ps.toList dflt x.toInt) lv r S) none
  | _ => none
def ip_gf (mi pc p : Nat) (lv : ip_LV) (st : List Value) (S : ip_St) : Option ip_Cf := match ip_flk (ip_ow mi) p with
  | some (ci, k, _, _) => match st with
    | .ref c :: r => match ip_ob c with
      | some cj => cond (Nat.beq ci cj) (match ip_ty ci k with
        | 0 => some (pc + 3, lv, .int (S.1 c k) :: r, S)
        | 1 => some (pc + 3, lv, .long (S.2 c k) :: r, S)
        | 2 => some (pc + 3, lv, .int (S.1 c k) :: r, S)
        | _ => match ip_rf c k with
          | some d => some (pc + 3, lv, .ref d :: r, S)
          | none => none) none
      | none => none
    | _ => none
  | none => none
def ip_pf (mi pc p : Nat) (lv : ip_LV) (st : List Value) (S : ip_St) : Option ip_Cf := match ip_flk (ip_ow mi) p with
  | some (ci, k, _, _) => match st with
    | .int x :: .ref c :: r => match ip_ob c with
      | some cj => cond (Nat.beq ci cj) (match ip_ty ci k with
        | 0 => some (pc + 3, lv, r, ip_upI S c k x)
        | 2 => cond (ip_isB x) (some (pc + 3, lv, r, ip_upI S c k x)) none
        | _ => none) none
      | none => none
    | .long x :: .ref c :: r => match ip_ob c with
      | some cj => cond (Nat.beq ci cj) (match ip_ty ci k with
        | 1 => some (pc + 3, lv, r, ip_upL S c k x)
        | _ => none) none
      | none => none
    | _ => none
  | none => none
def ip_gs (mi pc p : Nat) (lv : ip_LV) (st : List Value) (S : ip_St) : Option ip_Cf := match ip_slk (ip_ow mi) p with
  | some (d, _, _) => some (pc + 3, lv, .ref d :: st, S)
  | none => none
def ip_al (f : Nat → Int32 → Option Value) (pc : Nat) (lv : ip_LV) (st : List Value) (S : ip_St) : Option ip_Cf := match st with
  | .int i :: .ref c :: r => match f c i with
    | some v => some (pc + 1, lv, v :: r, S)
    | none => none
  | _ => none
def ip_asI (f : Nat → Int32 → Int32 → Option ip_St) (pc : Nat) (lv : ip_LV) (st : List Value) : Option ip_Cf := match st with
  | .int v :: .int i :: .ref c :: r => match f c i v with
    | some S' => some (pc + 1, lv, r, S')
    | none => none
  | _ => none
def ip_asL (f : Nat → Int32 → Int64 → Option ip_St) (pc : Nat) (lv : ip_LV) (st : List Value) : Option ip_Cf := match st with
  | .long v :: .int i :: .ref c :: r => match f c i v with
    | some S' => some (pc + 1, lv, r, S')
    | none => none
  | _ => none
def ip_len (pc : Nat) (lv : ip_LV) (st : List Value) (S : ip_St) : Option ip_Cf := match st with
  | .ref c :: r => match ip_ln S c with
    | some v => some (pc + 1, lv, .int v :: r, S)
    | none => none
  | _ => none
def ip_kcI (mi pc p : Nat) (lv : ip_LV) (st : List Value) (S : ip_St) : Option ip_Cf := match ip_kIk (ip_ow mi) p with
  | some (v, _) => some (pc, lv, .int v :: st, S)
  | none => none
def ip_kcL (mi pc p : Nat) (lv : ip_LV) (st : List Value) (S : ip_St) : Option ip_Cf := match ip_kLk (ip_ow mi) p with
  | some (v, _) => some (pc, lv, .long v :: st, S)
  | none => none
/-- Math.max (its number in the methods: MX), Math.min (MN): an instruction -/
def ip_mm (mi pc p : Nat) (lv : ip_LV) (st : List Value) (S : ip_St) : Option ip_Cf := match ip_clk (ip_ow mi) p with
  | some (i, false, _) => match st with
    | .int y :: .int x :: r => cond (Nat.blt 0 (ip_rF mi) && (Nat.blt 20 (ip_rL mi) && Nat.ble ((r.map fun v => v.category).sum) 8)) (cond (Nat.beq i 6) (some (pc + 3, lv, .int (if x < y then y else x) :: r, S)) (cond (Nat.beq i 53) (some (pc + 3, lv, .int (if y < x then y else x) :: r, S)) none)) none
    | _ => none
  | _ => none
def ip_ex (mi pc : Nat) (i : Instr) (lv : ip_LV) (st : List Value) (S : ip_St) : Option ip_Cf := match i with
  | .aload_n k => ip_ldA (pc + 1) lv k.val st S
  | .aload k => ip_ldA (pc + 2) lv k st S
  | .iload_n k => ip_ldI (pc + 1) lv k.val st S
  | .iload k => ip_ldI (pc + 2) lv k st S
  | .lload_n k => ip_ldL (pc + 1) lv k.val st S
  | .lload k => ip_ldL (pc + 2) lv k st S
  | .istore_n k => ip_stI (pc + 1) lv k.val st S
  | .istore k => ip_stI (pc + 2) lv k st S
  | .astore_n k => ip_stA (pc + 1) lv k.val st S
  | .astore k => ip_stA (pc + 2) lv k st S
  | .lstore_n k => ip_stL (pc + 1) lv k.val st S
  | .lstore k => ip_stL (pc + 2) lv k st S
  | .iinc k n => ip_inc (pc + 3) lv k n st S
  | .iconst n => ip_cs (pc + 1) (.int (Int32.ofInt n)) lv st S
  | .bipush n => ip_cs (pc + 2) (.int (Int8.ofInt n).toInt32) lv st S
  | .sipush n => ip_cs (pc + 3) (.int (Int16.ofInt n).toInt32) lv st S
  | .lconst n => ip_cs (pc + 1) (.long (Int64.ofNat n.val)) lv st S
  | .ldc_w p => ip_kcI mi (pc + 3) p lv st S
  | .ldc2_w p => ip_kcL mi (pc + 3) p lv st S
  | .iadd => ip_bI (fun x y => x + y) (pc + 1) lv st S
  | .isub => ip_bI (fun x y => x - y) (pc + 1) lv st S
  | .imul => ip_bI (fun x y => x * y) (pc + 1) lv st S
  | .iand => ip_bI (fun x y => x &&& y) (pc + 1) lv st S
  | .ior => ip_bI (fun x y => x ||| y) (pc + 1) lv st S
  | .ixor => ip_bI (fun x y => x ^^^ y) (pc + 1) lv st S
  | .ishl => ip_bI (fun x y => x <<< (y &&& 31)) (pc + 1) lv st S
  | .ishr => ip_bI (fun x y => x >>> (y &&& 31)) (pc + 1) lv st S
  | .iushr => ip_bI (fun x y => (x.toUInt32 >>> (y.toUInt32 &&& Int32.toUInt32 31)).toInt32) (pc + 1) lv st S
  | .idiv => ip_bD (fun x y => x / y) (pc + 1) lv st S
  | .irem => ip_bD (fun x y => x - x / y * y) (pc + 1) lv st S
  | .ladd => ip_bL (fun x y => x + y) (pc + 1) lv st S
  | .lsub => ip_bL (fun x y => x - y) (pc + 1) lv st S
  | .lmul => ip_bL (fun x y => x * y) (pc + 1) lv st S
  | .land => ip_bL (fun x y => x &&& y) (pc + 1) lv st S
  | .lor => ip_bL (fun x y => x ||| y) (pc + 1) lv st S
  | .lxor => ip_bL (fun x y => x ^^^ y) (pc + 1) lv st S
  | .lshl => ip_sL (fun x y => x <<< (y.toInt64 &&& 63)) (pc + 1) lv st S
  | .lshr => ip_sL (fun x y => x >>> (y.toInt64 &&& 63)) (pc + 1) lv st S
  | .lushr => ip_sL (fun x y => (x.toUInt64 >>> (y.toInt64.toUInt64 &&& Int64.toUInt64 63)).toInt64) (pc + 1) lv st S
  | .lcmp => ip_bC (pc + 1) lv st S
  | .i2l => (match st with
    | .int x :: r => some (pc + 1, lv, .long x.toInt64 :: r, S)
    | _ => none)
  | .l2i => (match st with
    | .long x :: r => some (pc + 1, lv, .int x.toInt32 :: r, S)
    | _ => none)
  | .dup => ip_du1 (pc + 1) lv st S
  | .dup2 => ip_du2 (pc + 1) lv st S
  | .goto off => ip_jp pc off lv st S
  | .ifCond c off => ip_if1 c pc off lv st S
  | .if_icmp c off => ip_if2 c pc off lv st S
  | .tableswitch d lo hi offs => ip_ts d lo hi offs pc lv st S
  | .lookupswitch d ps => ip_ls d ps pc lv st S
  | .getfield p => ip_gf mi pc p lv st S
  | .putfield p => ip_pf mi pc p lv st S
  | .getstatic p => ip_gs mi pc p lv st S
  | .iaload => ip_al (fun c i => (ip_aI S c i).map .int) pc lv st S
  | .laload => ip_al (fun c i => (ip_aL S c i).map .long) pc lv st S
  | .baload => ip_al (fun c i => (ip_aZ S c i).map .int) pc lv st S
  | .aaload => ip_al (fun c i => (ip_aA c i).map .ref) pc lv st S
  | .iastore => ip_asI (ip_wI S) pc lv st
  | .bastore => ip_asI (ip_wZ S) pc lv st
  | .lastore => ip_asL (ip_wL S) pc lv st
  | .arraylength => ip_len pc lv st S
  | .invokestatic p => ip_mm mi pc p lv st S
  | _ => none
def ip_stp (mi pc : Nat) (lv : ip_LV) (st : List Value) (S : ip_St) : Option ip_Cf := match ip_ins mi pc with
  | some q => ip_ex mi pc q.1 lv st S
  | none => none
-- a return
def ip_ret (mi pc : Nat) (st : List Value) : Option (Option Value) := match ip_ins mi pc with
  | some (.ireturn, _) => (match st with
    | [.int x] => (match ip_rt mi with
      | some .int => some (some (.int x))
      | some .boolean => cond (ip_isB x) (some (some (.int x))) none
      | _ => none)
    | _ => none)
  | some (.lreturn, _) => (match st with
    | [.long x] => (match ip_rt mi with
      | some .long => some (some (.long x))
      | _ => none)
    | _ => none)
  | some (.areturn, _) => (match st with
    | [.ref x] => (match ip_rt mi with
      | some (.object _) => some (some (.ref x))
      | _ => none)
    | _ => none)
  | some (.return_, _) => (match st with
    | [] => (match ip_rt mi with
      | none => some none
      | _ => none)
    | _ => none)
  | _ => none
-- a call
def ip_pop : Nat → List Value → List Value → Option (List Value × List Value)
  | 0, a, st => some (a, st)
  | n + 1, a, v :: st => ip_pop n (v :: a) st
  | _ + 1, _, [] => none
def ip_fit (mi i : Nat) (r : List Value) : Bool := Nat.blt (ip_rF i) (ip_rF mi) && (Nat.ble (19 + ip_ml i + ip_rL i) (ip_rL mi) && (Nat.ble ((r.map fun v => v.category).sum) 8 && Nat.blt (ip_ow i) 10))
def ip_cal (mi pc : Nat) (st : List Value) : Option (Nat × List Value × List Value) := match ip_ins mi pc with
  | some (.invokestatic p, _) => (match ip_clk (ip_ow mi) p with
    | some (i, _, _) => cond (ip_sta i) (match ip_pop (ip_np i) [] st with
      | some (a, r) => cond (ip_fit mi i r) (some (i, a, r)) none
      | none => none) none
    | none => none)
  | some (.invokevirtual p, _) => (match ip_clk (ip_ow mi) p with
    | some (i, _, _) => cond (ip_sta i) none (match ip_pop (ip_np i) [] st with
      | some (a, .ref b :: r) => (match ip_ob b with
        | some cj => cond (Nat.beq cj (ip_ow i)) (cond (ip_fit mi i r) (some (i, .ref b :: a, r)) none) none
        | none => none)
      | _ => none)
    | none => none)
  | _ => none
def ip_en : Nat → List Value → Option ip_LV
  | n, [] => some (List.replicate n none)
  | 0, _ :: _ => none
  | n + 1, v :: t => match v with
    | .long x => (match n with
      | 0 => none
      | m + 1 => (match ip_en m t with
        | some l => some (some (.long x) :: none :: l)
        | none => none))
    | .double _ => none
    | w => (match ip_en n t with
      | some l => some (some w :: l)
      | none => none)
def ip_run : Nat → Nat → Nat → ip_LV → List Value → ip_St → Option (Option Value × ip_St)
  | 0, _, _, _, _, _ => none
  | n + 1, mi, pc, lv, st, S => match ip_ret mi pc st with
    | some rv => some (rv, S)
    | none => match ip_cal mi pc st with
      | some (i, a, r) => (match ip_en (ip_ml i) a with
        | some l1 => (match ip_run n i 0 l1 [] S with
          | some (rv, S1) => ip_run n mi (pc + 3) lv (rv.toList ++ r) S1
          | none => none)
        | none => none)
      | none => match ip_stp mi pc lv st S with
        | some (pc', lv', st', S') => ip_run n mi pc' lv' st' S'
        | none => none
