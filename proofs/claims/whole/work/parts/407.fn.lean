/-! FUNCTIONS OF METHODS, by program (wip/gen/all.py): 220 -/
/-- TaintHouseModel.lookInstruction(II)V -/
def x220 (Z : Nat) (I : St) (a1 a2 : Int32) : Option (St) := if inb a2 2400 then if (I (Z + 26) a2.toNatClampNeg) < 20 then (if (I (Z + 26) a2.toNatClampNeg) < 38 then if (I (Z + 26) a2.toNatClampNeg) = 49 then some 1 else if (I (Z + 26) a2.toNatClampNeg) = 50 then some 1 else some 0 else if (I (Z + 26) a2.toNatClampNeg) ≤ 41 then some 1 else if (I (Z + 26) a2.toNatClampNeg) = 49 then some 1 else if (I (Z + 26) a2.toNatClampNeg) = 50 then some 1 else some 0).bind fun (q1 : Int32) => if q1 = 0 then if (I (Z + 26) a2.toNatClampNeg) = 37 then if inb a2 2400 then (x216 Z I (I (Z + 29) a2.toNatClampNeg) (I Z 5)).bind fun q2 => if inb a2 2400 then if q2 = (-1) then if inb a2 2400 then (x217 (up2 I (Z + 33) a2.toNatClampNeg q2) 2 ((up2 I (Z + 33) a2.toNatClampNeg q2) (Z + 30) a2.toNatClampNeg)).bind fun q3 => some q3 else none else if q1 = 0 then some (up2 I (Z + 33) a2.toNatClampNeg q2) else if inb a2 2400 then (if (I (Z + 26) a2.toNatClampNeg) = 38 then (x222 Z (up2 I (Z + 33) a2.toNatClampNeg q2) q2 ((up2 I (Z + 33) a2.toNatClampNeg q2) (Z + 31) a2.toNatClampNeg)).bind fun q4 => some q4 else if (I (Z + 26) a2.toNatClampNeg) = 39 then (x222 Z (up2 I (Z + 33) a2.toNatClampNeg q2) q2 ((up2 I (Z + 33) a2.toNatClampNeg q2) (Z + 31) a2.toNatClampNeg)).bind fun q5 => some q5 else if (I (Z + 26) a2.toNatClampNeg) = 40 then (x223 Z (up2 I (Z + 33) a2.toNatClampNeg q2) q2 ((up2 I (Z + 33) a2.toNatClampNeg q2) (Z + 31) a2.toNatClampNeg)).bind fun q6 => some q6 else if (I (Z + 26) a2.toNatClampNeg) = 41 then (x223 Z (up2 I (Z + 33) a2.toNatClampNeg q2) q2 ((up2 I (Z + 33) a2.toNatClampNeg q2) (Z + 31) a2.toNatClampNeg)).bind fun q7 => some q7 else (if (I (Z + 26) a2.toNatClampNeg) = 50 then some 1 else some 0).bind fun (q8 : Int32) => (x219 Z (up2 I (Z + 33) a2.toNatClampNeg q2) q2 ((up2 I (Z + 33) a2.toNatClampNeg q2) (Z + 31) a2.toNatClampNeg) q8).bind fun q9 => some q9).bind fun (q10 : Int32) => if inb a2 2400 then if q10 = (-1) then if inb a2 2400 then (x217 (up2 (up2 I (Z + 33) a2.toNatClampNeg q2) (Z + 27) a2.toNatClampNeg q10) 2 ((up2 (up2 I (Z + 33) a2.toNatClampNeg q2) (Z + 27) a2.toNatClampNeg q10) (Z + 32) a2.toNatClampNeg)).bind fun q11 => some q11 else none else some (up2 (up2 I (Z + 33) a2.toNatClampNeg q2) (Z + 27) a2.toNatClampNeg q10) else none else none else none else none else if (I (Z + 26) a2.toNatClampNeg) = 53 then if inb a2 2400 then (x216 Z I (I (Z + 29) a2.toNatClampNeg) (I Z 5)).bind fun q12 => if inb a2 2400 then if q12 = (-1) then if inb a2 2400 then (x217 (up2 I (Z + 33) a2.toNatClampNeg q12) 2 ((up2 I (Z + 33) a2.toNatClampNeg q12) (Z + 30) a2.toNatClampNeg)).bind fun q13 => some q13 else none else if q1 = 0 then some (up2 I (Z + 33) a2.toNatClampNeg q12) else if inb a2 2400 then (if (I (Z + 26) a2.toNatClampNeg) = 38 then (x222 Z (up2 I (Z + 33) a2.toNatClampNeg q12) q12 ((up2 I (Z + 33) a2.toNatClampNeg q12) (Z + 31) a2.toNatClampNeg)).bind fun q14 => some q14 else if (I (Z + 26) a2.toNatClampNeg) = 39 then (x222 Z (up2 I (Z + 33) a2.toNatClampNeg q12) q12 ((up2 I (Z + 33) a2.toNatClampNeg q12) (Z + 31) a2.toNatClampNeg)).bind fun q15 => some q15 else if (I (Z + 26) a2.toNatClampNeg) = 40 then (x223 Z (up2 I (Z + 33) a2.toNatClampNeg q12) q12 ((up2 I (Z + 33) a2.toNatClampNeg q12) (Z + 31) a2.toNatClampNeg)).bind fun q16 => some q16 else if (I (Z + 26) a2.toNatClampNeg) = 41 then (x223 Z (up2 I (Z + 33) a2.toNatClampNeg q12) q12 ((up2 I (Z + 33) a2.toNatClampNeg q12) (Z + 31) a2.toNatClampNeg)).bind fun q17 => some q17 else (if (I (Z + 26) a2.toNatClampNeg) = 50 then some 1 else some 0).bind fun (q18 : Int32) => (x219 Z (up2 I (Z + 33) a2.toNatClampNeg q12) q12 ((up2 I (Z + 33) a2.toNatClampNeg q12) (Z + 31) a2.toNatClampNeg) q18).bind fun q19 => some q19).bind fun (q20 : Int32) => if inb a2 2400 then if q20 = (-1) then if inb a2 2400 then (x217 (up2 (up2 I (Z + 33) a2.toNatClampNeg q12) (Z + 27) a2.toNatClampNeg q20) 2 ((up2 (up2 I (Z + 33) a2.toNatClampNeg q12) (Z + 27) a2.toNatClampNeg q20) (Z + 32) a2.toNatClampNeg)).bind fun q21 => some q21 else none else some (up2 (up2 I (Z + 33) a2.toNatClampNeg q12) (Z + 27) a2.toNatClampNeg q20) else none else none else none else none else if (I (Z + 26) a2.toNatClampNeg) = 54 then if inb a2 2400 then (x216 Z I (I (Z + 29) a2.toNatClampNeg) (I Z 5)).bind fun q22 => if inb a2 2400 then if q22 = (-1) then if inb a2 2400 then (x217 (up2 I (Z + 33) a2.toNatClampNeg q22) 2 ((up2 I (Z + 33) a2.toNatClampNeg q22) (Z + 30) a2.toNatClampNeg)).bind fun q23 => some q23 else none else if q1 = 0 then some (up2 I (Z + 33) a2.toNatClampNeg q22) else if inb a2 2400 then (if (I (Z + 26) a2.toNatClampNeg) = 38 then (x222 Z (up2 I (Z + 33) a2.toNatClampNeg q22) q22 ((up2 I (Z + 33) a2.toNatClampNeg q22) (Z + 31) a2.toNatClampNeg)).bind fun q24 => some q24 else if (I (Z + 26) a2.toNatClampNeg) = 39 then (x222 Z (up2 I (Z + 33) a2.toNatClampNeg q22) q22 ((up2 I (Z + 33) a2.toNatClampNeg q22) (Z + 31) a2.toNatClampNeg)).bind fun q25 => some q25 else if (I (Z + 26) a2.toNatClampNeg) = 40 then (x223 Z (up2 I (Z + 33) a2.toNatClampNeg q22) q22 ((up2 I (Z + 33) a2.toNatClampNeg q22) (Z + 31) a2.toNatClampNeg)).bind fun q26 => some q26 else if (I (Z + 26) a2.toNatClampNeg) = 41 then (x223 Z (up2 I (Z + 33) a2.toNatClampNeg q22) q22 ((up2 I (Z + 33) a2.toNatClampNeg q22) (Z + 31) a2.toNatClampNeg)).bind fun q27 => some q27 else (if (I (Z + 26) a2.toNatClampNeg) = 50 then some 1 else some 0).bind fun (q28 : Int32) => (x219 Z (up2 I (Z + 33) a2.toNatClampNeg q22) q22 ((up2 I (Z + 33) a2.toNatClampNeg q22) (Z + 31) a2.toNatClampNeg) q28).bind fun q29 => some q29).bind fun (q30 : Int32) => if inb a2 2400 then if q30 = (-1) then if inb a2 2400 then (x217 (up2 (up2 I (Z + 33) a2.toNatClampNeg q22) (Z + 27) a2.toNatClampNeg q30) 2 ((up2 (up2 I (Z + 33) a2.toNatClampNeg q22) (Z + 27) a2.toNatClampNeg q30) (Z + 32) a2.toNatClampNeg)).bind fun q31 => some q31 else none else some (up2 (up2 I (Z + 33) a2.toNatClampNeg q22) (Z + 27) a2.toNatClampNeg q30) else none else none else none else none else some I else if inb a2 2400 then (x216 Z I (I (Z + 29) a2.toNatClampNeg) (I Z 5)).bind fun q32 => if inb a2 2400 then if q32 = (-1) then if inb a2 2400 then (x217 (up2 I (Z + 33) a2.toNatClampNeg q32) 2 ((up2 I (Z + 33) a2.toNatClampNeg q32) (Z + 30) a2.toNatClampNeg)).bind fun q33 => some q33 else none else if q1 = 0 then some (up2 I (Z + 33) a2.toNatClampNeg q32) else if inb a2 2400 then (if (I (Z + 26) a2.toNatClampNeg) = 38 then (x222 Z (up2 I (Z + 33) a2.toNatClampNeg q32) q32 ((up2 I (Z + 33) a2.toNatClampNeg q32) (Z + 31) a2.toNatClampNeg)).bind fun q34 => some q34 else if (I (Z + 26) a2.toNatClampNeg) = 39 then (x222 Z (up2 I (Z + 33) a2.toNatClampNeg q32) q32 ((up2 I (Z + 33) a2.toNatClampNeg q32) (Z + 31) a2.toNatClampNeg)).bind fun q35 => some q35 else if (I (Z + 26) a2.toNatClampNeg) = 40 then (x223 Z (up2 I (Z + 33) a2.toNatClampNeg q32) q32 ((up2 I (Z + 33) a2.toNatClampNeg q32) (Z + 31) a2.toNatClampNeg)).bind fun q36 => some q36 else if (I (Z + 26) a2.toNatClampNeg) = 41 then (x223 Z (up2 I (Z + 33) a2.toNatClampNeg q32) q32 ((up2 I (Z + 33) a2.toNatClampNeg q32) (Z + 31) a2.toNatClampNeg)).bind fun q37 => some q37 else (if (I (Z + 26) a2.toNatClampNeg) = 50 then some 1 else some 0).bind fun (q38 : Int32) => (x219 Z (up2 I (Z + 33) a2.toNatClampNeg q32) q32 ((up2 I (Z + 33) a2.toNatClampNeg q32) (Z + 31) a2.toNatClampNeg) q38).bind fun q39 => some q39).bind fun (q40 : Int32) => if inb a2 2400 then if q40 = (-1) then if inb a2 2400 then (x217 (up2 (up2 I (Z + 33) a2.toNatClampNeg q32) (Z + 27) a2.toNatClampNeg q40) 2 ((up2 (up2 I (Z + 33) a2.toNatClampNeg q32) (Z + 27) a2.toNatClampNeg q40) (Z + 32) a2.toNatClampNeg)).bind fun q41 => some q41 else none else some (up2 (up2 I (Z + 33) a2.toNatClampNeg q32) (Z + 27) a2.toNatClampNeg q40) else none else none else none else none else if 36 < (I (Z + 26) a2.toNatClampNeg) then (if (I (Z + 26) a2.toNatClampNeg) < 38 then if (I (Z + 26) a2.toNatClampNeg) = 49 then some 1 else if (I (Z + 26) a2.toNatClampNeg) = 50 then some 1 else some 0 else if (I (Z + 26) a2.toNatClampNeg) ≤ 41 then some 1 else if (I (Z + 26) a2.toNatClampNeg) = 49 then some 1 else if (I (Z + 26) a2.toNatClampNeg) = 50 then some 1 else some 0).bind fun (q42 : Int32) => if q42 = 0 then if (I (Z + 26) a2.toNatClampNeg) = 37 then if inb a2 2400 then (x216 Z I (I (Z + 29) a2.toNatClampNeg) (I Z 5)).bind fun q43 => if inb a2 2400 then if q43 = (-1) then if inb a2 2400 then (x217 (up2 I (Z + 33) a2.toNatClampNeg q43) 2 ((up2 I (Z + 33) a2.toNatClampNeg q43) (Z + 30) a2.toNatClampNeg)).bind fun q44 => some q44 else none else if q42 = 0 then some (up2 I (Z + 33) a2.toNatClampNeg q43) else if inb a2 2400 then (if (I (Z + 26) a2.toNatClampNeg) = 38 then (x222 Z (up2 I (Z + 33) a2.toNatClampNeg q43) q43 ((up2 I (Z + 33) a2.toNatClampNeg q43) (Z + 31) a2.toNatClampNeg)).bind fun q45 => some q45 else if (I (Z + 26) a2.toNatClampNeg) = 39 then (x222 Z (up2 I (Z + 33) a2.toNatClampNeg q43) q43 ((up2 I (Z + 33) a2.toNatClampNeg q43) (Z + 31) a2.toNatClampNeg)).bind fun q46 => some q46 else if (I (Z + 26) a2.toNatClampNeg) = 40 then (x223 Z (up2 I (Z + 33) a2.toNatClampNeg q43) q43 ((up2 I (Z + 33) a2.toNatClampNeg q43) (Z + 31) a2.toNatClampNeg)).bind fun q47 => some q47 else if (I (Z + 26) a2.toNatClampNeg) = 41 then (x223 Z (up2 I (Z + 33) a2.toNatClampNeg q43) q43 ((up2 I (Z + 33) a2.toNatClampNeg q43) (Z + 31) a2.toNatClampNeg)).bind fun q48 => some q48 else (if (I (Z + 26) a2.toNatClampNeg) = 50 then some 1 else some 0).bind fun (q49 : Int32) => (x219 Z (up2 I (Z + 33) a2.toNatClampNeg q43) q43 ((up2 I (Z + 33) a2.toNatClampNeg q43) (Z + 31) a2.toNatClampNeg) q49).bind fun q50 => some q50).bind fun (q51 : Int32) => if inb a2 2400 then if q51 = (-1) then if inb a2 2400 then (x217 (up2 (up2 I (Z + 33) a2.toNatClampNeg q43) (Z + 27) a2.toNatClampNeg q51) 2 ((up2 (up2 I (Z + 33) a2.toNatClampNeg q43) (Z + 27) a2.toNatClampNeg q51) (Z + 32) a2.toNatClampNeg)).bind fun q52 => some q52 else none else some (up2 (up2 I (Z + 33) a2.toNatClampNeg q43) (Z + 27) a2.toNatClampNeg q51) else none else none else none else none else if (I (Z + 26) a2.toNatClampNeg) = 53 then if inb a2 2400 then (x216 Z I (I (Z + 29) a2.toNatClampNeg) (I Z 5)).bind fun q53 => if inb a2 2400 then if q53 = (-1) then if inb a2 2400 then (x217 (up2 I (Z + 33) a2.toNatClampNeg q53) 2 ((up2 I (Z + 33) a2.toNatClampNeg q53) (Z + 30) a2.toNatClampNeg)).bind fun q54 => some q54 else none else if q42 = 0 then some (up2 I (Z + 33) a2.toNatClampNeg q53) else if inb a2 2400 then (if (I (Z + 26) a2.toNatClampNeg) = 38 then (x222 Z (up2 I (Z + 33) a2.toNatClampNeg q53) q53 ((up2 I (Z + 33) a2.toNatClampNeg q53) (Z + 31) a2.toNatClampNeg)).bind fun q55 => some q55 else if (I (Z + 26) a2.toNatClampNeg) = 39 then (x222 Z (up2 I (Z + 33) a2.toNatClampNeg q53) q53 ((up2 I (Z + 33) a2.toNatClampNeg q53) (Z + 31) a2.toNatClampNeg)).bind fun q56 => some q56 else if (I (Z + 26) a2.toNatClampNeg) = 40 then (x223 Z (up2 I (Z + 33) a2.toNatClampNeg q53) q53 ((up2 I (Z + 33) a2.toNatClampNeg q53) (Z + 31) a2.toNatClampNeg)).bind fun q57 => some q57 else if (I (Z + 26) a2.toNatClampNeg) = 41 then (x223 Z (up2 I (Z + 33) a2.toNatClampNeg q53) q53 ((up2 I (Z + 33) a2.toNatClampNeg q53) (Z + 31) a2.toNatClampNeg)).bind fun q58 => some q58 else (if (I (Z + 26) a2.toNatClampNeg) = 50 then some 1 else some 0).bind fun (q59 : Int32) => (x219 Z (up2 I (Z + 33) a2.toNatClampNeg q53) q53 ((up2 I (Z + 33) a2.toNatClampNeg q53) (Z + 31) a2.toNatClampNeg) q59).bind fun q60 => some q60).bind fun (q61 : Int32) => if inb a2 2400 then if q61 = (-1) then if inb a2 2400 then (x217 (up2 (up2 I (Z + 33) a2.toNatClampNeg q53) (Z + 27) a2.toNatClampNeg q61) 2 ((up2 (up2 I (Z + 33) a2.toNatClampNeg q53) (Z + 27) a2.toNatClampNeg q61) (Z + 32) a2.toNatClampNeg)).bind fun q62 => some q62 else none else some (up2 (up2 I (Z + 33) a2.toNatClampNeg q53) (Z + 27) a2.toNatClampNeg q61) else none else none else none else none else if (I (Z + 26) a2.toNatClampNeg) = 54 then if inb a2 2400 then (x216 Z I (I (Z + 29) a2.toNatClampNeg) (I Z 5)).bind fun q63 => if inb a2 2400 then if q63 = (-1) then if inb a2 2400 then (x217 (up2 I (Z + 33) a2.toNatClampNeg q63) 2 ((up2 I (Z + 33) a2.toNatClampNeg q63) (Z + 30) a2.toNatClampNeg)).bind fun q64 => some q64 else none else if q42 = 0 then some (up2 I (Z + 33) a2.toNatClampNeg q63) else if inb a2 2400 then (if (I (Z + 26) a2.toNatClampNeg) = 38 then (x222 Z (up2 I (Z + 33) a2.toNatClampNeg q63) q63 ((up2 I (Z + 33) a2.toNatClampNeg q63) (Z + 31) a2.toNatClampNeg)).bind fun q65 => some q65 else if (I (Z + 26) a2.toNatClampNeg) = 39 then (x222 Z (up2 I (Z + 33) a2.toNatClampNeg q63) q63 ((up2 I (Z + 33) a2.toNatClampNeg q63) (Z + 31) a2.toNatClampNeg)).bind fun q66 => some q66 else if (I (Z + 26) a2.toNatClampNeg) = 40 then (x223 Z (up2 I (Z + 33) a2.toNatClampNeg q63) q63 ((up2 I (Z + 33) a2.toNatClampNeg q63) (Z + 31) a2.toNatClampNeg)).bind fun q67 => some q67 else if (I (Z + 26) a2.toNatClampNeg) = 41 then (x223 Z (up2 I (Z + 33) a2.toNatClampNeg q63) q63 ((up2 I (Z + 33) a2.toNatClampNeg q63) (Z + 31) a2.toNatClampNeg)).bind fun q68 => some q68 else (if (I (Z + 26) a2.toNatClampNeg) = 50 then some 1 else some 0).bind fun (q69 : Int32) => (x219 Z (up2 I (Z + 33) a2.toNatClampNeg q63) q63 ((up2 I (Z + 33) a2.toNatClampNeg q63) (Z + 31) a2.toNatClampNeg) q69).bind fun q70 => some q70).bind fun (q71 : Int32) => if inb a2 2400 then if q71 = (-1) then if inb a2 2400 then (x217 (up2 (up2 I (Z + 33) a2.toNatClampNeg q63) (Z + 27) a2.toNatClampNeg q71) 2 ((up2 (up2 I (Z + 33) a2.toNatClampNeg q63) (Z + 27) a2.toNatClampNeg q71) (Z + 32) a2.toNatClampNeg)).bind fun q72 => some q72 else none else some (up2 (up2 I (Z + 33) a2.toNatClampNeg q63) (Z + 27) a2.toNatClampNeg q71) else none else none else none else none else some I else if inb a2 2400 then (x216 Z I (I (Z + 29) a2.toNatClampNeg) (I Z 5)).bind fun q73 => if inb a2 2400 then if q73 = (-1) then if inb a2 2400 then (x217 (up2 I (Z + 33) a2.toNatClampNeg q73) 2 ((up2 I (Z + 33) a2.toNatClampNeg q73) (Z + 30) a2.toNatClampNeg)).bind fun q74 => some q74 else none else if q42 = 0 then some (up2 I (Z + 33) a2.toNatClampNeg q73) else if inb a2 2400 then (if (I (Z + 26) a2.toNatClampNeg) = 38 then (x222 Z (up2 I (Z + 33) a2.toNatClampNeg q73) q73 ((up2 I (Z + 33) a2.toNatClampNeg q73) (Z + 31) a2.toNatClampNeg)).bind fun q75 => some q75 else if (I (Z + 26) a2.toNatClampNeg) = 39 then (x222 Z (up2 I (Z + 33) a2.toNatClampNeg q73) q73 ((up2 I (Z + 33) a2.toNatClampNeg q73) (Z + 31) a2.toNatClampNeg)).bind fun q76 => some q76 else if (I (Z + 26) a2.toNatClampNeg) = 40 then (x223 Z (up2 I (Z + 33) a2.toNatClampNeg q73) q73 ((up2 I (Z + 33) a2.toNatClampNeg q73) (Z + 31) a2.toNatClampNeg)).bind fun q77 => some q77 else if (I (Z + 26) a2.toNatClampNeg) = 41 then (x223 Z (up2 I (Z + 33) a2.toNatClampNeg q73) q73 ((up2 I (Z + 33) a2.toNatClampNeg q73) (Z + 31) a2.toNatClampNeg)).bind fun q78 => some q78 else (if (I (Z + 26) a2.toNatClampNeg) = 50 then some 1 else some 0).bind fun (q79 : Int32) => (x219 Z (up2 I (Z + 33) a2.toNatClampNeg q73) q73 ((up2 I (Z + 33) a2.toNatClampNeg q73) (Z + 31) a2.toNatClampNeg) q79).bind fun q80 => some q80).bind fun (q81 : Int32) => if inb a2 2400 then if q81 = (-1) then if inb a2 2400 then (x217 (up2 (up2 I (Z + 33) a2.toNatClampNeg q73) (Z + 27) a2.toNatClampNeg q81) 2 ((up2 (up2 I (Z + 33) a2.toNatClampNeg q73) (Z + 27) a2.toNatClampNeg q81) (Z + 32) a2.toNatClampNeg)).bind fun q82 => some q82 else none else some (up2 (up2 I (Z + 33) a2.toNatClampNeg q73) (Z + 27) a2.toNatClampNeg q81) else none else none else none else none else if inb a2 2400 then (x221 Z I a1 (I (Z + 29) a2.toNatClampNeg)).bind fun q83 => if inb a2 2400 then if inb a2 2400 then if ((up2 I (Z + 33) a2.toNatClampNeg q83) (Z + 33) a2.toNatClampNeg) = (-1) then if inb a2 2400 then (x217 (up2 I (Z + 33) a2.toNatClampNeg q83) 2 ((up2 I (Z + 33) a2.toNatClampNeg q83) (Z + 30) a2.toNatClampNeg)).bind fun q84 => some q84 else none else some (up2 I (Z + 33) a2.toNatClampNeg q83) else none else none else none else none
set_option maxRecDepth 20000 in
theorem x220_D {E : Xe} {R : Nat → Nat → Option Nat} {Z : Nat} {o : Outcome} {w : Wd} {T : (St) → Prop} {I : St} (hZ : Z = 85 ∨ Z = 126) (h82_4 : R 82 4 = some Z) (a1 a2 : Int32) (hT : ∀ r, T r → o = .returned none ∧ w = wT r R) : Dq (x220 Z I a1 a2) T → Rn E 220 (0, loc0 220 [.ref 82, .int a1, .int a2], [], wT I R) o w := by
  unfold x220
  rcases hZ with rfl | rfl
  · refine D.run 1 rfl ?_
    refine D.st rfl (by decide) (gf_1 h82_4) ?_
    refine D.run 2 rfl ?_
    refine D.gd fun hg => ?_
    refine D.st rfl (by decide) (al_i (by decide) (by first | rfl | decide) hg.1 hg.2) ?_
    show _ → Rn E 220 (9, [.ref 82, .int a1, .int a2, us, us, us, us, us], [.int (I (85 + 26) a2.toNatClampNeg)], wT I R) o w
    refine D.run 3 rfl ?_
    refine D.br rfl (by decide) rfl (fun hc => ?_) (fun hc => ?_)
    · refine D.run 2 rfl ?_
      have Kj102 : ∀ (q1 : Int32), Dq (if q1 = 0 then if (I (85 + 26) a2.toNatClampNeg) = 37 then if inb a2 2400 then (x216 85 I (I (85 + 29) a2.toNatClampNeg) (I 85 5)).bind fun q2 => if inb a2 2400 then if q2 = (-1) then if inb a2 2400 then (x217 (up2 I (85 + 33) a2.toNatClampNeg q2) 2 ((up2 I (85 + 33) a2.toNatClampNeg q2) (85 + 30) a2.toNatClampNeg)).bind fun q3 => some q3 else none else if q1 = 0 then some (up2 I (85 + 33) a2.toNatClampNeg q2) else if inb a2 2400 then (if (I (85 + 26) a2.toNatClampNeg) = 38 then (x222 85 (up2 I (85 + 33) a2.toNatClampNeg q2) q2 ((up2 I (85 + 33) a2.toNatClampNeg q2) (85 + 31) a2.toNatClampNeg)).bind fun q4 => some q4 else if (I (85 + 26) a2.toNatClampNeg) = 39 then (x222 85 (up2 I (85 + 33) a2.toNatClampNeg q2) q2 ((up2 I (85 + 33) a2.toNatClampNeg q2) (85 + 31) a2.toNatClampNeg)).bind fun q5 => some q5 else if (I (85 + 26) a2.toNatClampNeg) = 40 then (x223 85 (up2 I (85 + 33) a2.toNatClampNeg q2) q2 ((up2 I (85 + 33) a2.toNatClampNeg q2) (85 + 31) a2.toNatClampNeg)).bind fun q6 => some q6 else if (I (85 + 26) a2.toNatClampNeg) = 41 then (x223 85 (up2 I (85 + 33) a2.toNatClampNeg q2) q2 ((up2 I (85 + 33) a2.toNatClampNeg q2) (85 + 31) a2.toNatClampNeg)).bind fun q7 => some q7 else (if (I (85 + 26) a2.toNatClampNeg) = 50 then some 1 else some 0).bind fun (q8 : Int32) => (x219 85 (up2 I (85 + 33) a2.toNatClampNeg q2) q2 ((up2 I (85 + 33) a2.toNatClampNeg q2) (85 + 31) a2.toNatClampNeg) q8).bind fun q9 => some q9).bind fun (q10 : Int32) => if inb a2 2400 then if q10 = (-1) then if inb a2 2400 then (x217 (up2 (up2 I (85 + 33) a2.toNatClampNeg q2) (85 + 27) a2.toNatClampNeg q10) 2 ((up2 (up2 I (85 + 33) a2.toNatClampNeg q2) (85 + 27) a2.toNatClampNeg q10) (85 + 32) a2.toNatClampNeg)).bind fun q11 => some q11 else none else some (up2 (up2 I (85 + 33) a2.toNatClampNeg q2) (85 + 27) a2.toNatClampNeg q10) else none else none else none else none else if (I (85 + 26) a2.toNatClampNeg) = 53 then if inb a2 2400 then (x216 85 I (I (85 + 29) a2.toNatClampNeg) (I 85 5)).bind fun q12 => if inb a2 2400 then if q12 = (-1) then if inb a2 2400 then (x217 (up2 I (85 + 33) a2.toNatClampNeg q12) 2 ((up2 I (85 + 33) a2.toNatClampNeg q12) (85 + 30) a2.toNatClampNeg)).bind fun q13 => some q13 else none else if q1 = 0 then some (up2 I (85 + 33) a2.toNatClampNeg q12) else if inb a2 2400 then (if (I (85 + 26) a2.toNatClampNeg) = 38 then (x222 85 (up2 I (85 + 33) a2.toNatClampNeg q12) q12 ((up2 I (85 + 33) a2.toNatClampNeg q12) (85 + 31) a2.toNatClampNeg)).bind fun q14 => some q14 else if (I (85 + 26) a2.toNatClampNeg) = 39 then (x222 85 (up2 I (85 + 33) a2.toNatClampNeg q12) q12 ((up2 I (85 + 33) a2.toNatClampNeg q12) (85 + 31) a2.toNatClampNeg)).bind fun q15 => some q15 else if (I (85 + 26) a2.toNatClampNeg) = 40 then (x223 85 (up2 I (85 + 33) a2.toNatClampNeg q12) q12 ((up2 I (85 + 33) a2.toNatClampNeg q12) (85 + 31) a2.toNatClampNeg)).bind fun q16 => some q16 else if (I (85 + 26) a2.toNatClampNeg) = 41 then (x223 85 (up2 I (85 + 33) a2.toNatClampNeg q12) q12 ((up2 I (85 + 33) a2.toNatClampNeg q12) (85 + 31) a2.toNatClampNeg)).bind fun q17 => some q17 else (if (I (85 + 26) a2.toNatClampNeg) = 50 then some 1 else some 0).bind fun (q18 : Int32) => (x219 85 (up2 I (85 + 33) a2.toNatClampNeg q12) q12 ((up2 I (85 + 33) a2.toNatClampNeg q12) (85 + 31) a2.toNatClampNeg) q18).bind fun q19 => some q19).bind fun (q20 : Int32) => if inb a2 2400 then if q20 = (-1) then if inb a2 2400 then (x217 (up2 (up2 I (85 + 33) a2.toNatClampNeg q12) (85 + 27) a2.toNatClampNeg q20) 2 ((up2 (up2 I (85 + 33) a2.toNatClampNeg q12) (85 + 27) a2.toNatClampNeg q20) (85 + 32) a2.toNatClampNeg)).bind fun q21 => some q21 else none else some (up2 (up2 I (85 + 33) a2.toNatClampNeg q12) (85 + 27) a2.toNatClampNeg q20) else none else none else none else none else if (I (85 + 26) a2.toNatClampNeg) = 54 then if inb a2 2400 then (x216 85 I (I (85 + 29) a2.toNatClampNeg) (I 85 5)).bind fun q22 => if inb a2 2400 then if q22 = (-1) then if inb a2 2400 then (x217 (up2 I (85 + 33) a2.toNatClampNeg q22) 2 ((up2 I (85 + 33) a2.toNatClampNeg q22) (85 + 30) a2.toNatClampNeg)).bind fun q23 => some q23 else none else if q1 = 0 then some (up2 I (85 + 33) a2.toNatClampNeg q22) else if inb a2 2400 then (if (I (85 + 26) a2.toNatClampNeg) = 38 then (x222 85 (up2 I (85 + 33) a2.toNatClampNeg q22) q22 ((up2 I (85 + 33) a2.toNatClampNeg q22) (85 + 31) a2.toNatClampNeg)).bind fun q24 => some q24 else if (I (85 + 26) a2.toNatClampNeg) = 39 then (x222 85 (up2 I (85 + 33) a2.toNatClampNeg q22) q22 ((up2 I (85 + 33) a2.toNatClampNeg q22) (85 + 31) a2.toNatClampNeg)).bind fun q25 => some q25 else if (I (85 + 26) a2.toNatClampNeg) = 40 then (x223 85 (up2 I (85 + 33) a2.toNatClampNeg q22) q22 ((up2 I (85 + 33) a2.toNatClampNeg q22) (85 + 31) a2.toNatClampNeg)).bind fun q26 => some q26 else if (I (85 + 26) a2.toNatClampNeg) = 41 then (x223 85 (up2 I (85 + 33) a2.toNatClampNeg q22) q22 ((up2 I (85 + 33) a2.toNatClampNeg q22) (85 + 31) a2.toNatClampNeg)).bind fun q27 => some q27 else (if (I (85 + 26) a2.toNatClampNeg) = 50 then some 1 else some 0).bind fun (q28 : Int32) => (x219 85 (up2 I (85 + 33) a2.toNatClampNeg q22) q22 ((up2 I (85 + 33) a2.toNatClampNeg q22) (85 + 31) a2.toNatClampNeg) q28).bind fun q29 => some q29).bind fun (q30 : Int32) => if inb a2 2400 then if q30 = (-1) then if inb a2 2400 then (x217 (up2 (up2 I (85 + 33) a2.toNatClampNeg q22) (85 + 27) a2.toNatClampNeg q30) 2 ((up2 (up2 I (85 + 33) a2.toNatClampNeg q22) (85 + 27) a2.toNatClampNeg q30) (85 + 32) a2.toNatClampNeg)).bind fun q31 => some q31 else none else some (up2 (up2 I (85 + 33) a2.toNatClampNeg q22) (85 + 27) a2.toNatClampNeg q30) else none else none else none else none else some I else if inb a2 2400 then (x216 85 I (I (85 + 29) a2.toNatClampNeg) (I 85 5)).bind fun q32 => if inb a2 2400 then if q32 = (-1) then if inb a2 2400 then (x217 (up2 I (85 + 33) a2.toNatClampNeg q32) 2 ((up2 I (85 + 33) a2.toNatClampNeg q32) (85 + 30) a2.toNatClampNeg)).bind fun q33 => some q33 else none else if q1 = 0 then some (up2 I (85 + 33) a2.toNatClampNeg q32) else if inb a2 2400 then (if (I (85 + 26) a2.toNatClampNeg) = 38 then (x222 85 (up2 I (85 + 33) a2.toNatClampNeg q32) q32 ((up2 I (85 + 33) a2.toNatClampNeg q32) (85 + 31) a2.toNatClampNeg)).bind fun q34 => some q34 else if (I (85 + 26) a2.toNatClampNeg) = 39 then (x222 85 (up2 I (85 + 33) a2.toNatClampNeg q32) q32 ((up2 I (85 + 33) a2.toNatClampNeg q32) (85 + 31) a2.toNatClampNeg)).bind fun q35 => some q35 else if (I (85 + 26) a2.toNatClampNeg) = 40 then (x223 85 (up2 I (85 + 33) a2.toNatClampNeg q32) q32 ((up2 I (85 + 33) a2.toNatClampNeg q32) (85 + 31) a2.toNatClampNeg)).bind fun q36 => some q36 else if (I (85 + 26) a2.toNatClampNeg) = 41 then (x223 85 (up2 I (85 + 33) a2.toNatClampNeg q32) q32 ((up2 I (85 + 33) a2.toNatClampNeg q32) (85 + 31) a2.toNatClampNeg)).bind fun q37 => some q37 else (if (I (85 + 26) a2.toNatClampNeg) = 50 then some 1 else some 0).bind fun (q38 : Int32) => (x219 85 (up2 I (85 + 33) a2.toNatClampNeg q32) q32 ((up2 I (85 + 33) a2.toNatClampNeg q32) (85 + 31) a2.toNatClampNeg) q38).bind fun q39 => some q39).bind fun (q40 : Int32) => if inb a2 2400 then if q40 = (-1) then if inb a2 2400 then (x217 (up2 (up2 I (85 + 33) a2.toNatClampNeg q32) (85 + 27) a2.toNatClampNeg q40) 2 ((up2 (up2 I (85 + 33) a2.toNatClampNeg q32) (85 + 27) a2.toNatClampNeg q40) (85 + 32) a2.toNatClampNeg)).bind fun q41 => some q41 else none else some (up2 (up2 I (85 + 33) a2.toNatClampNeg q32) (85 + 27) a2.toNatClampNeg q40) else none else none else none else none) T → Rn E 220 (102, [.ref 82, .int a1, .int a2, .int (I (85 + 26) a2.toNatClampNeg), us, us, us, us], [.int q1], wT I R) o w := by
        intro q1
        refine D.run 2 rfl ?_
        refine D.br rfl (by decide) rfl (fun hc => ?_) (fun hc => ?_)
        · refine D.run 2 rfl ?_
          refine D.br rfl (by decide) rfl (fun hc => ?_) (fun hc => ?_)
          · refine D.run 2 rfl ?_
            refine D.st rfl (by decide) (gf_1 h82_4) ?_
            refine D.run 2 rfl ?_
            refine D.gd fun hg => ?_
            refine D.st rfl (by decide) (al_i (by decide) (by first | rfl | decide) hg.1 hg.2) ?_
            show _ → Rn E 220 (138, [.ref 82, .int a1, .int a2, .int (I (85 + 26) a2.toNatClampNeg), .int q1, us, us, us], [.int (I (85 + 29) a2.toNatClampNeg), .ref 82], wT I R) o w
            refine D.run 1 rfl ?_
            refine D.st rfl (by decide) (gf_1 h82_4) ?_
            refine D.run 1 rfl ?_
            refine D.call rfl rfl rfl rfl (fun q h => x216_ok (by decide) h82_4 h) (fun q2 => ?_)
            refine D.run 2 rfl ?_
            refine D.st rfl (by decide) (gf_1 h82_4) ?_
            show _ → Rn E 220 (154, [.ref 82, .int a1, .int a2, .int (I (85 + 26) a2.toNatClampNeg), .int q1, .int q2, us, us], [.ref 85], wT I R) o w
            refine D.run 3 rfl ?_
            refine D.gd fun hg => ?_
            refine D.st rfl (by decide) (as_i (by decide) (by first | rfl | decide) hg.1 hg.2) ?_
            refine D.run 2 rfl ?_
            refine D.br rfl (by decide) rfl (fun hc => ?_) (fun hc => ?_)
            · refine D.run 3 rfl ?_
              refine D.st rfl (by decide) (gf_1 h82_4) ?_
              refine D.run 2 rfl ?_
              refine D.gd fun hg => ?_
              refine D.st rfl (by decide) (al_i (by decide) (by first | rfl | decide) hg.1 hg.2) ?_
              show _ → Rn E 220 (178, [.ref 82, .int a1, .int a2, .int (I (85 + 26) a2.toNatClampNeg), .int q1, .int q2, us, us], [.int ((up2 I (85 + 33) a2.toNatClampNeg q2) (85 + 30) a2.toNatClampNeg), .int 2, .ref 82], wT (up2 I (85 + 33) a2.toNatClampNeg q2) R) o w
              refine D.call rfl rfl rfl rfl (fun q h => x217_ok h) (fun q3 => ?_)
              refine D.run 1 rfl ?_
              exact fun h => by obtain ⟨rfl, rfl⟩ := hT _ (D.some h); exact Rn.ret rfl rfl rfl
            · refine D.run 1 rfl ?_
              refine D.br rfl (by decide) rfl (fun hc => ?_) (fun hc => ?_)
              · exact fun h => by obtain ⟨rfl, rfl⟩ := hT _ (D.some h); exact Rn.ret rfl rfl rfl
              · refine D.run 1 rfl ?_
                refine D.st rfl (by decide) (gf_1 h82_4) ?_
                refine D.run 2 rfl ?_
                refine D.gd fun hg => ?_
                refine D.st rfl (by decide) (al_i (by decide) (by first | rfl | decide) hg.1 hg.2) ?_
                show _ → Rn E 220 (198, [.ref 82, .int a1, .int a2, .int (I (85 + 26) a2.toNatClampNeg), .int q1, .int q2, us, us], [.int ((up2 I (85 + 33) a2.toNatClampNeg q2) (85 + 31) a2.toNatClampNeg)], wT (up2 I (85 + 33) a2.toNatClampNeg q2) R) o w
                refine D.run 3 rfl ?_
                have Kj268 : ∀ (q10 : Int32), Dq (if inb a2 2400 then if q10 = (-1) then if inb a2 2400 then (x217 (up2 (up2 I (85 + 33) a2.toNatClampNeg q2) (85 + 27) a2.toNatClampNeg q10) 2 ((up2 (up2 I (85 + 33) a2.toNatClampNeg q2) (85 + 27) a2.toNatClampNeg q10) (85 + 32) a2.toNatClampNeg)).bind fun q11 => some q11 else none else some (up2 (up2 I (85 + 33) a2.toNatClampNeg q2) (85 + 27) a2.toNatClampNeg q10) else none) T → Rn E 220 (268, [.ref 82, .int a1, .int a2, .int (I (85 + 26) a2.toNatClampNeg), .int q1, .int q2, .int ((up2 I (85 + 33) a2.toNatClampNeg q2) (85 + 31) a2.toNatClampNeg), us], [.int q10], wT (up2 I (85 + 33) a2.toNatClampNeg q2) R) o w := by
                  intro q10
                  refine D.run 2 rfl ?_
                  refine D.st rfl (by decide) (gf_1 h82_4) ?_
                  refine D.run 3 rfl ?_
                  refine D.gd fun hg => ?_
                  refine D.st rfl (by decide) (as_i (by decide) (by first | rfl | decide) hg.1 hg.2) ?_
                  show _ → Rn E 220 (281, [.ref 82, .int a1, .int a2, .int (I (85 + 26) a2.toNatClampNeg), .int q1, .int q2, .int ((up2 I (85 + 33) a2.toNatClampNeg q2) (85 + 31) a2.toNatClampNeg), .int q10], [], wT (up2 (up2 I (85 + 33) a2.toNatClampNeg q2) (85 + 27) a2.toNatClampNeg q10) R) o w
                  refine D.run 2 rfl ?_
                  refine D.br rfl (by decide) rfl (fun hc => ?_) (fun hc => ?_)
                  · refine D.run 3 rfl ?_
                    refine D.st rfl (by decide) (gf_1 h82_4) ?_
                    refine D.run 2 rfl ?_
                    refine D.gd fun hg => ?_
                    refine D.st rfl (by decide) (al_i (by decide) (by first | rfl | decide) hg.1 hg.2) ?_
                    show _ → Rn E 220 (298, [.ref 82, .int a1, .int a2, .int (I (85 + 26) a2.toNatClampNeg), .int q1, .int q2, .int ((up2 I (85 + 33) a2.toNatClampNeg q2) (85 + 31) a2.toNatClampNeg), .int q10], [.int ((up2 (up2 I (85 + 33) a2.toNatClampNeg q2) (85 + 27) a2.toNatClampNeg q10) (85 + 32) a2.toNatClampNeg), .int 2, .ref 82], wT (up2 (up2 I (85 + 33) a2.toNatClampNeg q2) (85 + 27) a2.toNatClampNeg q10) R) o w
                    refine D.call rfl rfl rfl rfl (fun q h => x217_ok h) (fun q11 => ?_)
                    exact fun h => by obtain ⟨rfl, rfl⟩ := hT _ (D.some h); exact Rn.ret rfl rfl rfl
                  · exact fun h => by obtain ⟨rfl, rfl⟩ := hT _ (D.some h); exact Rn.ret rfl rfl rfl
                refine D.jn (fun T268 c268 => ?_)
                refine D.br rfl (by decide) rfl (fun hc => ?_) (fun hc => ?_)
                · refine D.run 3 rfl ?_
                  refine D.call rfl rfl rfl rfl (fun q h => x222_ok (by decide) h82_4 h) (fun q4 => ?_)
                  refine D.run 1 rfl ?_
                  exact fun h => Kj268 _   (c268 _ (D.some h))
                · refine D.run 2 rfl ?_
                  refine D.br rfl (by decide) rfl (fun hc => ?_) (fun hc => ?_)
                  · refine D.run 3 rfl ?_
                    refine D.call rfl rfl rfl rfl (fun q h => x222_ok (by decide) h82_4 h) (fun q5 => ?_)
                    refine D.run 1 rfl ?_
                    exact fun h => Kj268 _   (c268 _ (D.some h))
                  · refine D.run 2 rfl ?_
                    refine D.br rfl (by decide) rfl (fun hc => ?_) (fun hc => ?_)
                    · refine D.run 3 rfl ?_
                      refine D.call rfl rfl rfl rfl (fun q h => x223_ok (by decide) h82_4 h) (fun q6 => ?_)
                      refine D.run 1 rfl ?_
                      exact fun h => Kj268 _   (c268 _ (D.some h))
                    · refine D.run 2 rfl ?_
                      refine D.br rfl (by decide) rfl (fun hc => ?_) (fun hc => ?_)
                      · refine D.run 3 rfl ?_
                        refine D.call rfl rfl rfl rfl (fun q h => x223_ok (by decide) h82_4 h) (fun q7 => ?_)
                        refine D.run 1 rfl ?_
                        exact fun h => Kj268 _   (c268 _ (D.some h))
                      · refine D.run 1 rfl ?_
                        refine D.st rfl (by decide) (gf_1 h82_4) ?_
                        refine D.run 4 rfl ?_
                        have Kj265 : ∀ (q8 : Int32), Dq ((x219 85 (up2 I (85 + 33) a2.toNatClampNeg q2) q2 ((up2 I (85 + 33) a2.toNatClampNeg q2) (85 + 31) a2.toNatClampNeg) q8).bind fun q9 => some q9) T268 → Rn E 220 (265, [.ref 82, .int a1, .int a2, .int (I (85 + 26) a2.toNatClampNeg), .int q1, .int q2, .int ((up2 I (85 + 33) a2.toNatClampNeg q2) (85 + 31) a2.toNatClampNeg), us], [.int q8, .int ((up2 I (85 + 33) a2.toNatClampNeg q2) (85 + 31) a2.toNatClampNeg), .int q2, .ref 85], wT (up2 I (85 + 33) a2.toNatClampNeg q2) R) o w := by
                          intro q8
                          refine D.call rfl rfl rfl rfl (fun q h => x219_ok (by decide) h) (fun q9 => ?_)
                          exact fun h => Kj268 _   (c268 _ (D.some h))
                        refine D.jn (fun T265 c265 => ?_)
                        refine D.br rfl (by decide) rfl (fun hc => ?_) (fun hc => ?_)
                        · refine D.run 2 rfl ?_
                          exact fun h => Kj265 _   (c265 _ (D.some h))
                        · refine D.run 1 rfl ?_
                          exact fun h => Kj265 _   (c265 _ (D.some h))
          · refine D.run 2 rfl ?_
            refine D.br rfl (by decide) rfl (fun hc => ?_) (fun hc => ?_)
            · refine D.run 2 rfl ?_
              refine D.st rfl (by decide) (gf_1 h82_4) ?_
              refine D.run 2 rfl ?_
              refine D.gd fun hg => ?_
              refine D.st rfl (by decide) (al_i (by decide) (by first | rfl | decide) hg.1 hg.2) ?_
              show _ → Rn E 220 (138, [.ref 82, .int a1, .int a2, .int (I (85 + 26) a2.toNatClampNeg), .int q1, us, us, us], [.int (I (85 + 29) a2.toNatClampNeg), .ref 82], wT I R) o w
              refine D.run 1 rfl ?_
              refine D.st rfl (by decide) (gf_1 h82_4) ?_
              refine D.run 1 rfl ?_
              refine D.call rfl rfl rfl rfl (fun q h => x216_ok (by decide) h82_4 h) (fun q12 => ?_)
              refine D.run 2 rfl ?_
              refine D.st rfl (by decide) (gf_1 h82_4) ?_
              show _ → Rn E 220 (154, [.ref 82, .int a1, .int a2, .int (I (85 + 26) a2.toNatClampNeg), .int q1, .int q12, us, us], [.ref 85], wT I R) o w
              refine D.run 3 rfl ?_
              refine D.gd fun hg => ?_
              refine D.st rfl (by decide) (as_i (by decide) (by first | rfl | decide) hg.1 hg.2) ?_
              refine D.run 2 rfl ?_
              refine D.br rfl (by decide) rfl (fun hc => ?_) (fun hc => ?_)
              · refine D.run 3 rfl ?_
                refine D.st rfl (by decide) (gf_1 h82_4) ?_
                refine D.run 2 rfl ?_
                refine D.gd fun hg => ?_
                refine D.st rfl (by decide) (al_i (by decide) (by first | rfl | decide) hg.1 hg.2) ?_
                show _ → Rn E 220 (178, [.ref 82, .int a1, .int a2, .int (I (85 + 26) a2.toNatClampNeg), .int q1, .int q12, us, us], [.int ((up2 I (85 + 33) a2.toNatClampNeg q12) (85 + 30) a2.toNatClampNeg), .int 2, .ref 82], wT (up2 I (85 + 33) a2.toNatClampNeg q12) R) o w
                refine D.call rfl rfl rfl rfl (fun q h => x217_ok h) (fun q13 => ?_)
                refine D.run 1 rfl ?_
                exact fun h => by obtain ⟨rfl, rfl⟩ := hT _ (D.some h); exact Rn.ret rfl rfl rfl
              · refine D.run 1 rfl ?_
                refine D.br rfl (by decide) rfl (fun hc => ?_) (fun hc => ?_)
                · exact fun h => by obtain ⟨rfl, rfl⟩ := hT _ (D.some h); exact Rn.ret rfl rfl rfl
                · refine D.run 1 rfl ?_
                  refine D.st rfl (by decide) (gf_1 h82_4) ?_
                  refine D.run 2 rfl ?_
                  refine D.gd fun hg => ?_
                  refine D.st rfl (by decide) (al_i (by decide) (by first | rfl | decide) hg.1 hg.2) ?_
                  show _ → Rn E 220 (198, [.ref 82, .int a1, .int a2, .int (I (85 + 26) a2.toNatClampNeg), .int q1, .int q12, us, us], [.int ((up2 I (85 + 33) a2.toNatClampNeg q12) (85 + 31) a2.toNatClampNeg)], wT (up2 I (85 + 33) a2.toNatClampNeg q12) R) o w
                  refine D.run 3 rfl ?_
                  have Kj268 : ∀ (q20 : Int32), Dq (if inb a2 2400 then if q20 = (-1) then if inb a2 2400 then (x217 (up2 (up2 I (85 + 33) a2.toNatClampNeg q12) (85 + 27) a2.toNatClampNeg q20) 2 ((up2 (up2 I (85 + 33) a2.toNatClampNeg q12) (85 + 27) a2.toNatClampNeg q20) (85 + 32) a2.toNatClampNeg)).bind fun q21 => some q21 else none else some (up2 (up2 I (85 + 33) a2.toNatClampNeg q12) (85 + 27) a2.toNatClampNeg q20) else none) T → Rn E 220 (268, [.ref 82, .int a1, .int a2, .int (I (85 + 26) a2.toNatClampNeg), .int q1, .int q12, .int ((up2 I (85 + 33) a2.toNatClampNeg q12) (85 + 31) a2.toNatClampNeg), us], [.int q20], wT (up2 I (85 + 33) a2.toNatClampNeg q12) R) o w := by
                    intro q20
                    refine D.run 2 rfl ?_
                    refine D.st rfl (by decide) (gf_1 h82_4) ?_
                    refine D.run 3 rfl ?_
                    refine D.gd fun hg => ?_
                    refine D.st rfl (by decide) (as_i (by decide) (by first | rfl | decide) hg.1 hg.2) ?_
                    show _ → Rn E 220 (281, [.ref 82, .int a1, .int a2, .int (I (85 + 26) a2.toNatClampNeg), .int q1, .int q12, .int ((up2 I (85 + 33) a2.toNatClampNeg q12) (85 + 31) a2.toNatClampNeg), .int q20], [], wT (up2 (up2 I (85 + 33) a2.toNatClampNeg q12) (85 + 27) a2.toNatClampNeg q20) R) o w
                    refine D.run 2 rfl ?_
                    refine D.br rfl (by decide) rfl (fun hc => ?_) (fun hc => ?_)
                    · refine D.run 3 rfl ?_
                      refine D.st rfl (by decide) (gf_1 h82_4) ?_
                      refine D.run 2 rfl ?_
                      refine D.gd fun hg => ?_
                      refine D.st rfl (by decide) (al_i (by decide) (by first | rfl | decide) hg.1 hg.2) ?_
                      show _ → Rn E 220 (298, [.ref 82, .int a1, .int a2, .int (I (85 + 26) a2.toNatClampNeg), .int q1, .int q12, .int ((up2 I (85 + 33) a2.toNatClampNeg q12) (85 + 31) a2.toNatClampNeg), .int q20], [.int ((up2 (up2 I (85 + 33) a2.toNatClampNeg q12) (85 + 27) a2.toNatClampNeg q20) (85 + 32) a2.toNatClampNeg), .int 2, .ref 82], wT (up2 (up2 I (85 + 33) a2.toNatClampNeg q12) (85 + 27) a2.toNatClampNeg q20) R) o w
                      refine D.call rfl rfl rfl rfl (fun q h => x217_ok h) (fun q21 => ?_)
                      exact fun h => by obtain ⟨rfl, rfl⟩ := hT _ (D.some h); exact Rn.ret rfl rfl rfl
                    · exact fun h => by obtain ⟨rfl, rfl⟩ := hT _ (D.some h); exact Rn.ret rfl rfl rfl
                  refine D.jn (fun T268 c268 => ?_)
                  refine D.br rfl (by decide) rfl (fun hc => ?_) (fun hc => ?_)
                  · refine D.run 3 rfl ?_
                    refine D.call rfl rfl rfl rfl (fun q h => x222_ok (by decide) h82_4 h) (fun q14 => ?_)
                    refine D.run 1 rfl ?_
                    exact fun h => Kj268 _   (c268 _ (D.some h))
                  · refine D.run 2 rfl ?_
                    refine D.br rfl (by decide) rfl (fun hc => ?_) (fun hc => ?_)
                    · refine D.run 3 rfl ?_
                      refine D.call rfl rfl rfl rfl (fun q h => x222_ok (by decide) h82_4 h) (fun q15 => ?_)
                      refine D.run 1 rfl ?_
                      exact fun h => Kj268 _   (c268 _ (D.some h))
                    · refine D.run 2 rfl ?_
                      refine D.br rfl (by decide) rfl (fun hc => ?_) (fun hc => ?_)
                      · refine D.run 3 rfl ?_
                        refine D.call rfl rfl rfl rfl (fun q h => x223_ok (by decide) h82_4 h) (fun q16 => ?_)
                        refine D.run 1 rfl ?_
                        exact fun h => Kj268 _   (c268 _ (D.some h))
                      · refine D.run 2 rfl ?_
                        refine D.br rfl (by decide) rfl (fun hc => ?_) (fun hc => ?_)
                        · refine D.run 3 rfl ?_
                          refine D.call rfl rfl rfl rfl (fun q h => x223_ok (by decide) h82_4 h) (fun q17 => ?_)
                          refine D.run 1 rfl ?_
                          exact fun h => Kj268 _   (c268 _ (D.some h))
                        · refine D.run 1 rfl ?_
                          refine D.st rfl (by decide) (gf_1 h82_4) ?_
                          refine D.run 4 rfl ?_
                          have Kj265 : ∀ (q18 : Int32), Dq ((x219 85 (up2 I (85 + 33) a2.toNatClampNeg q12) q12 ((up2 I (85 + 33) a2.toNatClampNeg q12) (85 + 31) a2.toNatClampNeg) q18).bind fun q19 => some q19) T268 → Rn E 220 (265, [.ref 82, .int a1, .int a2, .int (I (85 + 26) a2.toNatClampNeg), .int q1, .int q12, .int ((up2 I (85 + 33) a2.toNatClampNeg q12) (85 + 31) a2.toNatClampNeg), us], [.int q18, .int ((up2 I (85 + 33) a2.toNatClampNeg q12) (85 + 31) a2.toNatClampNeg), .int q12, .ref 85], wT (up2 I (85 + 33) a2.toNatClampNeg q12) R) o w := by
                            intro q18
                            refine D.call rfl rfl rfl rfl (fun q h => x219_ok (by decide) h) (fun q19 => ?_)
                            exact fun h => Kj268 _   (c268 _ (D.some h))
                          refine D.jn (fun T265 c265 => ?_)
                          refine D.br rfl (by decide) rfl (fun hc => ?_) (fun hc => ?_)
                          · refine D.run 2 rfl ?_
                            exact fun h => Kj265 _   (c265 _ (D.some h))
                          · refine D.run 1 rfl ?_
                            exact fun h => Kj265 _   (c265 _ (D.some h))
            · refine D.run 2 rfl ?_
              refine D.br rfl (by decide) rfl (fun hc => ?_) (fun hc => ?_)
              · refine D.run 2 rfl ?_
                refine D.st rfl (by decide) (gf_1 h82_4) ?_
                refine D.run 2 rfl ?_
                refine D.gd fun hg => ?_
                refine D.st rfl (by decide) (al_i (by decide) (by first | rfl | decide) hg.1 hg.2) ?_
                show _ → Rn E 220 (138, [.ref 82, .int a1, .int a2, .int (I (85 + 26) a2.toNatClampNeg), .int q1, us, us, us], [.int (I (85 + 29) a2.toNatClampNeg), .ref 82], wT I R) o w
                refine D.run 1 rfl ?_
                refine D.st rfl (by decide) (gf_1 h82_4) ?_
                refine D.run 1 rfl ?_
                refine D.call rfl rfl rfl rfl (fun q h => x216_ok (by decide) h82_4 h) (fun q22 => ?_)
                refine D.run 2 rfl ?_
                refine D.st rfl (by decide) (gf_1 h82_4) ?_
                show _ → Rn E 220 (154, [.ref 82, .int a1, .int a2, .int (I (85 + 26) a2.toNatClampNeg), .int q1, .int q22, us, us], [.ref 85], wT I R) o w
                refine D.run 3 rfl ?_
                refine D.gd fun hg => ?_
                refine D.st rfl (by decide) (as_i (by decide) (by first | rfl | decide) hg.1 hg.2) ?_
                refine D.run 2 rfl ?_
                refine D.br rfl (by decide) rfl (fun hc => ?_) (fun hc => ?_)
                · refine D.run 3 rfl ?_
                  refine D.st rfl (by decide) (gf_1 h82_4) ?_
                  refine D.run 2 rfl ?_
                  refine D.gd fun hg => ?_
                  refine D.st rfl (by decide) (al_i (by decide) (by first | rfl | decide) hg.1 hg.2) ?_
                  show _ → Rn E 220 (178, [.ref 82, .int a1, .int a2, .int (I (85 + 26) a2.toNatClampNeg), .int q1, .int q22, us, us], [.int ((up2 I (85 + 33) a2.toNatClampNeg q22) (85 + 30) a2.toNatClampNeg), .int 2, .ref 82], wT (up2 I (85 + 33) a2.toNatClampNeg q22) R) o w
                  refine D.call rfl rfl rfl rfl (fun q h => x217_ok h) (fun q23 => ?_)
                  refine D.run 1 rfl ?_
                  exact fun h => by obtain ⟨rfl, rfl⟩ := hT _ (D.some h); exact Rn.ret rfl rfl rfl
                · refine D.run 1 rfl ?_
                  refine D.br rfl (by decide) rfl (fun hc => ?_) (fun hc => ?_)
                  · exact fun h => by obtain ⟨rfl, rfl⟩ := hT _ (D.some h); exact Rn.ret rfl rfl rfl
                  · refine D.run 1 rfl ?_
                    refine D.st rfl (by decide) (gf_1 h82_4) ?_
                    refine D.run 2 rfl ?_
                    refine D.gd fun hg => ?_
                    refine D.st rfl (by decide) (al_i (by decide) (by first | rfl | decide) hg.1 hg.2) ?_
                    show _ → Rn E 220 (198, [.ref 82, .int a1, .int a2, .int (I (85 + 26) a2.toNatClampNeg), .int q1, .int q22, us, us], [.int ((up2 I (85 + 33) a2.toNatClampNeg q22) (85 + 31) a2.toNatClampNeg)], wT (up2 I (85 + 33) a2.toNatClampNeg q22) R) o w
                    refine D.run 3 rfl ?_
                    have Kj268 : ∀ (q30 : Int32), Dq (if inb a2 2400 then if q30 = (-1) then if inb a2 2400 then (x217 (up2 (up2 I (85 + 33) a2.toNatClampNeg q22) (85 + 27) a2.toNatClampNeg q30) 2 ((up2 (up2 I (85 + 33) a2.toNatClampNeg q22) (85 + 27) a2.toNatClampNeg q30) (85 + 32) a2.toNatClampNeg)).bind fun q31 => some q31 else none else some (up2 (up2 I (85 + 33) a2.toNatClampNeg q22) (85 + 27) a2.toNatClampNeg q30) else none) T → Rn E 220 (268, [.ref 82, .int a1, .int a2, .int (I (85 + 26) a2.toNatClampNeg), .int q1, .int q22, .int ((up2 I (85 + 33) a2.toNatClampNeg q22) (85 + 31) a2.toNatClampNeg), us], [.int q30], wT (up2 I (85 + 33) a2.toNatClampNeg q22) R) o w := by
                      intro q30
                      refine D.run 2 rfl ?_
                      refine D.st rfl (by decide) (gf_1 h82_4) ?_
                      refine D.run 3 rfl ?_
                      refine D.gd fun hg => ?_
                      refine D.st rfl (by decide) (as_i (by decide) (by first | rfl | decide) hg.1 hg.2) ?_
                      show _ → Rn E 220 (281, [.ref 82, .int a1, .int a2, .int (I (85 + 26) a2.toNatClampNeg), .int q1, .int q22, .int ((up2 I (85 + 33) a2.toNatClampNeg q22) (85 + 31) a2.toNatClampNeg), .int q30], [], wT (up2 (up2 I (85 + 33) a2.toNatClampNeg q22) (85 + 27) a2.toNatClampNeg q30) R) o w
                      refine D.run 2 rfl ?_
                      refine D.br rfl (by decide) rfl (fun hc => ?_) (fun hc => ?_)
                      · refine D.run 3 rfl ?_
                        refine D.st rfl (by decide) (gf_1 h82_4) ?_
                        refine D.run 2 rfl ?_
                        refine D.gd fun hg => ?_
                        refine D.st rfl (by decide) (al_i (by decide) (by first | rfl | decide) hg.1 hg.2) ?_
                        show _ → Rn E 220 (298, [.ref 82, .int a1, .int a2, .int (I (85 + 26) a2.toNatClampNeg), .int q1, .int q22, .int ((up2 I (85 + 33) a2.toNatClampNeg q22) (85 + 31) a2.toNatClampNeg), .int q30], [.int ((up2 (up2 I (85 + 33) a2.toNatClampNeg q22) (85 + 27) a2.toNatClampNeg q30) (85 + 32) a2.toNatClampNeg), .int 2, .ref 82], wT (up2 (up2 I (85 + 33) a2.toNatClampNeg q22) (85 + 27) a2.toNatClampNeg q30) R) o w
                        refine D.call rfl rfl rfl rfl (fun q h => x217_ok h) (fun q31 => ?_)
                        exact fun h => by obtain ⟨rfl, rfl⟩ := hT _ (D.some h); exact Rn.ret rfl rfl rfl
                      · exact fun h => by obtain ⟨rfl, rfl⟩ := hT _ (D.some h); exact Rn.ret rfl rfl rfl
                    refine D.jn (fun T268 c268 => ?_)
                    refine D.br rfl (by decide) rfl (fun hc => ?_) (fun hc => ?_)
                    · refine D.run 3 rfl ?_
                      refine D.call rfl rfl rfl rfl (fun q h => x222_ok (by decide) h82_4 h) (fun q24 => ?_)
                      refine D.run 1 rfl ?_
                      exact fun h => Kj268 _   (c268 _ (D.some h))
                    · refine D.run 2 rfl ?_
                      refine D.br rfl (by decide) rfl (fun hc => ?_) (fun hc => ?_)
                      · refine D.run 3 rfl ?_
                        refine D.call rfl rfl rfl rfl (fun q h => x222_ok (by decide) h82_4 h) (fun q25 => ?_)
                        refine D.run 1 rfl ?_
                        exact fun h => Kj268 _   (c268 _ (D.some h))
                      · refine D.run 2 rfl ?_
                        refine D.br rfl (by decide) rfl (fun hc => ?_) (fun hc => ?_)
                        · refine D.run 3 rfl ?_
                          refine D.call rfl rfl rfl rfl (fun q h => x223_ok (by decide) h82_4 h) (fun q26 => ?_)
                          refine D.run 1 rfl ?_
                          exact fun h => Kj268 _   (c268 _ (D.some h))
                        · refine D.run 2 rfl ?_
                          refine D.br rfl (by decide) rfl (fun hc => ?_) (fun hc => ?_)
                          · refine D.run 3 rfl ?_
                            refine D.call rfl rfl rfl rfl (fun q h => x223_ok (by decide) h82_4 h) (fun q27 => ?_)
                            refine D.run 1 rfl ?_
                            exact fun h => Kj268 _   (c268 _ (D.some h))
                          · refine D.run 1 rfl ?_
                            refine D.st rfl (by decide) (gf_1 h82_4) ?_
                            refine D.run 4 rfl ?_
                            have Kj265 : ∀ (q28 : Int32), Dq ((x219 85 (up2 I (85 + 33) a2.toNatClampNeg q22) q22 ((up2 I (85 + 33) a2.toNatClampNeg q22) (85 + 31) a2.toNatClampNeg) q28).bind fun q29 => some q29) T268 → Rn E 220 (265, [.ref 82, .int a1, .int a2, .int (I (85 + 26) a2.toNatClampNeg), .int q1, .int q22, .int ((up2 I (85 + 33) a2.toNatClampNeg q22) (85 + 31) a2.toNatClampNeg), us], [.int q28, .int ((up2 I (85 + 33) a2.toNatClampNeg q22) (85 + 31) a2.toNatClampNeg), .int q22, .ref 85], wT (up2 I (85 + 33) a2.toNatClampNeg q22) R) o w := by
                              intro q28
                              refine D.call rfl rfl rfl rfl (fun q h => x219_ok (by decide) h) (fun q29 => ?_)
                              exact fun h => Kj268 _   (c268 _ (D.some h))
                            refine D.jn (fun T265 c265 => ?_)
                            refine D.br rfl (by decide) rfl (fun hc => ?_) (fun hc => ?_)
                            · refine D.run 2 rfl ?_
                              exact fun h => Kj265 _   (c265 _ (D.some h))
                            · refine D.run 1 rfl ?_
                              exact fun h => Kj265 _   (c265 _ (D.some h))
              · exact fun h => by obtain ⟨rfl, rfl⟩ := hT _ (D.some h); exact Rn.ret rfl rfl rfl
        · refine D.run 2 rfl ?_
          refine D.st rfl (by decide) (gf_1 h82_4) ?_
          refine D.run 2 rfl ?_
          refine D.gd fun hg => ?_
          refine D.st rfl (by decide) (al_i (by decide) (by first | rfl | decide) hg.1 hg.2) ?_
          show _ → Rn E 220 (138, [.ref 82, .int a1, .int a2, .int (I (85 + 26) a2.toNatClampNeg), .int q1, us, us, us], [.int (I (85 + 29) a2.toNatClampNeg), .ref 82], wT I R) o w
          refine D.run 1 rfl ?_
          refine D.st rfl (by decide) (gf_1 h82_4) ?_
          refine D.run 1 rfl ?_
          refine D.call rfl rfl rfl rfl (fun q h => x216_ok (by decide) h82_4 h) (fun q32 => ?_)
          refine D.run 2 rfl ?_
          refine D.st rfl (by decide) (gf_1 h82_4) ?_
          show _ → Rn E 220 (154, [.ref 82, .int a1, .int a2, .int (I (85 + 26) a2.toNatClampNeg), .int q1, .int q32, us, us], [.ref 85], wT I R) o w
          refine D.run 3 rfl ?_
          refine D.gd fun hg => ?_
          refine D.st rfl (by decide) (as_i (by decide) (by first | rfl | decide) hg.1 hg.2) ?_
          refine D.run 2 rfl ?_
          refine D.br rfl (by decide) rfl (fun hc => ?_) (fun hc => ?_)
          · refine D.run 3 rfl ?_
            refine D.st rfl (by decide) (gf_1 h82_4) ?_
            refine D.run 2 rfl ?_
            refine D.gd fun hg => ?_
            refine D.st rfl (by decide) (al_i (by decide) (by first | rfl | decide) hg.1 hg.2) ?_
            show _ → Rn E 220 (178, [.ref 82, .int a1, .int a2, .int (I (85 + 26) a2.toNatClampNeg), .int q1, .int q32, us, us], [.int ((up2 I (85 + 33) a2.toNatClampNeg q32) (85 + 30) a2.toNatClampNeg), .int 2, .ref 82], wT (up2 I (85 + 33) a2.toNatClampNeg q32) R) o w
            refine D.call rfl rfl rfl rfl (fun q h => x217_ok h) (fun q33 => ?_)
            refine D.run 1 rfl ?_
            exact fun h => by obtain ⟨rfl, rfl⟩ := hT _ (D.some h); exact Rn.ret rfl rfl rfl
          · refine D.run 1 rfl ?_
            refine D.br rfl (by decide) rfl (fun hc => ?_) (fun hc => ?_)
            · exact fun h => by obtain ⟨rfl, rfl⟩ := hT _ (D.some h); exact Rn.ret rfl rfl rfl
            · refine D.run 1 rfl ?_
              refine D.st rfl (by decide) (gf_1 h82_4) ?_
              refine D.run 2 rfl ?_
              refine D.gd fun hg => ?_
              refine D.st rfl (by decide) (al_i (by decide) (by first | rfl | decide) hg.1 hg.2) ?_
              show _ → Rn E 220 (198, [.ref 82, .int a1, .int a2, .int (I (85 + 26) a2.toNatClampNeg), .int q1, .int q32, us, us], [.int ((up2 I (85 + 33) a2.toNatClampNeg q32) (85 + 31) a2.toNatClampNeg)], wT (up2 I (85 + 33) a2.toNatClampNeg q32) R) o w
              refine D.run 3 rfl ?_
              have Kj268 : ∀ (q40 : Int32), Dq (if inb a2 2400 then if q40 = (-1) then if inb a2 2400 then (x217 (up2 (up2 I (85 + 33) a2.toNatClampNeg q32) (85 + 27) a2.toNatClampNeg q40) 2 ((up2 (up2 I (85 + 33) a2.toNatClampNeg q32) (85 + 27) a2.toNatClampNeg q40) (85 + 32) a2.toNatClampNeg)).bind fun q41 => some q41 else none else some (up2 (up2 I (85 + 33) a2.toNatClampNeg q32) (85 + 27) a2.toNatClampNeg q40) else none) T → Rn E 220 (268, [.ref 82, .int a1, .int a2, .int (I (85 + 26) a2.toNatClampNeg), .int q1, .int q32, .int ((up2 I (85 + 33) a2.toNatClampNeg q32) (85 + 31) a2.toNatClampNeg), us], [.int q40], wT (up2 I (85 + 33) a2.toNatClampNeg q32) R) o w := by
                intro q40
                refine D.run 2 rfl ?_
                refine D.st rfl (by decide) (gf_1 h82_4) ?_
                refine D.run 3 rfl ?_
                refine D.gd fun hg => ?_
                refine D.st rfl (by decide) (as_i (by decide) (by first | rfl | decide) hg.1 hg.2) ?_
                show _ → Rn E 220 (281, [.ref 82, .int a1, .int a2, .int (I (85 + 26) a2.toNatClampNeg), .int q1, .int q32, .int ((up2 I (85 + 33) a2.toNatClampNeg q32) (85 + 31) a2.toNatClampNeg), .int q40], [], wT (up2 (up2 I (85 + 33) a2.toNatClampNeg q32) (85 + 27) a2.toNatClampNeg q40) R) o w
                refine D.run 2 rfl ?_
                refine D.br rfl (by decide) rfl (fun hc => ?_) (fun hc => ?_)
                · refine D.run 3 rfl ?_
                  refine D.st rfl (by decide) (gf_1 h82_4) ?_
                  refine D.run 2 rfl ?_
                  refine D.gd fun hg => ?_
                  refine D.st rfl (by decide) (al_i (by decide) (by first | rfl | decide) hg.1 hg.2) ?_
                  show _ → Rn E 220 (298, [.ref 82, .int a1, .int a2, .int (I (85 + 26) a2.toNatClampNeg), .int q1, .int q32, .int ((up2 I (85 + 33) a2.toNatClampNeg q32) (85 + 31) a2.toNatClampNeg), .int q40], [.int ((up2 (up2 I (85 + 33) a2.toNatClampNeg q32) (85 + 27) a2.toNatClampNeg q40) (85 + 32) a2.toNatClampNeg), .int 2, .ref 82], wT (up2 (up2 I (85 + 33) a2.toNatClampNeg q32) (85 + 27) a2.toNatClampNeg q40) R) o w
                  refine D.call rfl rfl rfl rfl (fun q h => x217_ok h) (fun q41 => ?_)
                  exact fun h => by obtain ⟨rfl, rfl⟩ := hT _ (D.some h); exact Rn.ret rfl rfl rfl
                · exact fun h => by obtain ⟨rfl, rfl⟩ := hT _ (D.some h); exact Rn.ret rfl rfl rfl
              refine D.jn (fun T268 c268 => ?_)
              refine D.br rfl (by decide) rfl (fun hc => ?_) (fun hc => ?_)
              · refine D.run 3 rfl ?_
                refine D.call rfl rfl rfl rfl (fun q h => x222_ok (by decide) h82_4 h) (fun q34 => ?_)
                refine D.run 1 rfl ?_
                exact fun h => Kj268 _   (c268 _ (D.some h))
              · refine D.run 2 rfl ?_
                refine D.br rfl (by decide) rfl (fun hc => ?_) (fun hc => ?_)
                · refine D.run 3 rfl ?_
                  refine D.call rfl rfl rfl rfl (fun q h => x222_ok (by decide) h82_4 h) (fun q35 => ?_)
                  refine D.run 1 rfl ?_
                  exact fun h => Kj268 _   (c268 _ (D.some h))
                · refine D.run 2 rfl ?_
                  refine D.br rfl (by decide) rfl (fun hc => ?_) (fun hc => ?_)
                  · refine D.run 3 rfl ?_
                    refine D.call rfl rfl rfl rfl (fun q h => x223_ok (by decide) h82_4 h) (fun q36 => ?_)
                    refine D.run 1 rfl ?_
                    exact fun h => Kj268 _   (c268 _ (D.some h))
                  · refine D.run 2 rfl ?_
                    refine D.br rfl (by decide) rfl (fun hc => ?_) (fun hc => ?_)
                    · refine D.run 3 rfl ?_
                      refine D.call rfl rfl rfl rfl (fun q h => x223_ok (by decide) h82_4 h) (fun q37 => ?_)
                      refine D.run 1 rfl ?_
                      exact fun h => Kj268 _   (c268 _ (D.some h))
                    · refine D.run 1 rfl ?_
                      refine D.st rfl (by decide) (gf_1 h82_4) ?_
                      refine D.run 4 rfl ?_
                      have Kj265 : ∀ (q38 : Int32), Dq ((x219 85 (up2 I (85 + 33) a2.toNatClampNeg q32) q32 ((up2 I (85 + 33) a2.toNatClampNeg q32) (85 + 31) a2.toNatClampNeg) q38).bind fun q39 => some q39) T268 → Rn E 220 (265, [.ref 82, .int a1, .int a2, .int (I (85 + 26) a2.toNatClampNeg), .int q1, .int q32, .int ((up2 I (85 + 33) a2.toNatClampNeg q32) (85 + 31) a2.toNatClampNeg), us], [.int q38, .int ((up2 I (85 + 33) a2.toNatClampNeg q32) (85 + 31) a2.toNatClampNeg), .int q32, .ref 85], wT (up2 I (85 + 33) a2.toNatClampNeg q32) R) o w := by
                        intro q38
                        refine D.call rfl rfl rfl rfl (fun q h => x219_ok (by decide) h) (fun q39 => ?_)
                        exact fun h => Kj268 _   (c268 _ (D.some h))
                      refine D.jn (fun T265 c265 => ?_)
                      refine D.br rfl (by decide) rfl (fun hc => ?_) (fun hc => ?_)
                      · refine D.run 2 rfl ?_
                        exact fun h => Kj265 _   (c265 _ (D.some h))
                      · refine D.run 1 rfl ?_
                        exact fun h => Kj265 _   (c265 _ (D.some h))
      refine D.jn (fun T102 c102 => ?_)
      refine D.br rfl (by decide) rfl (fun hc => ?_) (fun hc => ?_)
      · refine D.run 2 rfl ?_
        refine D.br rfl (by decide) rfl (fun hc => ?_) (fun hc => ?_)
        · refine D.run 2 rfl ?_
          exact fun h => Kj102 _   (c102 _ (D.some h))
        · refine D.run 2 rfl ?_
          refine D.br rfl (by decide) rfl (fun hc => ?_) (fun hc => ?_)
          · refine D.run 2 rfl ?_
            exact fun h => Kj102 _   (c102 _ (D.some h))
          · refine D.run 1 rfl ?_
            exact fun h => Kj102 _   (c102 _ (D.some h))
      · refine D.run 2 rfl ?_
        refine D.br rfl (by decide) rfl (fun hc => ?_) (fun hc => ?_)
        · refine D.run 2 rfl ?_
          exact fun h => Kj102 _   (c102 _ (D.some h))
        · refine D.run 2 rfl ?_
          refine D.br rfl (by decide) rfl (fun hc => ?_) (fun hc => ?_)
          · refine D.run 2 rfl ?_
            exact fun h => Kj102 _   (c102 _ (D.some h))
          · refine D.run 2 rfl ?_
            refine D.br rfl (by decide) rfl (fun hc => ?_) (fun hc => ?_)
            · refine D.run 2 rfl ?_
              exact fun h => Kj102 _   (c102 _ (D.some h))
            · refine D.run 1 rfl ?_
              exact fun h => Kj102 _   (c102 _ (D.some h))
    · refine D.run 2 rfl ?_
      refine D.br rfl (by decide) rfl (fun hc => ?_) (fun hc => ?_)
      · refine D.run 2 rfl ?_
        have Kj102 : ∀ (q42 : Int32), Dq (if q42 = 0 then if (I (85 + 26) a2.toNatClampNeg) = 37 then if inb a2 2400 then (x216 85 I (I (85 + 29) a2.toNatClampNeg) (I 85 5)).bind fun q43 => if inb a2 2400 then if q43 = (-1) then if inb a2 2400 then (x217 (up2 I (85 + 33) a2.toNatClampNeg q43) 2 ((up2 I (85 + 33) a2.toNatClampNeg q43) (85 + 30) a2.toNatClampNeg)).bind fun q44 => some q44 else none else if q42 = 0 then some (up2 I (85 + 33) a2.toNatClampNeg q43) else if inb a2 2400 then (if (I (85 + 26) a2.toNatClampNeg) = 38 then (x222 85 (up2 I (85 + 33) a2.toNatClampNeg q43) q43 ((up2 I (85 + 33) a2.toNatClampNeg q43) (85 + 31) a2.toNatClampNeg)).bind fun q45 => some q45 else if (I (85 + 26) a2.toNatClampNeg) = 39 then (x222 85 (up2 I (85 + 33) a2.toNatClampNeg q43) q43 ((up2 I (85 + 33) a2.toNatClampNeg q43) (85 + 31) a2.toNatClampNeg)).bind fun q46 => some q46 else if (I (85 + 26) a2.toNatClampNeg) = 40 then (x223 85 (up2 I (85 + 33) a2.toNatClampNeg q43) q43 ((up2 I (85 + 33) a2.toNatClampNeg q43) (85 + 31) a2.toNatClampNeg)).bind fun q47 => some q47 else if (I (85 + 26) a2.toNatClampNeg) = 41 then (x223 85 (up2 I (85 + 33) a2.toNatClampNeg q43) q43 ((up2 I (85 + 33) a2.toNatClampNeg q43) (85 + 31) a2.toNatClampNeg)).bind fun q48 => some q48 else (if (I (85 + 26) a2.toNatClampNeg) = 50 then some 1 else some 0).bind fun (q49 : Int32) => (x219 85 (up2 I (85 + 33) a2.toNatClampNeg q43) q43 ((up2 I (85 + 33) a2.toNatClampNeg q43) (85 + 31) a2.toNatClampNeg) q49).bind fun q50 => some q50).bind fun (q51 : Int32) => if inb a2 2400 then if q51 = (-1) then if inb a2 2400 then (x217 (up2 (up2 I (85 + 33) a2.toNatClampNeg q43) (85 + 27) a2.toNatClampNeg q51) 2 ((up2 (up2 I (85 + 33) a2.toNatClampNeg q43) (85 + 27) a2.toNatClampNeg q51) (85 + 32) a2.toNatClampNeg)).bind fun q52 => some q52 else none else some (up2 (up2 I (85 + 33) a2.toNatClampNeg q43) (85 + 27) a2.toNatClampNeg q51) else none else none else none else none else if (I (85 + 26) a2.toNatClampNeg) = 53 then if inb a2 2400 then (x216 85 I (I (85 + 29) a2.toNatClampNeg) (I 85 5)).bind fun q53 => if inb a2 2400 then if q53 = (-1) then if inb a2 2400 then (x217 (up2 I (85 + 33) a2.toNatClampNeg q53) 2 ((up2 I (85 + 33) a2.toNatClampNeg q53) (85 + 30) a2.toNatClampNeg)).bind fun q54 => some q54 else none else if q42 = 0 then some (up2 I (85 + 33) a2.toNatClampNeg q53) else if inb a2 2400 then (if (I (85 + 26) a2.toNatClampNeg) = 38 then (x222 85 (up2 I (85 + 33) a2.toNatClampNeg q53) q53 ((up2 I (85 + 33) a2.toNatClampNeg q53) (85 + 31) a2.toNatClampNeg)).bind fun q55 => some q55 else if (I (85 + 26) a2.toNatClampNeg) = 39 then (x222 85 (up2 I (85 + 33) a2.toNatClampNeg q53) q53 ((up2 I (85 + 33) a2.toNatClampNeg q53) (85 + 31) a2.toNatClampNeg)).bind fun q56 => some q56 else if (I (85 + 26) a2.toNatClampNeg) = 40 then (x223 85 (up2 I (85 + 33) a2.toNatClampNeg q53) q53 ((up2 I (85 + 33) a2.toNatClampNeg q53) (85 + 31) a2.toNatClampNeg)).bind fun q57 => some q57 else if (I (85 + 26) a2.toNatClampNeg) = 41 then (x223 85 (up2 I (85 + 33) a2.toNatClampNeg q53) q53 ((up2 I (85 + 33) a2.toNatClampNeg q53) (85 + 31) a2.toNatClampNeg)).bind fun q58 => some q58 else (if (I (85 + 26) a2.toNatClampNeg) = 50 then some 1 else some 0).bind fun (q59 : Int32) => (x219 85 (up2 I (85 + 33) a2.toNatClampNeg q53) q53 ((up2 I (85 + 33) a2.toNatClampNeg q53) (85 + 31) a2.toNatClampNeg) q59).bind fun q60 => some q60).bind fun (q61 : Int32) => if inb a2 2400 then if q61 = (-1) then if inb a2 2400 then (x217 (up2 (up2 I (85 + 33) a2.toNatClampNeg q53) (85 + 27) a2.toNatClampNeg q61) 2 ((up2 (up2 I (85 + 33) a2.toNatClampNeg q53) (85 + 27) a2.toNatClampNeg q61) (85 + 32) a2.toNatClampNeg)).bind fun q62 => some q62 else none else some (up2 (up2 I (85 + 33) a2.toNatClampNeg q53) (85 + 27) a2.toNatClampNeg q61) else none else none else none else none else if (I (85 + 26) a2.toNatClampNeg) = 54 then if inb a2 2400 then (x216 85 I (I (85 + 29) a2.toNatClampNeg) (I 85 5)).bind fun q63 => if inb a2 2400 then if q63 = (-1) then if inb a2 2400 then (x217 (up2 I (85 + 33) a2.toNatClampNeg q63) 2 ((up2 I (85 + 33) a2.toNatClampNeg q63) (85 + 30) a2.toNatClampNeg)).bind fun q64 => some q64 else none else if q42 = 0 then some (up2 I (85 + 33) a2.toNatClampNeg q63) else if inb a2 2400 then (if (I (85 + 26) a2.toNatClampNeg) = 38 then (x222 85 (up2 I (85 + 33) a2.toNatClampNeg q63) q63 ((up2 I (85 + 33) a2.toNatClampNeg q63) (85 + 31) a2.toNatClampNeg)).bind fun q65 => some q65 else if (I (85 + 26) a2.toNatClampNeg) = 39 then (x222 85 (up2 I (85 + 33) a2.toNatClampNeg q63) q63 ((up2 I (85 + 33) a2.toNatClampNeg q63) (85 + 31) a2.toNatClampNeg)).bind fun q66 => some q66 else if (I (85 + 26) a2.toNatClampNeg) = 40 then (x223 85 (up2 I (85 + 33) a2.toNatClampNeg q63) q63 ((up2 I (85 + 33) a2.toNatClampNeg q63) (85 + 31) a2.toNatClampNeg)).bind fun q67 => some q67 else if (I (85 + 26) a2.toNatClampNeg) = 41 then (x223 85 (up2 I (85 + 33) a2.toNatClampNeg q63) q63 ((up2 I (85 + 33) a2.toNatClampNeg q63) (85 + 31) a2.toNatClampNeg)).bind fun q68 => some q68 else (if (I (85 + 26) a2.toNatClampNeg) = 50 then some 1 else some 0).bind fun (q69 : Int32) => (x219 85 (up2 I (85 + 33) a2.toNatClampNeg q63) q63 ((up2 I (85 + 33) a2.toNatClampNeg q63) (85 + 31) a2.toNatClampNeg) q69).bind fun q70 => some q70).bind fun (q71 : Int32) => if inb a2 2400 then if q71 = (-1) then if inb a2 2400 then (x217 (up2 (up2 I (85 + 33) a2.toNatClampNeg q63) (85 + 27) a2.toNatClampNeg q71) 2 ((up2 (up2 I (85 + 33) a2.toNatClampNeg q63) (85 + 27) a2.toNatClampNeg q71) (85 + 32) a2.toNatClampNeg)).bind fun q72 => some q72 else none else some (up2 (up2 I (85 + 33) a2.toNatClampNeg q63) (85 + 27) a2.toNatClampNeg q71) else none else none else none else none else some I else if inb a2 2400 then (x216 85 I (I (85 + 29) a2.toNatClampNeg) (I 85 5)).bind fun q73 => if inb a2 2400 then if q73 = (-1) then if inb a2 2400 then (x217 (up2 I (85 + 33) a2.toNatClampNeg q73) 2 ((up2 I (85 + 33) a2.toNatClampNeg q73) (85 + 30) a2.toNatClampNeg)).bind fun q74 => some q74 else none else if q42 = 0 then some (up2 I (85 + 33) a2.toNatClampNeg q73) else if inb a2 2400 then (if (I (85 + 26) a2.toNatClampNeg) = 38 then (x222 85 (up2 I (85 + 33) a2.toNatClampNeg q73) q73 ((up2 I (85 + 33) a2.toNatClampNeg q73) (85 + 31) a2.toNatClampNeg)).bind fun q75 => some q75 else if (I (85 + 26) a2.toNatClampNeg) = 39 then (x222 85 (up2 I (85 + 33) a2.toNatClampNeg q73) q73 ((up2 I (85 + 33) a2.toNatClampNeg q73) (85 + 31) a2.toNatClampNeg)).bind fun q76 => some q76 else if (I (85 + 26) a2.toNatClampNeg) = 40 then (x223 85 (up2 I (85 + 33) a2.toNatClampNeg q73) q73 ((up2 I (85 + 33) a2.toNatClampNeg q73) (85 + 31) a2.toNatClampNeg)).bind fun q77 => some q77 else if (I (85 + 26) a2.toNatClampNeg) = 41 then (x223 85 (up2 I (85 + 33) a2.toNatClampNeg q73) q73 ((up2 I (85 + 33) a2.toNatClampNeg q73) (85 + 31) a2.toNatClampNeg)).bind fun q78 => some q78 else (if (I (85 + 26) a2.toNatClampNeg) = 50 then some 1 else some 0).bind fun (q79 : Int32) => (x219 85 (up2 I (85 + 33) a2.toNatClampNeg q73) q73 ((up2 I (85 + 33) a2.toNatClampNeg q73) (85 + 31) a2.toNatClampNeg) q79).bind fun q80 => some q80).bind fun (q81 : Int32) => if inb a2 2400 then if q81 = (-1) then if inb a2 2400 then (x217 (up2 (up2 I (85 + 33) a2.toNatClampNeg q73) (85 + 27) a2.toNatClampNeg q81) 2 ((up2 (up2 I (85 + 33) a2.toNatClampNeg q73) (85 + 27) a2.toNatClampNeg q81) (85 + 32) a2.toNatClampNeg)).bind fun q82 => some q82 else none else some (up2 (up2 I (85 + 33) a2.toNatClampNeg q73) (85 + 27) a2.toNatClampNeg q81) else none else none else none else none) T → Rn E 220 (102, [.ref 82, .int a1, .int a2, .int (I (85 + 26) a2.toNatClampNeg), us, us, us, us], [.int q42], wT I R) o w := by
          intro q42
          refine D.run 2 rfl ?_
          refine D.br rfl (by decide) rfl (fun hc => ?_) (fun hc => ?_)
          · refine D.run 2 rfl ?_
            refine D.br rfl (by decide) rfl (fun hc => ?_) (fun hc => ?_)
            · refine D.run 2 rfl ?_
              refine D.st rfl (by decide) (gf_1 h82_4) ?_
              refine D.run 2 rfl ?_
              refine D.gd fun hg => ?_
              refine D.st rfl (by decide) (al_i (by decide) (by first | rfl | decide) hg.1 hg.2) ?_
              show _ → Rn E 220 (138, [.ref 82, .int a1, .int a2, .int (I (85 + 26) a2.toNatClampNeg), .int q42, us, us, us], [.int (I (85 + 29) a2.toNatClampNeg), .ref 82], wT I R) o w
              refine D.run 1 rfl ?_
              refine D.st rfl (by decide) (gf_1 h82_4) ?_
              refine D.run 1 rfl ?_
              refine D.call rfl rfl rfl rfl (fun q h => x216_ok (by decide) h82_4 h) (fun q43 => ?_)
              refine D.run 2 rfl ?_
              refine D.st rfl (by decide) (gf_1 h82_4) ?_
              show _ → Rn E 220 (154, [.ref 82, .int a1, .int a2, .int (I (85 + 26) a2.toNatClampNeg), .int q42, .int q43, us, us], [.ref 85], wT I R) o w
              refine D.run 3 rfl ?_
              refine D.gd fun hg => ?_
              refine D.st rfl (by decide) (as_i (by decide) (by first | rfl | decide) hg.1 hg.2) ?_
              refine D.run 2 rfl ?_
              refine D.br rfl (by decide) rfl (fun hc => ?_) (fun hc => ?_)
              · refine D.run 3 rfl ?_
                refine D.st rfl (by decide) (gf_1 h82_4) ?_
                refine D.run 2 rfl ?_
                refine D.gd fun hg => ?_
                refine D.st rfl (by decide) (al_i (by decide) (by first | rfl | decide) hg.1 hg.2) ?_
                show _ → Rn E 220 (178, [.ref 82, .int a1, .int a2, .int (I (85 + 26) a2.toNatClampNeg), .int q42, .int q43, us, us], [.int ((up2 I (85 + 33) a2.toNatClampNeg q43) (85 + 30) a2.toNatClampNeg), .int 2, .ref 82], wT (up2 I (85 + 33) a2.toNatClampNeg q43) R) o w
                refine D.call rfl rfl rfl rfl (fun q h => x217_ok h) (fun q44 => ?_)
                refine D.run 1 rfl ?_
                exact fun h => by obtain ⟨rfl, rfl⟩ := hT _ (D.some h); exact Rn.ret rfl rfl rfl
              · refine D.run 1 rfl ?_
                refine D.br rfl (by decide) rfl (fun hc => ?_) (fun hc => ?_)
                · exact fun h => by obtain ⟨rfl, rfl⟩ := hT _ (D.some h); exact Rn.ret rfl rfl rfl
                · refine D.run 1 rfl ?_
                  refine D.st rfl (by decide) (gf_1 h82_4) ?_
                  refine D.run 2 rfl ?_
                  refine D.gd fun hg => ?_
                  refine D.st rfl (by decide) (al_i (by decide) (by first | rfl | decide) hg.1 hg.2) ?_
                  show _ → Rn E 220 (198, [.ref 82, .int a1, .int a2, .int (I (85 + 26) a2.toNatClampNeg), .int q42, .int q43, us, us], [.int ((up2 I (85 + 33) a2.toNatClampNeg q43) (85 + 31) a2.toNatClampNeg)], wT (up2 I (85 + 33) a2.toNatClampNeg q43) R) o w
                  refine D.run 3 rfl ?_
                  have Kj268 : ∀ (q51 : Int32), Dq (if inb a2 2400 then if q51 = (-1) then if inb a2 2400 then (x217 (up2 (up2 I (85 + 33) a2.toNatClampNeg q43) (85 + 27) a2.toNatClampNeg q51) 2 ((up2 (up2 I (85 + 33) a2.toNatClampNeg q43) (85 + 27) a2.toNatClampNeg q51) (85 + 32) a2.toNatClampNeg)).bind fun q52 => some q52 else none else some (up2 (up2 I (85 + 33) a2.toNatClampNeg q43) (85 + 27) a2.toNatClampNeg q51) else none) T → Rn E 220 (268, [.ref 82, .int a1, .int a2, .int (I (85 + 26) a2.toNatClampNeg), .int q42, .int q43, .int ((up2 I (85 + 33) a2.toNatClampNeg q43) (85 + 31) a2.toNatClampNeg), us], [.int q51], wT (up2 I (85 + 33) a2.toNatClampNeg q43) R) o w := by
                    intro q51
                    refine D.run 2 rfl ?_
                    refine D.st rfl (by decide) (gf_1 h82_4) ?_
                    refine D.run 3 rfl ?_
                    refine D.gd fun hg => ?_
                    refine D.st rfl (by decide) (as_i (by decide) (by first | rfl | decide) hg.1 hg.2) ?_
                    show _ → Rn E 220 (281, [.ref 82, .int a1, .int a2, .int (I (85 + 26) a2.toNatClampNeg), .int q42, .int q43, .int ((up2 I (85 + 33) a2.toNatClampNeg q43) (85 + 31) a2.toNatClampNeg), .int q51], [], wT (up2 (up2 I (85 + 33) a2.toNatClampNeg q43) (85 + 27) a2.toNatClampNeg q51) R) o w
                    refine D.run 2 rfl ?_
                    refine D.br rfl (by decide) rfl (fun hc => ?_) (fun hc => ?_)
                    · refine D.run 3 rfl ?_
                      refine D.st rfl (by decide) (gf_1 h82_4) ?_
                      refine D.run 2 rfl ?_
                      refine D.gd fun hg => ?_
                      refine D.st rfl (by decide) (al_i (by decide) (by first | rfl | decide) hg.1 hg.2) ?_
                      show _ → Rn E 220 (298, [.ref 82, .int a1, .int a2, .int (I (85 + 26) a2.toNatClampNeg), .int q42, .int q43, .int ((up2 I (85 + 33) a2.toNatClampNeg q43) (85 + 31) a2.toNatClampNeg), .int q51], [.int ((up2 (up2 I (85 + 33) a2.toNatClampNeg q43) (85 + 27) a2.toNatClampNeg q51) (85 + 32) a2.toNatClampNeg), .int 2, .ref 82], wT (up2 (up2 I (85 + 33) a2.toNatClampNeg q43) (85 + 27) a2.toNatClampNeg q51) R) o w
                      refine D.call rfl rfl rfl rfl (fun q h => x217_ok h) (fun q52 => ?_)
                      exact fun h => by obtain ⟨rfl, rfl⟩ := hT _ (D.some h); exact Rn.ret rfl rfl rfl
                    · exact fun h => by obtain ⟨rfl, rfl⟩ := hT _ (D.some h); exact Rn.ret rfl rfl rfl
                  refine D.jn (fun T268 c268 => ?_)
                  refine D.br rfl (by decide) rfl (fun hc => ?_) (fun hc => ?_)
                  · refine D.run 3 rfl ?_
                    refine D.call rfl rfl rfl rfl (fun q h => x222_ok (by decide) h82_4 h) (fun q45 => ?_)
                    refine D.run 1 rfl ?_
                    exact fun h => Kj268 _   (c268 _ (D.some h))
                  · refine D.run 2 rfl ?_
                    refine D.br rfl (by decide) rfl (fun hc => ?_) (fun hc => ?_)
                    · refine D.run 3 rfl ?_
                      refine D.call rfl rfl rfl rfl (fun q h => x222_ok (by decide) h82_4 h) (fun q46 => ?_)
                      refine D.run 1 rfl ?_
                      exact fun h => Kj268 _   (c268 _ (D.some h))
                    · refine D.run 2 rfl ?_
                      refine D.br rfl (by decide) rfl (fun hc => ?_) (fun hc => ?_)
                      · refine D.run 3 rfl ?_
                        refine D.call rfl rfl rfl rfl (fun q h => x223_ok (by decide) h82_4 h) (fun q47 => ?_)
                        refine D.run 1 rfl ?_
                        exact fun h => Kj268 _   (c268 _ (D.some h))
                      · refine D.run 2 rfl ?_
                        refine D.br rfl (by decide) rfl (fun hc => ?_) (fun hc => ?_)
                        · refine D.run 3 rfl ?_
                          refine D.call rfl rfl rfl rfl (fun q h => x223_ok (by decide) h82_4 h) (fun q48 => ?_)
                          refine D.run 1 rfl ?_
                          exact fun h => Kj268 _   (c268 _ (D.some h))
                        · refine D.run 1 rfl ?_
                          refine D.st rfl (by decide) (gf_1 h82_4) ?_
                          refine D.run 4 rfl ?_
                          have Kj265 : ∀ (q49 : Int32), Dq ((x219 85 (up2 I (85 + 33) a2.toNatClampNeg q43) q43 ((up2 I (85 + 33) a2.toNatClampNeg q43) (85 + 31) a2.toNatClampNeg) q49).bind fun q50 => some q50) T268 → Rn E 220 (265, [.ref 82, .int a1, .int a2, .int (I (85 + 26) a2.toNatClampNeg), .int q42, .int q43, .int ((up2 I (85 + 33) a2.toNatClampNeg q43) (85 + 31) a2.toNatClampNeg), us], [.int q49, .int ((up2 I (85 + 33) a2.toNatClampNeg q43) (85 + 31) a2.toNatClampNeg), .int q43, .ref 85], wT (up2 I (85 + 33) a2.toNatClampNeg q43) R) o w := by
                            intro q49
                            refine D.call rfl rfl rfl rfl (fun q h => x219_ok (by decide) h) (fun q50 => ?_)
                            exact fun h => Kj268 _   (c268 _ (D.some h))
                          refine D.jn (fun T265 c265 => ?_)
                          refine D.br rfl (by decide) rfl (fun hc => ?_) (fun hc => ?_)
                          · refine D.run 2 rfl ?_
                            exact fun h => Kj265 _   (c265 _ (D.some h))
                          · refine D.run 1 rfl ?_
                            exact fun h => Kj265 _   (c265 _ (D.some h))
            · refine D.run 2 rfl ?_
              refine D.br rfl (by decide) rfl (fun hc => ?_) (fun hc => ?_)
              · refine D.run 2 rfl ?_
                refine D.st rfl (by decide) (gf_1 h82_4) ?_
                refine D.run 2 rfl ?_
                refine D.gd fun hg => ?_
                refine D.st rfl (by decide) (al_i (by decide) (by first | rfl | decide) hg.1 hg.2) ?_
                show _ → Rn E 220 (138, [.ref 82, .int a1, .int a2, .int (I (85 + 26) a2.toNatClampNeg), .int q42, us, us, us], [.int (I (85 + 29) a2.toNatClampNeg), .ref 82], wT I R) o w
                refine D.run 1 rfl ?_
                refine D.st rfl (by decide) (gf_1 h82_4) ?_
                refine D.run 1 rfl ?_
                refine D.call rfl rfl rfl rfl (fun q h => x216_ok (by decide) h82_4 h) (fun q53 => ?_)
                refine D.run 2 rfl ?_
                refine D.st rfl (by decide) (gf_1 h82_4) ?_
                show _ → Rn E 220 (154, [.ref 82, .int a1, .int a2, .int (I (85 + 26) a2.toNatClampNeg), .int q42, .int q53, us, us], [.ref 85], wT I R) o w
                refine D.run 3 rfl ?_
                refine D.gd fun hg => ?_
                refine D.st rfl (by decide) (as_i (by decide) (by first | rfl | decide) hg.1 hg.2) ?_
                refine D.run 2 rfl ?_
                refine D.br rfl (by decide) rfl (fun hc => ?_) (fun hc => ?_)
                · refine D.run 3 rfl ?_
                  refine D.st rfl (by decide) (gf_1 h82_4) ?_
                  refine D.run 2 rfl ?_
                  refine D.gd fun hg => ?_
                  refine D.st rfl (by decide) (al_i (by decide) (by first | rfl | decide) hg.1 hg.2) ?_
                  show _ → Rn E 220 (178, [.ref 82, .int a1, .int a2, .int (I (85 + 26) a2.toNatClampNeg), .int q42, .int q53, us, us], [.int ((up2 I (85 + 33) a2.toNatClampNeg q53) (85 + 30) a2.toNatClampNeg), .int 2, .ref 82], wT (up2 I (85 + 33) a2.toNatClampNeg q53) R) o w
                  refine D.call rfl rfl rfl rfl (fun q h => x217_ok h) (fun q54 => ?_)
                  refine D.run 1 rfl ?_
                  exact fun h => by obtain ⟨rfl, rfl⟩ := hT _ (D.some h); exact Rn.ret rfl rfl rfl
                · refine D.run 1 rfl ?_
                  refine D.br rfl (by decide) rfl (fun hc => ?_) (fun hc => ?_)
                  · exact fun h => by obtain ⟨rfl, rfl⟩ := hT _ (D.some h); exact Rn.ret rfl rfl rfl
                  · refine D.run 1 rfl ?_
                    refine D.st rfl (by decide) (gf_1 h82_4) ?_
                    refine D.run 2 rfl ?_
                    refine D.gd fun hg => ?_
                    refine D.st rfl (by decide) (al_i (by decide) (by first | rfl | decide) hg.1 hg.2) ?_
                    show _ → Rn E 220 (198, [.ref 82, .int a1, .int a2, .int (I (85 + 26) a2.toNatClampNeg), .int q42, .int q53, us, us], [.int ((up2 I (85 + 33) a2.toNatClampNeg q53) (85 + 31) a2.toNatClampNeg)], wT (up2 I (85 + 33) a2.toNatClampNeg q53) R) o w
                    refine D.run 3 rfl ?_
                    have Kj268 : ∀ (q61 : Int32), Dq (if inb a2 2400 then if q61 = (-1) then if inb a2 2400 then (x217 (up2 (up2 I (85 + 33) a2.toNatClampNeg q53) (85 + 27) a2.toNatClampNeg q61) 2 ((up2 (up2 I (85 + 33) a2.toNatClampNeg q53) (85 + 27) a2.toNatClampNeg q61) (85 + 32) a2.toNatClampNeg)).bind fun q62 => some q62 else none else some (up2 (up2 I (85 + 33) a2.toNatClampNeg q53) (85 + 27) a2.toNatClampNeg q61) else none) T → Rn E 220 (268, [.ref 82, .int a1, .int a2, .int (I (85 + 26) a2.toNatClampNeg), .int q42, .int q53, .int ((up2 I (85 + 33) a2.toNatClampNeg q53) (85 + 31) a2.toNatClampNeg), us], [.int q61], wT (up2 I (85 + 33) a2.toNatClampNeg q53) R) o w := by
                      intro q61
                      refine D.run 2 rfl ?_
                      refine D.st rfl (by decide) (gf_1 h82_4) ?_
                      refine D.run 3 rfl ?_
                      refine D.gd fun hg => ?_
                      refine D.st rfl (by decide) (as_i (by decide) (by first | rfl | decide) hg.1 hg.2) ?_
                      show _ → Rn E 220 (281, [.ref 82, .int a1, .int a2, .int (I (85 + 26) a2.toNatClampNeg), .int q42, .int q53, .int ((up2 I (85 + 33) a2.toNatClampNeg q53) (85 + 31) a2.toNatClampNeg), .int q61], [], wT (up2 (up2 I (85 + 33) a2.toNatClampNeg q53) (85 + 27) a2.toNatClampNeg q61) R) o w
                      refine D.run 2 rfl ?_
                      refine D.br rfl (by decide) rfl (fun hc => ?_) (fun hc => ?_)
                      · refine D.run 3 rfl ?_
                        refine D.st rfl (by decide) (gf_1 h82_4) ?_
                        refine D.run 2 rfl ?_
                        refine D.gd fun hg => ?_
                        refine D.st rfl (by decide) (al_i (by decide) (by first | rfl | decide) hg.1 hg.2) ?_
                        show _ → Rn E 220 (298, [.ref 82, .int a1, .int a2, .int (I (85 + 26) a2.toNatClampNeg), .int q42, .int q53, .int ((up2 I (85 + 33) a2.toNatClampNeg q53) (85 + 31) a2.toNatClampNeg), .int q61], [.int ((up2 (up2 I (85 + 33) a2.toNatClampNeg q53) (85 + 27) a2.toNatClampNeg q61) (85 + 32) a2.toNatClampNeg), .int 2, .ref 82], wT (up2 (up2 I (85 + 33) a2.toNatClampNeg q53) (85 + 27) a2.toNatClampNeg q61) R) o w
                        refine D.call rfl rfl rfl rfl (fun q h => x217_ok h) (fun q62 => ?_)
                        exact fun h => by obtain ⟨rfl, rfl⟩ := hT _ (D.some h); exact Rn.ret rfl rfl rfl
                      · exact fun h => by obtain ⟨rfl, rfl⟩ := hT _ (D.some h); exact Rn.ret rfl rfl rfl
                    refine D.jn (fun T268 c268 => ?_)
                    refine D.br rfl (by decide) rfl (fun hc => ?_) (fun hc => ?_)
                    · refine D.run 3 rfl ?_
                      refine D.call rfl rfl rfl rfl (fun q h => x222_ok (by decide) h82_4 h) (fun q55 => ?_)
                      refine D.run 1 rfl ?_
                      exact fun h => Kj268 _   (c268 _ (D.some h))
                    · refine D.run 2 rfl ?_
                      refine D.br rfl (by decide) rfl (fun hc => ?_) (fun hc => ?_)
                      · refine D.run 3 rfl ?_
                        refine D.call rfl rfl rfl rfl (fun q h => x222_ok (by decide) h82_4 h) (fun q56 => ?_)
                        refine D.run 1 rfl ?_
                        exact fun h => Kj268 _   (c268 _ (D.some h))
                      · refine D.run 2 rfl ?_
                        refine D.br rfl (by decide) rfl (fun hc => ?_) (fun hc => ?_)
                        · refine D.run 3 rfl ?_
                          refine D.call rfl rfl rfl rfl (fun q h => x223_ok (by decide) h82_4 h) (fun q57 => ?_)
                          refine D.run 1 rfl ?_
                          exact fun h => Kj268 _   (c268 _ (D.some h))
                        · refine D.run 2 rfl ?_
                          refine D.br rfl (by decide) rfl (fun hc => ?_) (fun hc => ?_)
                          · refine D.run 3 rfl ?_
                            refine D.call rfl rfl rfl rfl (fun q h => x223_ok (by decide) h82_4 h) (fun q58 => ?_)
                            refine D.run 1 rfl ?_
                            exact fun h => Kj268 _   (c268 _ (D.some h))
                          · refine D.run 1 rfl ?_
                            refine D.st rfl (by decide) (gf_1 h82_4) ?_
                            refine D.run 4 rfl ?_
                            have Kj265 : ∀ (q59 : Int32), Dq ((x219 85 (up2 I (85 + 33) a2.toNatClampNeg q53) q53 ((up2 I (85 + 33) a2.toNatClampNeg q53) (85 + 31) a2.toNatClampNeg) q59).bind fun q60 => some q60) T268 → Rn E 220 (265, [.ref 82, .int a1, .int a2, .int (I (85 + 26) a2.toNatClampNeg), .int q42, .int q53, .int ((up2 I (85 + 33) a2.toNatClampNeg q53) (85 + 31) a2.toNatClampNeg), us], [.int q59, .int ((up2 I (85 + 33) a2.toNatClampNeg q53) (85 + 31) a2.toNatClampNeg), .int q53, .ref 85], wT (up2 I (85 + 33) a2.toNatClampNeg q53) R) o w := by
                              intro q59
                              refine D.call rfl rfl rfl rfl (fun q h => x219_ok (by decide) h) (fun q60 => ?_)
                              exact fun h => Kj268 _   (c268 _ (D.some h))
                            refine D.jn (fun T265 c265 => ?_)
                            refine D.br rfl (by decide) rfl (fun hc => ?_) (fun hc => ?_)
                            · refine D.run 2 rfl ?_
                              exact fun h => Kj265 _   (c265 _ (D.some h))
                            · refine D.run 1 rfl ?_
                              exact fun h => Kj265 _   (c265 _ (D.some h))
              · refine D.run 2 rfl ?_
                refine D.br rfl (by decide) rfl (fun hc => ?_) (fun hc => ?_)
                · refine D.run 2 rfl ?_
                  refine D.st rfl (by decide) (gf_1 h82_4) ?_
                  refine D.run 2 rfl ?_
                  refine D.gd fun hg => ?_
                  refine D.st rfl (by decide) (al_i (by decide) (by first | rfl | decide) hg.1 hg.2) ?_
                  show _ → Rn E 220 (138, [.ref 82, .int a1, .int a2, .int (I (85 + 26) a2.toNatClampNeg), .int q42, us, us, us], [.int (I (85 + 29) a2.toNatClampNeg), .ref 82], wT I R) o w
                  refine D.run 1 rfl ?_
                  refine D.st rfl (by decide) (gf_1 h82_4) ?_
                  refine D.run 1 rfl ?_
                  refine D.call rfl rfl rfl rfl (fun q h => x216_ok (by decide) h82_4 h) (fun q63 => ?_)
                  refine D.run 2 rfl ?_
                  refine D.st rfl (by decide) (gf_1 h82_4) ?_
                  show _ → Rn E 220 (154, [.ref 82, .int a1, .int a2, .int (I (85 + 26) a2.toNatClampNeg), .int q42, .int q63, us, us], [.ref 85], wT I R) o w
                  refine D.run 3 rfl ?_
                  refine D.gd fun hg => ?_
                  refine D.st rfl (by decide) (as_i (by decide) (by first | rfl | decide) hg.1 hg.2) ?_
                  refine D.run 2 rfl ?_
                  refine D.br rfl (by decide) rfl (fun hc => ?_) (fun hc => ?_)
                  · refine D.run 3 rfl ?_
                    refine D.st rfl (by decide) (gf_1 h82_4) ?_
                    refine D.run 2 rfl ?_
                    refine D.gd fun hg => ?_
                    refine D.st rfl (by decide) (al_i (by decide) (by first | rfl | decide) hg.1 hg.2) ?_
                    show _ → Rn E 220 (178, [.ref 82, .int a1, .int a2, .int (I (85 + 26) a2.toNatClampNeg), .int q42, .int q63, us, us], [.int ((up2 I (85 + 33) a2.toNatClampNeg q63) (85 + 30) a2.toNatClampNeg), .int 2, .ref 82], wT (up2 I (85 + 33) a2.toNatClampNeg q63) R) o w
                    refine D.call rfl rfl rfl rfl (fun q h => x217_ok h) (fun q64 => ?_)
                    refine D.run 1 rfl ?_
                    exact fun h => by obtain ⟨rfl, rfl⟩ := hT _ (D.some h); exact Rn.ret rfl rfl rfl
                  · refine D.run 1 rfl ?_
                    refine D.br rfl (by decide) rfl (fun hc => ?_) (fun hc => ?_)
                    · exact fun h => by obtain ⟨rfl, rfl⟩ := hT _ (D.some h); exact Rn.ret rfl rfl rfl
                    · refine D.run 1 rfl ?_
                      refine D.st rfl (by decide) (gf_1 h82_4) ?_
                      refine D.run 2 rfl ?_
                      refine D.gd fun hg => ?_
                      refine D.st rfl (by decide) (al_i (by decide) (by first | rfl | decide) hg.1 hg.2) ?_
                      show _ → Rn E 220 (198, [.ref 82, .int a1, .int a2, .int (I (85 + 26) a2.toNatClampNeg), .int q42, .int q63, us, us], [.int ((up2 I (85 + 33) a2.toNatClampNeg q63) (85 + 31) a2.toNatClampNeg)], wT (up2 I (85 + 33) a2.toNatClampNeg q63) R) o w
                      refine D.run 3 rfl ?_
                      have Kj268 : ∀ (q71 : Int32), Dq (if inb a2 2400 then if q71 = (-1) then if inb a2 2400 then (x217 (up2 (up2 I (85 + 33) a2.toNatClampNeg q63) (85 + 27) a2.toNatClampNeg q71) 2 ((up2 (up2 I (85 + 33) a2.toNatClampNeg q63) (85 + 27) a2.toNatClampNeg q71) (85 + 32) a2.toNatClampNeg)).bind fun q72 => some q72 else none else some (up2 (up2 I (85 + 33) a2.toNatClampNeg q63) (85 + 27) a2.toNatClampNeg q71) else none) T → Rn E 220 (268, [.ref 82, .int a1, .int a2, .int (I (85 + 26) a2.toNatClampNeg), .int q42, .int q63, .int ((up2 I (85 + 33) a2.toNatClampNeg q63) (85 + 31) a2.toNatClampNeg), us], [.int q71], wT (up2 I (85 + 33) a2.toNatClampNeg q63) R) o w := by
                        intro q71
                        refine D.run 2 rfl ?_
                        refine D.st rfl (by decide) (gf_1 h82_4) ?_
                        refine D.run 3 rfl ?_
                        refine D.gd fun hg => ?_
                        refine D.st rfl (by decide) (as_i (by decide) (by first | rfl | decide) hg.1 hg.2) ?_
                        show _ → Rn E 220 (281, [.ref 82, .int a1, .int a2, .int (I (85 + 26) a2.toNatClampNeg), .int q42, .int q63, .int ((up2 I (85 + 33) a2.toNatClampNeg q63) (85 + 31) a2.toNatClampNeg), .int q71], [], wT (up2 (up2 I (85 + 33) a2.toNatClampNeg q63) (85 + 27) a2.toNatClampNeg q71) R) o w
                        refine D.run 2 rfl ?_
                        refine D.br rfl (by decide) rfl (fun hc => ?_) (fun hc => ?_)
                        · refine D.run 3 rfl ?_
                          refine D.st rfl (by decide) (gf_1 h82_4) ?_
                          refine D.run 2 rfl ?_
                          refine D.gd fun hg => ?_
                          refine D.st rfl (by decide) (al_i (by decide) (by first | rfl | decide) hg.1 hg.2) ?_
                          show _ → Rn E 220 (298, [.ref 82, .int a1, .int a2, .int (I (85 + 26) a2.toNatClampNeg), .int q42, .int q63, .int ((up2 I (85 + 33) a2.toNatClampNeg q63) (85 + 31) a2.toNatClampNeg), .int q71], [.int ((up2 (up2 I (85 + 33) a2.toNatClampNeg q63) (85 + 27) a2.toNatClampNeg q71) (85 + 32) a2.toNatClampNeg), .int 2, .ref 82], wT (up2 (up2 I (85 + 33) a2.toNatClampNeg q63) (85 + 27) a2.toNatClampNeg q71) R) o w
                          refine D.call rfl rfl rfl rfl (fun q h => x217_ok h) (fun q72 => ?_)
                          exact fun h => by obtain ⟨rfl, rfl⟩ := hT _ (D.some h); exact Rn.ret rfl rfl rfl
                        · exact fun h => by obtain ⟨rfl, rfl⟩ := hT _ (D.some h); exact Rn.ret rfl rfl rfl
                      refine D.jn (fun T268 c268 => ?_)
                      refine D.br rfl (by decide) rfl (fun hc => ?_) (fun hc => ?_)
                      · refine D.run 3 rfl ?_
                        refine D.call rfl rfl rfl rfl (fun q h => x222_ok (by decide) h82_4 h) (fun q65 => ?_)
                        refine D.run 1 rfl ?_
                        exact fun h => Kj268 _   (c268 _ (D.some h))
                      · refine D.run 2 rfl ?_
                        refine D.br rfl (by decide) rfl (fun hc => ?_) (fun hc => ?_)
                        · refine D.run 3 rfl ?_
                          refine D.call rfl rfl rfl rfl (fun q h => x222_ok (by decide) h82_4 h) (fun q66 => ?_)
                          refine D.run 1 rfl ?_
                          exact fun h => Kj268 _   (c268 _ (D.some h))
                        · refine D.run 2 rfl ?_
                          refine D.br rfl (by decide) rfl (fun hc => ?_) (fun hc => ?_)
                          · refine D.run 3 rfl ?_
                            refine D.call rfl rfl rfl rfl (fun q h => x223_ok (by decide) h82_4 h) (fun q67 => ?_)
                            refine D.run 1 rfl ?_
                            exact fun h => Kj268 _   (c268 _ (D.some h))
                          · refine D.run 2 rfl ?_
                            refine D.br rfl (by decide) rfl (fun hc => ?_) (fun hc => ?_)
                            · refine D.run 3 rfl ?_
                              refine D.call rfl rfl rfl rfl (fun q h => x223_ok (by decide) h82_4 h) (fun q68 => ?_)
                              refine D.run 1 rfl ?_
                              exact fun h => Kj268 _   (c268 _ (D.some h))
                            · refine D.run 1 rfl ?_
                              refine D.st rfl (by decide) (gf_1 h82_4) ?_
                              refine D.run 4 rfl ?_
                              have Kj265 : ∀ (q69 : Int32), Dq ((x219 85 (up2 I (85 + 33) a2.toNatClampNeg q63) q63 ((up2 I (85 + 33) a2.toNatClampNeg q63) (85 + 31) a2.toNatClampNeg) q69).bind fun q70 => some q70) T268 → Rn E 220 (265, [.ref 82, .int a1, .int a2, .int (I (85 + 26) a2.toNatClampNeg), .int q42, .int q63, .int ((up2 I (85 + 33) a2.toNatClampNeg q63) (85 + 31) a2.toNatClampNeg), us], [.int q69, .int ((up2 I (85 + 33) a2.toNatClampNeg q63) (85 + 31) a2.toNatClampNeg), .int q63, .ref 85], wT (up2 I (85 + 33) a2.toNatClampNeg q63) R) o w := by
                                intro q69
                                refine D.call rfl rfl rfl rfl (fun q h => x219_ok (by decide) h) (fun q70 => ?_)
                                exact fun h => Kj268 _   (c268 _ (D.some h))
                              refine D.jn (fun T265 c265 => ?_)
                              refine D.br rfl (by decide) rfl (fun hc => ?_) (fun hc => ?_)
                              · refine D.run 2 rfl ?_
                                exact fun h => Kj265 _   (c265 _ (D.some h))
                              · refine D.run 1 rfl ?_
                                exact fun h => Kj265 _   (c265 _ (D.some h))
                · exact fun h => by obtain ⟨rfl, rfl⟩ := hT _ (D.some h); exact Rn.ret rfl rfl rfl
          · refine D.run 2 rfl ?_
            refine D.st rfl (by decide) (gf_1 h82_4) ?_
            refine D.run 2 rfl ?_
            refine D.gd fun hg => ?_
            refine D.st rfl (by decide) (al_i (by decide) (by first | rfl | decide) hg.1 hg.2) ?_
            show _ → Rn E 220 (138, [.ref 82, .int a1, .int a2, .int (I (85 + 26) a2.toNatClampNeg), .int q42, us, us, us], [.int (I (85 + 29) a2.toNatClampNeg), .ref 82], wT I R) o w
            refine D.run 1 rfl ?_
            refine D.st rfl (by decide) (gf_1 h82_4) ?_
            refine D.run 1 rfl ?_
            refine D.call rfl rfl rfl rfl (fun q h => x216_ok (by decide) h82_4 h) (fun q73 => ?_)
            refine D.run 2 rfl ?_
            refine D.st rfl (by decide) (gf_1 h82_4) ?_
            show _ → Rn E 220 (154, [.ref 82, .int a1, .int a2, .int (I (85 + 26) a2.toNatClampNeg), .int q42, .int q73, us, us], [.ref 85], wT I R) o w
            refine D.run 3 rfl ?_
            refine D.gd fun hg => ?_
            refine D.st rfl (by decide) (as_i (by decide) (by first | rfl | decide) hg.1 hg.2) ?_
            refine D.run 2 rfl ?_
            refine D.br rfl (by decide) rfl (fun hc => ?_) (fun hc => ?_)
            · refine D.run 3 rfl ?_
              refine D.st rfl (by decide) (gf_1 h82_4) ?_
              refine D.run 2 rfl ?_
              refine D.gd fun hg => ?_
              refine D.st rfl (by decide) (al_i (by decide) (by first | rfl | decide) hg.1 hg.2) ?_
              show _ → Rn E 220 (178, [.ref 82, .int a1, .int a2, .int (I (85 + 26) a2.toNatClampNeg), .int q42, .int q73, us, us], [.int ((up2 I (85 + 33) a2.toNatClampNeg q73) (85 + 30) a2.toNatClampNeg), .int 2, .ref 82], wT (up2 I (85 + 33) a2.toNatClampNeg q73) R) o w
              refine D.call rfl rfl rfl rfl (fun q h => x217_ok h) (fun q74 => ?_)
              refine D.run 1 rfl ?_
              exact fun h => by obtain ⟨rfl, rfl⟩ := hT _ (D.some h); exact Rn.ret rfl rfl rfl
            · refine D.run 1 rfl ?_
              refine D.br rfl (by decide) rfl (fun hc => ?_) (fun hc => ?_)
              · exact fun h => by obtain ⟨rfl, rfl⟩ := hT _ (D.some h); exact Rn.ret rfl rfl rfl
              · refine D.run 1 rfl ?_
                refine D.st rfl (by decide) (gf_1 h82_4) ?_
                refine D.run 2 rfl ?_
                refine D.gd fun hg => ?_
                refine D.st rfl (by decide) (al_i (by decide) (by first | rfl | decide) hg.1 hg.2) ?_
                show _ → Rn E 220 (198, [.ref 82, .int a1, .int a2, .int (I (85 + 26) a2.toNatClampNeg), .int q42, .int q73, us, us], [.int ((up2 I (85 + 33) a2.toNatClampNeg q73) (85 + 31) a2.toNatClampNeg)], wT (up2 I (85 + 33) a2.toNatClampNeg q73) R) o w
                refine D.run 3 rfl ?_
                have Kj268 : ∀ (q81 : Int32), Dq (if inb a2 2400 then if q81 = (-1) then if inb a2 2400 then (x217 (up2 (up2 I (85 + 33) a2.toNatClampNeg q73) (85 + 27) a2.toNatClampNeg q81) 2 ((up2 (up2 I (85 + 33) a2.toNatClampNeg q73) (85 + 27) a2.toNatClampNeg q81) (85 + 32) a2.toNatClampNeg)).bind fun q82 => some q82 else none else some (up2 (up2 I (85 + 33) a2.toNatClampNeg q73) (85 + 27) a2.toNatClampNeg q81) else none) T → Rn E 220 (268, [.ref 82, .int a1, .int a2, .int (I (85 + 26) a2.toNatClampNeg), .int q42, .int q73, .int ((up2 I (85 + 33) a2.toNatClampNeg q73) (85 + 31) a2.toNatClampNeg), us], [.int q81], wT (up2 I (85 + 33) a2.toNatClampNeg q73) R) o w := by
                  intro q81
                  refine D.run 2 rfl ?_
                  refine D.st rfl (by decide) (gf_1 h82_4) ?_
                  refine D.run 3 rfl ?_
                  refine D.gd fun hg => ?_
                  refine D.st rfl (by decide) (as_i (by decide) (by first | rfl | decide) hg.1 hg.2) ?_
                  show _ → Rn E 220 (281, [.ref 82, .int a1, .int a2, .int (I (85 + 26) a2.toNatClampNeg), .int q42, .int q73, .int ((up2 I (85 + 33) a2.toNatClampNeg q73) (85 + 31) a2.toNatClampNeg), .int q81], [], wT (up2 (up2 I (85 + 33) a2.toNatClampNeg q73) (85 + 27) a2.toNatClampNeg q81) R) o w
                  refine D.run 2 rfl ?_
                  refine D.br rfl (by decide) rfl (fun hc => ?_) (fun hc => ?_)
                  · refine D.run 3 rfl ?_
                    refine D.st rfl (by decide) (gf_1 h82_4) ?_
                    refine D.run 2 rfl ?_
                    refine D.gd fun hg => ?_
                    refine D.st rfl (by decide) (al_i (by decide) (by first | rfl | decide) hg.1 hg.2) ?_
                    show _ → Rn E 220 (298, [.ref 82, .int a1, .int a2, .int (I (85 + 26) a2.toNatClampNeg), .int q42, .int q73, .int ((up2 I (85 + 33) a2.toNatClampNeg q73) (85 + 31) a2.toNatClampNeg), .int q81], [.int ((up2 (up2 I (85 + 33) a2.toNatClampNeg q73) (85 + 27) a2.toNatClampNeg q81) (85 + 32) a2.toNatClampNeg), .int 2, .ref 82], wT (up2 (up2 I (85 + 33) a2.toNatClampNeg q73) (85 + 27) a2.toNatClampNeg q81) R) o w
                    refine D.call rfl rfl rfl rfl (fun q h => x217_ok h) (fun q82 => ?_)
                    exact fun h => by obtain ⟨rfl, rfl⟩ := hT _ (D.some h); exact Rn.ret rfl rfl rfl
                  · exact fun h => by obtain ⟨rfl, rfl⟩ := hT _ (D.some h); exact Rn.ret rfl rfl rfl
                refine D.jn (fun T268 c268 => ?_)
                refine D.br rfl (by decide) rfl (fun hc => ?_) (fun hc => ?_)
                · refine D.run 3 rfl ?_
                  refine D.call rfl rfl rfl rfl (fun q h => x222_ok (by decide) h82_4 h) (fun q75 => ?_)
                  refine D.run 1 rfl ?_
                  exact fun h => Kj268 _   (c268 _ (D.some h))
                · refine D.run 2 rfl ?_
                  refine D.br rfl (by decide) rfl (fun hc => ?_) (fun hc => ?_)
                  · refine D.run 3 rfl ?_
                    refine D.call rfl rfl rfl rfl (fun q h => x222_ok (by decide) h82_4 h) (fun q76 => ?_)
                    refine D.run 1 rfl ?_
                    exact fun h => Kj268 _   (c268 _ (D.some h))
                  · refine D.run 2 rfl ?_
                    refine D.br rfl (by decide) rfl (fun hc => ?_) (fun hc => ?_)
                    · refine D.run 3 rfl ?_
                      refine D.call rfl rfl rfl rfl (fun q h => x223_ok (by decide) h82_4 h) (fun q77 => ?_)
                      refine D.run 1 rfl ?_
                      exact fun h => Kj268 _   (c268 _ (D.some h))
                    · refine D.run 2 rfl ?_
                      refine D.br rfl (by decide) rfl (fun hc => ?_) (fun hc => ?_)
                      · refine D.run 3 rfl ?_
                        refine D.call rfl rfl rfl rfl (fun q h => x223_ok (by decide) h82_4 h) (fun q78 => ?_)
                        refine D.run 1 rfl ?_
                        exact fun h => Kj268 _   (c268 _ (D.some h))
                      · refine D.run 1 rfl ?_
                        refine D.st rfl (by decide) (gf_1 h82_4) ?_
                        refine D.run 4 rfl ?_
                        have Kj265 : ∀ (q79 : Int32), Dq ((x219 85 (up2 I (85 + 33) a2.toNatClampNeg q73) q73 ((up2 I (85 + 33) a2.toNatClampNeg q73) (85 + 31) a2.toNatClampNeg) q79).bind fun q80 => some q80) T268 → Rn E 220 (265, [.ref 82, .int a1, .int a2, .int (I (85 + 26) a2.toNatClampNeg), .int q42, .int q73, .int ((up2 I (85 + 33) a2.toNatClampNeg q73) (85 + 31) a2.toNatClampNeg), us], [.int q79, .int ((up2 I (85 + 33) a2.toNatClampNeg q73) (85 + 31) a2.toNatClampNeg), .int q73, .ref 85], wT (up2 I (85 + 33) a2.toNatClampNeg q73) R) o w := by
                          intro q79
                          refine D.call rfl rfl rfl rfl (fun q h => x219_ok (by decide) h) (fun q80 => ?_)
                          exact fun h => Kj268 _   (c268 _ (D.some h))
                        refine D.jn (fun T265 c265 => ?_)
                        refine D.br rfl (by decide) rfl (fun hc => ?_) (fun hc => ?_)
                        · refine D.run 2 rfl ?_
                          exact fun h => Kj265 _   (c265 _ (D.some h))
                        · refine D.run 1 rfl ?_
                          exact fun h => Kj265 _   (c265 _ (D.some h))
        refine D.jn (fun T102 c102 => ?_)
        refine D.br rfl (by decide) rfl (fun hc => ?_) (fun hc => ?_)
        · refine D.run 2 rfl ?_
          refine D.br rfl (by decide) rfl (fun hc => ?_) (fun hc => ?_)
          · refine D.run 2 rfl ?_
            exact fun h => Kj102 _   (c102 _ (D.some h))
          · refine D.run 2 rfl ?_
            refine D.br rfl (by decide) rfl (fun hc => ?_) (fun hc => ?_)
            · refine D.run 2 rfl ?_
              exact fun h => Kj102 _   (c102 _ (D.some h))
            · refine D.run 1 rfl ?_
              exact fun h => Kj102 _   (c102 _ (D.some h))
        · refine D.run 2 rfl ?_
          refine D.br rfl (by decide) rfl (fun hc => ?_) (fun hc => ?_)
          · refine D.run 2 rfl ?_
            exact fun h => Kj102 _   (c102 _ (D.some h))
          · refine D.run 2 rfl ?_
            refine D.br rfl (by decide) rfl (fun hc => ?_) (fun hc => ?_)
            · refine D.run 2 rfl ?_
              exact fun h => Kj102 _   (c102 _ (D.some h))
            · refine D.run 2 rfl ?_
              refine D.br rfl (by decide) rfl (fun hc => ?_) (fun hc => ?_)
              · refine D.run 2 rfl ?_
                exact fun h => Kj102 _   (c102 _ (D.some h))
              · refine D.run 1 rfl ?_
                exact fun h => Kj102 _   (c102 _ (D.some h))
      · refine D.run 1 rfl ?_
        refine D.st rfl (by decide) (gf_1 h82_4) ?_
        refine D.run 5 rfl ?_
        refine D.st rfl (by decide) (gf_1 h82_4) ?_
        refine D.run 2 rfl ?_
        refine D.gd fun hg => ?_
        refine D.st rfl (by decide) (al_i (by decide) (by first | rfl | decide) hg.1 hg.2) ?_
        show _ → Rn E 220 (41, [.ref 82, .int a1, .int a2, .int (I (85 + 26) a2.toNatClampNeg), us, us, us, us], [.int (I (85 + 29) a2.toNatClampNeg), .int a1, .ref 82, .int a2, .ref (85 + 33)], wT I R) o w
        refine D.call rfl rfl rfl rfl (fun q h => x221_ok (by decide) h82_4 h) (fun q83 => ?_)
        refine D.gd fun hg => ?_
        refine D.st rfl (by decide) (as_i (by decide) (by first | rfl | decide) hg.1 hg.2) ?_
        refine D.run 1 rfl ?_
        refine D.st rfl (by decide) (gf_1 h82_4) ?_
        show _ → Rn E 220 (49, [.ref 82, .int a1, .int a2, .int (I (85 + 26) a2.toNatClampNeg), us, us, us, us], [.ref 85], wT (up2 I (85 + 33) a2.toNatClampNeg q83) R) o w
        refine D.run 2 rfl ?_
        refine D.gd fun hg => ?_
        refine D.st rfl (by decide) (al_i (by decide) (by first | rfl | decide) hg.1 hg.2) ?_
        refine D.run 1 rfl ?_
        refine D.br rfl (by decide) rfl (fun hc => ?_) (fun hc => ?_)
        · refine D.run 3 rfl ?_
          refine D.st rfl (by decide) (gf_1 h82_4) ?_
          refine D.run 2 rfl ?_
          refine D.gd fun hg => ?_
          refine D.st rfl (by decide) (al_i (by decide) (by first | rfl | decide) hg.1 hg.2) ?_
          show _ → Rn E 220 (69, [.ref 82, .int a1, .int a2, .int (I (85 + 26) a2.toNatClampNeg), us, us, us, us], [.int ((up2 I (85 + 33) a2.toNatClampNeg q83) (85 + 30) a2.toNatClampNeg), .int 2, .ref 82], wT (up2 I (85 + 33) a2.toNatClampNeg q83) R) o w
          refine D.call rfl rfl rfl rfl (fun q h => x217_ok h) (fun q84 => ?_)
          exact fun h => by obtain ⟨rfl, rfl⟩ := hT _ (D.some h); exact Rn.ret rfl rfl rfl
        · exact fun h => by obtain ⟨rfl, rfl⟩ := hT _ (D.some h); exact Rn.ret rfl rfl rfl
  · refine D.run 1 rfl ?_
    refine D.st rfl (by decide) (gf_1 h82_4) ?_
    refine D.run 2 rfl ?_
    refine D.gd fun hg => ?_
    refine D.st rfl (by decide) (al_i (by decide) (by first | rfl | decide) hg.1 hg.2) ?_
    show _ → Rn E 220 (9, [.ref 82, .int a1, .int a2, us, us, us, us, us], [.int (I (126 + 26) a2.toNatClampNeg)], wT I R) o w
    refine D.run 3 rfl ?_
    refine D.br rfl (by decide) rfl (fun hc => ?_) (fun hc => ?_)
    · refine D.run 2 rfl ?_
      have Kj102 : ∀ (q1 : Int32), Dq (if q1 = 0 then if (I (126 + 26) a2.toNatClampNeg) = 37 then if inb a2 2400 then (x216 126 I (I (126 + 29) a2.toNatClampNeg) (I 126 5)).bind fun q2 => if inb a2 2400 then if q2 = (-1) then if inb a2 2400 then (x217 (up2 I (126 + 33) a2.toNatClampNeg q2) 2 ((up2 I (126 + 33) a2.toNatClampNeg q2) (126 + 30) a2.toNatClampNeg)).bind fun q3 => some q3 else none else if q1 = 0 then some (up2 I (126 + 33) a2.toNatClampNeg q2) else if inb a2 2400 then (if (I (126 + 26) a2.toNatClampNeg) = 38 then (x222 126 (up2 I (126 + 33) a2.toNatClampNeg q2) q2 ((up2 I (126 + 33) a2.toNatClampNeg q2) (126 + 31) a2.toNatClampNeg)).bind fun q4 => some q4 else if (I (126 + 26) a2.toNatClampNeg) = 39 then (x222 126 (up2 I (126 + 33) a2.toNatClampNeg q2) q2 ((up2 I (126 + 33) a2.toNatClampNeg q2) (126 + 31) a2.toNatClampNeg)).bind fun q5 => some q5 else if (I (126 + 26) a2.toNatClampNeg) = 40 then (x223 126 (up2 I (126 + 33) a2.toNatClampNeg q2) q2 ((up2 I (126 + 33) a2.toNatClampNeg q2) (126 + 31) a2.toNatClampNeg)).bind fun q6 => some q6 else if (I (126 + 26) a2.toNatClampNeg) = 41 then (x223 126 (up2 I (126 + 33) a2.toNatClampNeg q2) q2 ((up2 I (126 + 33) a2.toNatClampNeg q2) (126 + 31) a2.toNatClampNeg)).bind fun q7 => some q7 else (if (I (126 + 26) a2.toNatClampNeg) = 50 then some 1 else some 0).bind fun (q8 : Int32) => (x219 126 (up2 I (126 + 33) a2.toNatClampNeg q2) q2 ((up2 I (126 + 33) a2.toNatClampNeg q2) (126 + 31) a2.toNatClampNeg) q8).bind fun q9 => some q9).bind fun (q10 : Int32) => if inb a2 2400 then if q10 = (-1) then if inb a2 2400 then (x217 (up2 (up2 I (126 + 33) a2.toNatClampNeg q2) (126 + 27) a2.toNatClampNeg q10) 2 ((up2 (up2 I (126 + 33) a2.toNatClampNeg q2) (126 + 27) a2.toNatClampNeg q10) (126 + 32) a2.toNatClampNeg)).bind fun q11 => some q11 else none else some (up2 (up2 I (126 + 33) a2.toNatClampNeg q2) (126 + 27) a2.toNatClampNeg q10) else none else none else none else none else if (I (126 + 26) a2.toNatClampNeg) = 53 then if inb a2 2400 then (x216 126 I (I (126 + 29) a2.toNatClampNeg) (I 126 5)).bind fun q12 => if inb a2 2400 then if q12 = (-1) then if inb a2 2400 then (x217 (up2 I (126 + 33) a2.toNatClampNeg q12) 2 ((up2 I (126 + 33) a2.toNatClampNeg q12) (126 + 30) a2.toNatClampNeg)).bind fun q13 => some q13 else none else if q1 = 0 then some (up2 I (126 + 33) a2.toNatClampNeg q12) else if inb a2 2400 then (if (I (126 + 26) a2.toNatClampNeg) = 38 then (x222 126 (up2 I (126 + 33) a2.toNatClampNeg q12) q12 ((up2 I (126 + 33) a2.toNatClampNeg q12) (126 + 31) a2.toNatClampNeg)).bind fun q14 => some q14 else if (I (126 + 26) a2.toNatClampNeg) = 39 then (x222 126 (up2 I (126 + 33) a2.toNatClampNeg q12) q12 ((up2 I (126 + 33) a2.toNatClampNeg q12) (126 + 31) a2.toNatClampNeg)).bind fun q15 => some q15 else if (I (126 + 26) a2.toNatClampNeg) = 40 then (x223 126 (up2 I (126 + 33) a2.toNatClampNeg q12) q12 ((up2 I (126 + 33) a2.toNatClampNeg q12) (126 + 31) a2.toNatClampNeg)).bind fun q16 => some q16 else if (I (126 + 26) a2.toNatClampNeg) = 41 then (x223 126 (up2 I (126 + 33) a2.toNatClampNeg q12) q12 ((up2 I (126 + 33) a2.toNatClampNeg q12) (126 + 31) a2.toNatClampNeg)).bind fun q17 => some q17 else (if (I (126 + 26) a2.toNatClampNeg) = 50 then some 1 else some 0).bind fun (q18 : Int32) => (x219 126 (up2 I (126 + 33) a2.toNatClampNeg q12) q12 ((up2 I (126 + 33) a2.toNatClampNeg q12) (126 + 31) a2.toNatClampNeg) q18).bind fun q19 => some q19).bind fun (q20 : Int32) => if inb a2 2400 then if q20 = (-1) then if inb a2 2400 then (x217 (up2 (up2 I (126 + 33) a2.toNatClampNeg q12) (126 + 27) a2.toNatClampNeg q20) 2 ((up2 (up2 I (126 + 33) a2.toNatClampNeg q12) (126 + 27) a2.toNatClampNeg q20) (126 + 32) a2.toNatClampNeg)).bind fun q21 => some q21 else none else some (up2 (up2 I (126 + 33) a2.toNatClampNeg q12) (126 + 27) a2.toNatClampNeg q20) else none else none else none else none else if (I (126 + 26) a2.toNatClampNeg) = 54 then if inb a2 2400 then (x216 126 I (I (126 + 29) a2.toNatClampNeg) (I 126 5)).bind fun q22 => if inb a2 2400 then if q22 = (-1) then if inb a2 2400 then (x217 (up2 I (126 + 33) a2.toNatClampNeg q22) 2 ((up2 I (126 + 33) a2.toNatClampNeg q22) (126 + 30) a2.toNatClampNeg)).bind fun q23 => some q23 else none else if q1 = 0 then some (up2 I (126 + 33) a2.toNatClampNeg q22) else if inb a2 2400 then (if (I (126 + 26) a2.toNatClampNeg) = 38 then (x222 126 (up2 I (126 + 33) a2.toNatClampNeg q22) q22 ((up2 I (126 + 33) a2.toNatClampNeg q22) (126 + 31) a2.toNatClampNeg)).bind fun q24 => some q24 else if (I (126 + 26) a2.toNatClampNeg) = 39 then (x222 126 (up2 I (126 + 33) a2.toNatClampNeg q22) q22 ((up2 I (126 + 33) a2.toNatClampNeg q22) (126 + 31) a2.toNatClampNeg)).bind fun q25 => some q25 else if (I (126 + 26) a2.toNatClampNeg) = 40 then (x223 126 (up2 I (126 + 33) a2.toNatClampNeg q22) q22 ((up2 I (126 + 33) a2.toNatClampNeg q22) (126 + 31) a2.toNatClampNeg)).bind fun q26 => some q26 else if (I (126 + 26) a2.toNatClampNeg) = 41 then (x223 126 (up2 I (126 + 33) a2.toNatClampNeg q22) q22 ((up2 I (126 + 33) a2.toNatClampNeg q22) (126 + 31) a2.toNatClampNeg)).bind fun q27 => some q27 else (if (I (126 + 26) a2.toNatClampNeg) = 50 then some 1 else some 0).bind fun (q28 : Int32) => (x219 126 (up2 I (126 + 33) a2.toNatClampNeg q22) q22 ((up2 I (126 + 33) a2.toNatClampNeg q22) (126 + 31) a2.toNatClampNeg) q28).bind fun q29 => some q29).bind fun (q30 : Int32) => if inb a2 2400 then if q30 = (-1) then if inb a2 2400 then (x217 (up2 (up2 I (126 + 33) a2.toNatClampNeg q22) (126 + 27) a2.toNatClampNeg q30) 2 ((up2 (up2 I (126 + 33) a2.toNatClampNeg q22) (126 + 27) a2.toNatClampNeg q30) (126 + 32) a2.toNatClampNeg)).bind fun q31 => some q31 else none else some (up2 (up2 I (126 + 33) a2.toNatClampNeg q22) (126 + 27) a2.toNatClampNeg q30) else none else none else none else none else some I else if inb a2 2400 then (x216 126 I (I (126 + 29) a2.toNatClampNeg) (I 126 5)).bind fun q32 => if inb a2 2400 then if q32 = (-1) then if inb a2 2400 then (x217 (up2 I (126 + 33) a2.toNatClampNeg q32) 2 ((up2 I (126 + 33) a2.toNatClampNeg q32) (126 + 30) a2.toNatClampNeg)).bind fun q33 => some q33 else none else if q1 = 0 then some (up2 I (126 + 33) a2.toNatClampNeg q32) else if inb a2 2400 then (if (I (126 + 26) a2.toNatClampNeg) = 38 then (x222 126 (up2 I (126 + 33) a2.toNatClampNeg q32) q32 ((up2 I (126 + 33) a2.toNatClampNeg q32) (126 + 31) a2.toNatClampNeg)).bind fun q34 => some q34 else if (I (126 + 26) a2.toNatClampNeg) = 39 then (x222 126 (up2 I (126 + 33) a2.toNatClampNeg q32) q32 ((up2 I (126 + 33) a2.toNatClampNeg q32) (126 + 31) a2.toNatClampNeg)).bind fun q35 => some q35 else if (I (126 + 26) a2.toNatClampNeg) = 40 then (x223 126 (up2 I (126 + 33) a2.toNatClampNeg q32) q32 ((up2 I (126 + 33) a2.toNatClampNeg q32) (126 + 31) a2.toNatClampNeg)).bind fun q36 => some q36 else if (I (126 + 26) a2.toNatClampNeg) = 41 then (x223 126 (up2 I (126 + 33) a2.toNatClampNeg q32) q32 ((up2 I (126 + 33) a2.toNatClampNeg q32) (126 + 31) a2.toNatClampNeg)).bind fun q37 => some q37 else (if (I (126 + 26) a2.toNatClampNeg) = 50 then some 1 else some 0).bind fun (q38 : Int32) => (x219 126 (up2 I (126 + 33) a2.toNatClampNeg q32) q32 ((up2 I (126 + 33) a2.toNatClampNeg q32) (126 + 31) a2.toNatClampNeg) q38).bind fun q39 => some q39).bind fun (q40 : Int32) => if inb a2 2400 then if q40 = (-1) then if inb a2 2400 then (x217 (up2 (up2 I (126 + 33) a2.toNatClampNeg q32) (126 + 27) a2.toNatClampNeg q40) 2 ((up2 (up2 I (126 + 33) a2.toNatClampNeg q32) (126 + 27) a2.toNatClampNeg q40) (126 + 32) a2.toNatClampNeg)).bind fun q41 => some q41 else none else some (up2 (up2 I (126 + 33) a2.toNatClampNeg q32) (126 + 27) a2.toNatClampNeg q40) else none else none else none else none) T → Rn E 220 (102, [.ref 82, .int a1, .int a2, .int (I (126 + 26) a2.toNatClampNeg), us, us, us, us], [.int q1], wT I R) o w := by
        intro q1
        refine D.run 2 rfl ?_
        refine D.br rfl (by decide) rfl (fun hc => ?_) (fun hc => ?_)
        · refine D.run 2 rfl ?_
          refine D.br rfl (by decide) rfl (fun hc => ?_) (fun hc => ?_)
          · refine D.run 2 rfl ?_
            refine D.st rfl (by decide) (gf_1 h82_4) ?_
            refine D.run 2 rfl ?_
            refine D.gd fun hg => ?_
            refine D.st rfl (by decide) (al_i (by decide) (by first | rfl | decide) hg.1 hg.2) ?_
            show _ → Rn E 220 (138, [.ref 82, .int a1, .int a2, .int (I (126 + 26) a2.toNatClampNeg), .int q1, us, us, us], [.int (I (126 + 29) a2.toNatClampNeg), .ref 82], wT I R) o w
            refine D.run 1 rfl ?_
            refine D.st rfl (by decide) (gf_1 h82_4) ?_
            refine D.run 1 rfl ?_
            refine D.call rfl rfl rfl rfl (fun q h => x216_ok (by decide) h82_4 h) (fun q2 => ?_)
            refine D.run 2 rfl ?_
            refine D.st rfl (by decide) (gf_1 h82_4) ?_
            show _ → Rn E 220 (154, [.ref 82, .int a1, .int a2, .int (I (126 + 26) a2.toNatClampNeg), .int q1, .int q2, us, us], [.ref 126], wT I R) o w
            refine D.run 3 rfl ?_
            refine D.gd fun hg => ?_
            refine D.st rfl (by decide) (as_i (by decide) (by first | rfl | decide) hg.1 hg.2) ?_
            refine D.run 2 rfl ?_
            refine D.br rfl (by decide) rfl (fun hc => ?_) (fun hc => ?_)
            · refine D.run 3 rfl ?_
              refine D.st rfl (by decide) (gf_1 h82_4) ?_
              refine D.run 2 rfl ?_
              refine D.gd fun hg => ?_
              refine D.st rfl (by decide) (al_i (by decide) (by first | rfl | decide) hg.1 hg.2) ?_
              show _ → Rn E 220 (178, [.ref 82, .int a1, .int a2, .int (I (126 + 26) a2.toNatClampNeg), .int q1, .int q2, us, us], [.int ((up2 I (126 + 33) a2.toNatClampNeg q2) (126 + 30) a2.toNatClampNeg), .int 2, .ref 82], wT (up2 I (126 + 33) a2.toNatClampNeg q2) R) o w
              refine D.call rfl rfl rfl rfl (fun q h => x217_ok h) (fun q3 => ?_)
              refine D.run 1 rfl ?_
              exact fun h => by obtain ⟨rfl, rfl⟩ := hT _ (D.some h); exact Rn.ret rfl rfl rfl
            · refine D.run 1 rfl ?_
              refine D.br rfl (by decide) rfl (fun hc => ?_) (fun hc => ?_)
              · exact fun h => by obtain ⟨rfl, rfl⟩ := hT _ (D.some h); exact Rn.ret rfl rfl rfl
              · refine D.run 1 rfl ?_
                refine D.st rfl (by decide) (gf_1 h82_4) ?_
                refine D.run 2 rfl ?_
                refine D.gd fun hg => ?_
                refine D.st rfl (by decide) (al_i (by decide) (by first | rfl | decide) hg.1 hg.2) ?_
                show _ → Rn E 220 (198, [.ref 82, .int a1, .int a2, .int (I (126 + 26) a2.toNatClampNeg), .int q1, .int q2, us, us], [.int ((up2 I (126 + 33) a2.toNatClampNeg q2) (126 + 31) a2.toNatClampNeg)], wT (up2 I (126 + 33) a2.toNatClampNeg q2) R) o w
                refine D.run 3 rfl ?_
                have Kj268 : ∀ (q10 : Int32), Dq (if inb a2 2400 then if q10 = (-1) then if inb a2 2400 then (x217 (up2 (up2 I (126 + 33) a2.toNatClampNeg q2) (126 + 27) a2.toNatClampNeg q10) 2 ((up2 (up2 I (126 + 33) a2.toNatClampNeg q2) (126 + 27) a2.toNatClampNeg q10) (126 + 32) a2.toNatClampNeg)).bind fun q11 => some q11 else none else some (up2 (up2 I (126 + 33) a2.toNatClampNeg q2) (126 + 27) a2.toNatClampNeg q10) else none) T → Rn E 220 (268, [.ref 82, .int a1, .int a2, .int (I (126 + 26) a2.toNatClampNeg), .int q1, .int q2, .int ((up2 I (126 + 33) a2.toNatClampNeg q2) (126 + 31) a2.toNatClampNeg), us], [.int q10], wT (up2 I (126 + 33) a2.toNatClampNeg q2) R) o w := by
                  intro q10
                  refine D.run 2 rfl ?_
                  refine D.st rfl (by decide) (gf_1 h82_4) ?_
                  refine D.run 3 rfl ?_
                  refine D.gd fun hg => ?_
                  refine D.st rfl (by decide) (as_i (by decide) (by first | rfl | decide) hg.1 hg.2) ?_
                  show _ → Rn E 220 (281, [.ref 82, .int a1, .int a2, .int (I (126 + 26) a2.toNatClampNeg), .int q1, .int q2, .int ((up2 I (126 + 33) a2.toNatClampNeg q2) (126 + 31) a2.toNatClampNeg), .int q10], [], wT (up2 (up2 I (126 + 33) a2.toNatClampNeg q2) (126 + 27) a2.toNatClampNeg q10) R) o w
                  refine D.run 2 rfl ?_
                  refine D.br rfl (by decide) rfl (fun hc => ?_) (fun hc => ?_)
                  · refine D.run 3 rfl ?_
                    refine D.st rfl (by decide) (gf_1 h82_4) ?_
                    refine D.run 2 rfl ?_
                    refine D.gd fun hg => ?_
                    refine D.st rfl (by decide) (al_i (by decide) (by first | rfl | decide) hg.1 hg.2) ?_
                    show _ → Rn E 220 (298, [.ref 82, .int a1, .int a2, .int (I (126 + 26) a2.toNatClampNeg), .int q1, .int q2, .int ((up2 I (126 + 33) a2.toNatClampNeg q2) (126 + 31) a2.toNatClampNeg), .int q10], [.int ((up2 (up2 I (126 + 33) a2.toNatClampNeg q2) (126 + 27) a2.toNatClampNeg q10) (126 + 32) a2.toNatClampNeg), .int 2, .ref 82], wT (up2 (up2 I (126 + 33) a2.toNatClampNeg q2) (126 + 27) a2.toNatClampNeg q10) R) o w
                    refine D.call rfl rfl rfl rfl (fun q h => x217_ok h) (fun q11 => ?_)
                    exact fun h => by obtain ⟨rfl, rfl⟩ := hT _ (D.some h); exact Rn.ret rfl rfl rfl
                  · exact fun h => by obtain ⟨rfl, rfl⟩ := hT _ (D.some h); exact Rn.ret rfl rfl rfl
                refine D.jn (fun T268 c268 => ?_)
                refine D.br rfl (by decide) rfl (fun hc => ?_) (fun hc => ?_)
                · refine D.run 3 rfl ?_
                  refine D.call rfl rfl rfl rfl (fun q h => x222_ok (by decide) h82_4 h) (fun q4 => ?_)
                  refine D.run 1 rfl ?_
                  exact fun h => Kj268 _   (c268 _ (D.some h))
                · refine D.run 2 rfl ?_
                  refine D.br rfl (by decide) rfl (fun hc => ?_) (fun hc => ?_)
                  · refine D.run 3 rfl ?_
                    refine D.call rfl rfl rfl rfl (fun q h => x222_ok (by decide) h82_4 h) (fun q5 => ?_)
                    refine D.run 1 rfl ?_
                    exact fun h => Kj268 _   (c268 _ (D.some h))
                  · refine D.run 2 rfl ?_
                    refine D.br rfl (by decide) rfl (fun hc => ?_) (fun hc => ?_)
                    · refine D.run 3 rfl ?_
                      refine D.call rfl rfl rfl rfl (fun q h => x223_ok (by decide) h82_4 h) (fun q6 => ?_)
                      refine D.run 1 rfl ?_
                      exact fun h => Kj268 _   (c268 _ (D.some h))
                    · refine D.run 2 rfl ?_
                      refine D.br rfl (by decide) rfl (fun hc => ?_) (fun hc => ?_)
                      · refine D.run 3 rfl ?_
                        refine D.call rfl rfl rfl rfl (fun q h => x223_ok (by decide) h82_4 h) (fun q7 => ?_)
                        refine D.run 1 rfl ?_
                        exact fun h => Kj268 _   (c268 _ (D.some h))
                      · refine D.run 1 rfl ?_
                        refine D.st rfl (by decide) (gf_1 h82_4) ?_
                        refine D.run 4 rfl ?_
                        have Kj265 : ∀ (q8 : Int32), Dq ((x219 126 (up2 I (126 + 33) a2.toNatClampNeg q2) q2 ((up2 I (126 + 33) a2.toNatClampNeg q2) (126 + 31) a2.toNatClampNeg) q8).bind fun q9 => some q9) T268 → Rn E 220 (265, [.ref 82, .int a1, .int a2, .int (I (126 + 26) a2.toNatClampNeg), .int q1, .int q2, .int ((up2 I (126 + 33) a2.toNatClampNeg q2) (126 + 31) a2.toNatClampNeg), us], [.int q8, .int ((up2 I (126 + 33) a2.toNatClampNeg q2) (126 + 31) a2.toNatClampNeg), .int q2, .ref 126], wT (up2 I (126 + 33) a2.toNatClampNeg q2) R) o w := by
                          intro q8
                          refine D.call rfl rfl rfl rfl (fun q h => x219_ok (by decide) h) (fun q9 => ?_)
                          exact fun h => Kj268 _   (c268 _ (D.some h))
                        refine D.jn (fun T265 c265 => ?_)
                        refine D.br rfl (by decide) rfl (fun hc => ?_) (fun hc => ?_)
                        · refine D.run 2 rfl ?_
                          exact fun h => Kj265 _   (c265 _ (D.some h))
                        · refine D.run 1 rfl ?_
                          exact fun h => Kj265 _   (c265 _ (D.some h))
          · refine D.run 2 rfl ?_
            refine D.br rfl (by decide) rfl (fun hc => ?_) (fun hc => ?_)
            · refine D.run 2 rfl ?_
              refine D.st rfl (by decide) (gf_1 h82_4) ?_
              refine D.run 2 rfl ?_
              refine D.gd fun hg => ?_
              refine D.st rfl (by decide) (al_i (by decide) (by first | rfl | decide) hg.1 hg.2) ?_
              show _ → Rn E 220 (138, [.ref 82, .int a1, .int a2, .int (I (126 + 26) a2.toNatClampNeg), .int q1, us, us, us], [.int (I (126 + 29) a2.toNatClampNeg), .ref 82], wT I R) o w
              refine D.run 1 rfl ?_
              refine D.st rfl (by decide) (gf_1 h82_4) ?_
              refine D.run 1 rfl ?_
              refine D.call rfl rfl rfl rfl (fun q h => x216_ok (by decide) h82_4 h) (fun q12 => ?_)
              refine D.run 2 rfl ?_
              refine D.st rfl (by decide) (gf_1 h82_4) ?_
              show _ → Rn E 220 (154, [.ref 82, .int a1, .int a2, .int (I (126 + 26) a2.toNatClampNeg), .int q1, .int q12, us, us], [.ref 126], wT I R) o w
              refine D.run 3 rfl ?_
              refine D.gd fun hg => ?_
              refine D.st rfl (by decide) (as_i (by decide) (by first | rfl | decide) hg.1 hg.2) ?_
              refine D.run 2 rfl ?_
              refine D.br rfl (by decide) rfl (fun hc => ?_) (fun hc => ?_)
              · refine D.run 3 rfl ?_
                refine D.st rfl (by decide) (gf_1 h82_4) ?_
                refine D.run 2 rfl ?_
                refine D.gd fun hg => ?_
                refine D.st rfl (by decide) (al_i (by decide) (by first | rfl | decide) hg.1 hg.2) ?_
                show _ → Rn E 220 (178, [.ref 82, .int a1, .int a2, .int (I (126 + 26) a2.toNatClampNeg), .int q1, .int q12, us, us], [.int ((up2 I (126 + 33) a2.toNatClampNeg q12) (126 + 30) a2.toNatClampNeg), .int 2, .ref 82], wT (up2 I (126 + 33) a2.toNatClampNeg q12) R) o w
                refine D.call rfl rfl rfl rfl (fun q h => x217_ok h) (fun q13 => ?_)
                refine D.run 1 rfl ?_
                exact fun h => by obtain ⟨rfl, rfl⟩ := hT _ (D.some h); exact Rn.ret rfl rfl rfl
              · refine D.run 1 rfl ?_
                refine D.br rfl (by decide) rfl (fun hc => ?_) (fun hc => ?_)
                · exact fun h => by obtain ⟨rfl, rfl⟩ := hT _ (D.some h); exact Rn.ret rfl rfl rfl
                · refine D.run 1 rfl ?_
                  refine D.st rfl (by decide) (gf_1 h82_4) ?_
                  refine D.run 2 rfl ?_
                  refine D.gd fun hg => ?_
                  refine D.st rfl (by decide) (al_i (by decide) (by first | rfl | decide) hg.1 hg.2) ?_
                  show _ → Rn E 220 (198, [.ref 82, .int a1, .int a2, .int (I (126 + 26) a2.toNatClampNeg), .int q1, .int q12, us, us], [.int ((up2 I (126 + 33) a2.toNatClampNeg q12) (126 + 31) a2.toNatClampNeg)], wT (up2 I (126 + 33) a2.toNatClampNeg q12) R) o w
                  refine D.run 3 rfl ?_
                  have Kj268 : ∀ (q20 : Int32), Dq (if inb a2 2400 then if q20 = (-1) then if inb a2 2400 then (x217 (up2 (up2 I (126 + 33) a2.toNatClampNeg q12) (126 + 27) a2.toNatClampNeg q20) 2 ((up2 (up2 I (126 + 33) a2.toNatClampNeg q12) (126 + 27) a2.toNatClampNeg q20) (126 + 32) a2.toNatClampNeg)).bind fun q21 => some q21 else none else some (up2 (up2 I (126 + 33) a2.toNatClampNeg q12) (126 + 27) a2.toNatClampNeg q20) else none) T → Rn E 220 (268, [.ref 82, .int a1, .int a2, .int (I (126 + 26) a2.toNatClampNeg), .int q1, .int q12, .int ((up2 I (126 + 33) a2.toNatClampNeg q12) (126 + 31) a2.toNatClampNeg), us], [.int q20], wT (up2 I (126 + 33) a2.toNatClampNeg q12) R) o w := by
                    intro q20
                    refine D.run 2 rfl ?_
                    refine D.st rfl (by decide) (gf_1 h82_4) ?_
                    refine D.run 3 rfl ?_
                    refine D.gd fun hg => ?_
                    refine D.st rfl (by decide) (as_i (by decide) (by first | rfl | decide) hg.1 hg.2) ?_
                    show _ → Rn E 220 (281, [.ref 82, .int a1, .int a2, .int (I (126 + 26) a2.toNatClampNeg), .int q1, .int q12, .int ((up2 I (126 + 33) a2.toNatClampNeg q12) (126 + 31) a2.toNatClampNeg), .int q20], [], wT (up2 (up2 I (126 + 33) a2.toNatClampNeg q12) (126 + 27) a2.toNatClampNeg q20) R) o w
                    refine D.run 2 rfl ?_
                    refine D.br rfl (by decide) rfl (fun hc => ?_) (fun hc => ?_)
                    · refine D.run 3 rfl ?_
                      refine D.st rfl (by decide) (gf_1 h82_4) ?_
                      refine D.run 2 rfl ?_
                      refine D.gd fun hg => ?_
                      refine D.st rfl (by decide) (al_i (by decide) (by first | rfl | decide) hg.1 hg.2) ?_
                      show _ → Rn E 220 (298, [.ref 82, .int a1, .int a2, .int (I (126 + 26) a2.toNatClampNeg), .int q1, .int q12, .int ((up2 I (126 + 33) a2.toNatClampNeg q12) (126 + 31) a2.toNatClampNeg), .int q20], [.int ((up2 (up2 I (126 + 33) a2.toNatClampNeg q12) (126 + 27) a2.toNatClampNeg q20) (126 + 32) a2.toNatClampNeg), .int 2, .ref 82], wT (up2 (up2 I (126 + 33) a2.toNatClampNeg q12) (126 + 27) a2.toNatClampNeg q20) R) o w
                      refine D.call rfl rfl rfl rfl (fun q h => x217_ok h) (fun q21 => ?_)
                      exact fun h => by obtain ⟨rfl, rfl⟩ := hT _ (D.some h); exact Rn.ret rfl rfl rfl
                    · exact fun h => by obtain ⟨rfl, rfl⟩ := hT _ (D.some h); exact Rn.ret rfl rfl rfl
                  refine D.jn (fun T268 c268 => ?_)
                  refine D.br rfl (by decide) rfl (fun hc => ?_) (fun hc => ?_)
                  · refine D.run 3 rfl ?_
                    refine D.call rfl rfl rfl rfl (fun q h => x222_ok (by decide) h82_4 h) (fun q14 => ?_)
                    refine D.run 1 rfl ?_
                    exact fun h => Kj268 _   (c268 _ (D.some h))
                  · refine D.run 2 rfl ?_
                    refine D.br rfl (by decide) rfl (fun hc => ?_) (fun hc => ?_)
                    · refine D.run 3 rfl ?_
                      refine D.call rfl rfl rfl rfl (fun q h => x222_ok (by decide) h82_4 h) (fun q15 => ?_)
                      refine D.run 1 rfl ?_
                      exact fun h => Kj268 _   (c268 _ (D.some h))
                    · refine D.run 2 rfl ?_
                      refine D.br rfl (by decide) rfl (fun hc => ?_) (fun hc => ?_)
                      · refine D.run 3 rfl ?_
                        refine D.call rfl rfl rfl rfl (fun q h => x223_ok (by decide) h82_4 h) (fun q16 => ?_)
                        refine D.run 1 rfl ?_
                        exact fun h => Kj268 _   (c268 _ (D.some h))
                      · refine D.run 2 rfl ?_
                        refine D.br rfl (by decide) rfl (fun hc => ?_) (fun hc => ?_)
                        · refine D.run 3 rfl ?_
                          refine D.call rfl rfl rfl rfl (fun q h => x223_ok (by decide) h82_4 h) (fun q17 => ?_)
                          refine D.run 1 rfl ?_
                          exact fun h => Kj268 _   (c268 _ (D.some h))
                        · refine D.run 1 rfl ?_
                          refine D.st rfl (by decide) (gf_1 h82_4) ?_
                          refine D.run 4 rfl ?_
                          have Kj265 : ∀ (q18 : Int32), Dq ((x219 126 (up2 I (126 + 33) a2.toNatClampNeg q12) q12 ((up2 I (126 + 33) a2.toNatClampNeg q12) (126 + 31) a2.toNatClampNeg) q18).bind fun q19 => some q19) T268 → Rn E 220 (265, [.ref 82, .int a1, .int a2, .int (I (126 + 26) a2.toNatClampNeg), .int q1, .int q12, .int ((up2 I (126 + 33) a2.toNatClampNeg q12) (126 + 31) a2.toNatClampNeg), us], [.int q18, .int ((up2 I (126 + 33) a2.toNatClampNeg q12) (126 + 31) a2.toNatClampNeg), .int q12, .ref 126], wT (up2 I (126 + 33) a2.toNatClampNeg q12) R) o w := by
                            intro q18
                            refine D.call rfl rfl rfl rfl (fun q h => x219_ok (by decide) h) (fun q19 => ?_)
                            exact fun h => Kj268 _   (c268 _ (D.some h))
                          refine D.jn (fun T265 c265 => ?_)
                          refine D.br rfl (by decide) rfl (fun hc => ?_) (fun hc => ?_)
                          · refine D.run 2 rfl ?_
                            exact fun h => Kj265 _   (c265 _ (D.some h))
                          · refine D.run 1 rfl ?_
                            exact fun h => Kj265 _   (c265 _ (D.some h))
            · refine D.run 2 rfl ?_
              refine D.br rfl (by decide) rfl (fun hc => ?_) (fun hc => ?_)
              · refine D.run 2 rfl ?_
                refine D.st rfl (by decide) (gf_1 h82_4) ?_
                refine D.run 2 rfl ?_
                refine D.gd fun hg => ?_
                refine D.st rfl (by decide) (al_i (by decide) (by first | rfl | decide) hg.1 hg.2) ?_
                show _ → Rn E 220 (138, [.ref 82, .int a1, .int a2, .int (I (126 + 26) a2.toNatClampNeg), .int q1, us, us, us], [.int (I (126 + 29) a2.toNatClampNeg), .ref 82], wT I R) o w
                refine D.run 1 rfl ?_
                refine D.st rfl (by decide) (gf_1 h82_4) ?_
                refine D.run 1 rfl ?_
                refine D.call rfl rfl rfl rfl (fun q h => x216_ok (by decide) h82_4 h) (fun q22 => ?_)
                refine D.run 2 rfl ?_
                refine D.st rfl (by decide) (gf_1 h82_4) ?_
                show _ → Rn E 220 (154, [.ref 82, .int a1, .int a2, .int (I (126 + 26) a2.toNatClampNeg), .int q1, .int q22, us, us], [.ref 126], wT I R) o w
                refine D.run 3 rfl ?_
                refine D.gd fun hg => ?_
                refine D.st rfl (by decide) (as_i (by decide) (by first | rfl | decide) hg.1 hg.2) ?_
                refine D.run 2 rfl ?_
                refine D.br rfl (by decide) rfl (fun hc => ?_) (fun hc => ?_)
                · refine D.run 3 rfl ?_
                  refine D.st rfl (by decide) (gf_1 h82_4) ?_
                  refine D.run 2 rfl ?_
                  refine D.gd fun hg => ?_
                  refine D.st rfl (by decide) (al_i (by decide) (by first | rfl | decide) hg.1 hg.2) ?_
                  show _ → Rn E 220 (178, [.ref 82, .int a1, .int a2, .int (I (126 + 26) a2.toNatClampNeg), .int q1, .int q22, us, us], [.int ((up2 I (126 + 33) a2.toNatClampNeg q22) (126 + 30) a2.toNatClampNeg), .int 2, .ref 82], wT (up2 I (126 + 33) a2.toNatClampNeg q22) R) o w
                  refine D.call rfl rfl rfl rfl (fun q h => x217_ok h) (fun q23 => ?_)
                  refine D.run 1 rfl ?_
                  exact fun h => by obtain ⟨rfl, rfl⟩ := hT _ (D.some h); exact Rn.ret rfl rfl rfl
                · refine D.run 1 rfl ?_
                  refine D.br rfl (by decide) rfl (fun hc => ?_) (fun hc => ?_)
                  · exact fun h => by obtain ⟨rfl, rfl⟩ := hT _ (D.some h); exact Rn.ret rfl rfl rfl
                  · refine D.run 1 rfl ?_
                    refine D.st rfl (by decide) (gf_1 h82_4) ?_
                    refine D.run 2 rfl ?_
                    refine D.gd fun hg => ?_
                    refine D.st rfl (by decide) (al_i (by decide) (by first | rfl | decide) hg.1 hg.2) ?_
                    show _ → Rn E 220 (198, [.ref 82, .int a1, .int a2, .int (I (126 + 26) a2.toNatClampNeg), .int q1, .int q22, us, us], [.int ((up2 I (126 + 33) a2.toNatClampNeg q22) (126 + 31) a2.toNatClampNeg)], wT (up2 I (126 + 33) a2.toNatClampNeg q22) R) o w
                    refine D.run 3 rfl ?_
                    have Kj268 : ∀ (q30 : Int32), Dq (if inb a2 2400 then if q30 = (-1) then if inb a2 2400 then (x217 (up2 (up2 I (126 + 33) a2.toNatClampNeg q22) (126 + 27) a2.toNatClampNeg q30) 2 ((up2 (up2 I (126 + 33) a2.toNatClampNeg q22) (126 + 27) a2.toNatClampNeg q30) (126 + 32) a2.toNatClampNeg)).bind fun q31 => some q31 else none else some (up2 (up2 I (126 + 33) a2.toNatClampNeg q22) (126 + 27) a2.toNatClampNeg q30) else none) T → Rn E 220 (268, [.ref 82, .int a1, .int a2, .int (I (126 + 26) a2.toNatClampNeg), .int q1, .int q22, .int ((up2 I (126 + 33) a2.toNatClampNeg q22) (126 + 31) a2.toNatClampNeg), us], [.int q30], wT (up2 I (126 + 33) a2.toNatClampNeg q22) R) o w := by
                      intro q30
                      refine D.run 2 rfl ?_
                      refine D.st rfl (by decide) (gf_1 h82_4) ?_
                      refine D.run 3 rfl ?_
                      refine D.gd fun hg => ?_
                      refine D.st rfl (by decide) (as_i (by decide) (by first | rfl | decide) hg.1 hg.2) ?_
                      show _ → Rn E 220 (281, [.ref 82, .int a1, .int a2, .int (I (126 + 26) a2.toNatClampNeg), .int q1, .int q22, .int ((up2 I (126 + 33) a2.toNatClampNeg q22) (126 + 31) a2.toNatClampNeg), .int q30], [], wT (up2 (up2 I (126 + 33) a2.toNatClampNeg q22) (126 + 27) a2.toNatClampNeg q30) R) o w
                      refine D.run 2 rfl ?_
                      refine D.br rfl (by decide) rfl (fun hc => ?_) (fun hc => ?_)
                      · refine D.run 3 rfl ?_
                        refine D.st rfl (by decide) (gf_1 h82_4) ?_
                        refine D.run 2 rfl ?_
                        refine D.gd fun hg => ?_
                        refine D.st rfl (by decide) (al_i (by decide) (by first | rfl | decide) hg.1 hg.2) ?_
                        show _ → Rn E 220 (298, [.ref 82, .int a1, .int a2, .int (I (126 + 26) a2.toNatClampNeg), .int q1, .int q22, .int ((up2 I (126 + 33) a2.toNatClampNeg q22) (126 + 31) a2.toNatClampNeg), .int q30], [.int ((up2 (up2 I (126 + 33) a2.toNatClampNeg q22) (126 + 27) a2.toNatClampNeg q30) (126 + 32) a2.toNatClampNeg), .int 2, .ref 82], wT (up2 (up2 I (126 + 33) a2.toNatClampNeg q22) (126 + 27) a2.toNatClampNeg q30) R) o w
                        refine D.call rfl rfl rfl rfl (fun q h => x217_ok h) (fun q31 => ?_)
                        exact fun h => by obtain ⟨rfl, rfl⟩ := hT _ (D.some h); exact Rn.ret rfl rfl rfl
                      · exact fun h => by obtain ⟨rfl, rfl⟩ := hT _ (D.some h); exact Rn.ret rfl rfl rfl
                    refine D.jn (fun T268 c268 => ?_)
                    refine D.br rfl (by decide) rfl (fun hc => ?_) (fun hc => ?_)
                    · refine D.run 3 rfl ?_
                      refine D.call rfl rfl rfl rfl (fun q h => x222_ok (by decide) h82_4 h) (fun q24 => ?_)
                      refine D.run 1 rfl ?_
                      exact fun h => Kj268 _   (c268 _ (D.some h))
                    · refine D.run 2 rfl ?_
                      refine D.br rfl (by decide) rfl (fun hc => ?_) (fun hc => ?_)
                      · refine D.run 3 rfl ?_
                        refine D.call rfl rfl rfl rfl (fun q h => x222_ok (by decide) h82_4 h) (fun q25 => ?_)
                        refine D.run 1 rfl ?_
                        exact fun h => Kj268 _   (c268 _ (D.some h))
                      · refine D.run 2 rfl ?_
                        refine D.br rfl (by decide) rfl (fun hc => ?_) (fun hc => ?_)
                        · refine D.run 3 rfl ?_
                          refine D.call rfl rfl rfl rfl (fun q h => x223_ok (by decide) h82_4 h) (fun q26 => ?_)
                          refine D.run 1 rfl ?_
                          exact fun h => Kj268 _   (c268 _ (D.some h))
                        · refine D.run 2 rfl ?_
                          refine D.br rfl (by decide) rfl (fun hc => ?_) (fun hc => ?_)
                          · refine D.run 3 rfl ?_
                            refine D.call rfl rfl rfl rfl (fun q h => x223_ok (by decide) h82_4 h) (fun q27 => ?_)
                            refine D.run 1 rfl ?_
                            exact fun h => Kj268 _   (c268 _ (D.some h))
                          · refine D.run 1 rfl ?_
                            refine D.st rfl (by decide) (gf_1 h82_4) ?_
                            refine D.run 4 rfl ?_
                            have Kj265 : ∀ (q28 : Int32), Dq ((x219 126 (up2 I (126 + 33) a2.toNatClampNeg q22) q22 ((up2 I (126 + 33) a2.toNatClampNeg q22) (126 + 31) a2.toNatClampNeg) q28).bind fun q29 => some q29) T268 → Rn E 220 (265, [.ref 82, .int a1, .int a2, .int (I (126 + 26) a2.toNatClampNeg), .int q1, .int q22, .int ((up2 I (126 + 33) a2.toNatClampNeg q22) (126 + 31) a2.toNatClampNeg), us], [.int q28, .int ((up2 I (126 + 33) a2.toNatClampNeg q22) (126 + 31) a2.toNatClampNeg), .int q22, .ref 126], wT (up2 I (126 + 33) a2.toNatClampNeg q22) R) o w := by
                              intro q28
                              refine D.call rfl rfl rfl rfl (fun q h => x219_ok (by decide) h) (fun q29 => ?_)
                              exact fun h => Kj268 _   (c268 _ (D.some h))
                            refine D.jn (fun T265 c265 => ?_)
                            refine D.br rfl (by decide) rfl (fun hc => ?_) (fun hc => ?_)
                            · refine D.run 2 rfl ?_
                              exact fun h => Kj265 _   (c265 _ (D.some h))
                            · refine D.run 1 rfl ?_
                              exact fun h => Kj265 _   (c265 _ (D.some h))
              · exact fun h => by obtain ⟨rfl, rfl⟩ := hT _ (D.some h); exact Rn.ret rfl rfl rfl
        · refine D.run 2 rfl ?_
          refine D.st rfl (by decide) (gf_1 h82_4) ?_
          refine D.run 2 rfl ?_
          refine D.gd fun hg => ?_
          refine D.st rfl (by decide) (al_i (by decide) (by first | rfl | decide) hg.1 hg.2) ?_
          show _ → Rn E 220 (138, [.ref 82, .int a1, .int a2, .int (I (126 + 26) a2.toNatClampNeg), .int q1, us, us, us], [.int (I (126 + 29) a2.toNatClampNeg), .ref 82], wT I R) o w
          refine D.run 1 rfl ?_
          refine D.st rfl (by decide) (gf_1 h82_4) ?_
          refine D.run 1 rfl ?_
          refine D.call rfl rfl rfl rfl (fun q h => x216_ok (by decide) h82_4 h) (fun q32 => ?_)
          refine D.run 2 rfl ?_
          refine D.st rfl (by decide) (gf_1 h82_4) ?_
          show _ → Rn E 220 (154, [.ref 82, .int a1, .int a2, .int (I (126 + 26) a2.toNatClampNeg), .int q1, .int q32, us, us], [.ref 126], wT I R) o w
          refine D.run 3 rfl ?_
          refine D.gd fun hg => ?_
          refine D.st rfl (by decide) (as_i (by decide) (by first | rfl | decide) hg.1 hg.2) ?_
          refine D.run 2 rfl ?_
          refine D.br rfl (by decide) rfl (fun hc => ?_) (fun hc => ?_)
          · refine D.run 3 rfl ?_
            refine D.st rfl (by decide) (gf_1 h82_4) ?_
            refine D.run 2 rfl ?_
            refine D.gd fun hg => ?_
            refine D.st rfl (by decide) (al_i (by decide) (by first | rfl | decide) hg.1 hg.2) ?_
            show _ → Rn E 220 (178, [.ref 82, .int a1, .int a2, .int (I (126 + 26) a2.toNatClampNeg), .int q1, .int q32, us, us], [.int ((up2 I (126 + 33) a2.toNatClampNeg q32) (126 + 30) a2.toNatClampNeg), .int 2, .ref 82], wT (up2 I (126 + 33) a2.toNatClampNeg q32) R) o w
            refine D.call rfl rfl rfl rfl (fun q h => x217_ok h) (fun q33 => ?_)
            refine D.run 1 rfl ?_
            exact fun h => by obtain ⟨rfl, rfl⟩ := hT _ (D.some h); exact Rn.ret rfl rfl rfl
          · refine D.run 1 rfl ?_
            refine D.br rfl (by decide) rfl (fun hc => ?_) (fun hc => ?_)
            · exact fun h => by obtain ⟨rfl, rfl⟩ := hT _ (D.some h); exact Rn.ret rfl rfl rfl
            · refine D.run 1 rfl ?_
              refine D.st rfl (by decide) (gf_1 h82_4) ?_
              refine D.run 2 rfl ?_
              refine D.gd fun hg => ?_
              refine D.st rfl (by decide) (al_i (by decide) (by first | rfl | decide) hg.1 hg.2) ?_
              show _ → Rn E 220 (198, [.ref 82, .int a1, .int a2, .int (I (126 + 26) a2.toNatClampNeg), .int q1, .int q32, us, us], [.int ((up2 I (126 + 33) a2.toNatClampNeg q32) (126 + 31) a2.toNatClampNeg)], wT (up2 I (126 + 33) a2.toNatClampNeg q32) R) o w
              refine D.run 3 rfl ?_
              have Kj268 : ∀ (q40 : Int32), Dq (if inb a2 2400 then if q40 = (-1) then if inb a2 2400 then (x217 (up2 (up2 I (126 + 33) a2.toNatClampNeg q32) (126 + 27) a2.toNatClampNeg q40) 2 ((up2 (up2 I (126 + 33) a2.toNatClampNeg q32) (126 + 27) a2.toNatClampNeg q40) (126 + 32) a2.toNatClampNeg)).bind fun q41 => some q41 else none else some (up2 (up2 I (126 + 33) a2.toNatClampNeg q32) (126 + 27) a2.toNatClampNeg q40) else none) T → Rn E 220 (268, [.ref 82, .int a1, .int a2, .int (I (126 + 26) a2.toNatClampNeg), .int q1, .int q32, .int ((up2 I (126 + 33) a2.toNatClampNeg q32) (126 + 31) a2.toNatClampNeg), us], [.int q40], wT (up2 I (126 + 33) a2.toNatClampNeg q32) R) o w := by
                intro q40
                refine D.run 2 rfl ?_
                refine D.st rfl (by decide) (gf_1 h82_4) ?_
                refine D.run 3 rfl ?_
                refine D.gd fun hg => ?_
                refine D.st rfl (by decide) (as_i (by decide) (by first | rfl | decide) hg.1 hg.2) ?_
                show _ → Rn E 220 (281, [.ref 82, .int a1, .int a2, .int (I (126 + 26) a2.toNatClampNeg), .int q1, .int q32, .int ((up2 I (126 + 33) a2.toNatClampNeg q32) (126 + 31) a2.toNatClampNeg), .int q40], [], wT (up2 (up2 I (126 + 33) a2.toNatClampNeg q32) (126 + 27) a2.toNatClampNeg q40) R) o w
                refine D.run 2 rfl ?_
                refine D.br rfl (by decide) rfl (fun hc => ?_) (fun hc => ?_)
                · refine D.run 3 rfl ?_
                  refine D.st rfl (by decide) (gf_1 h82_4) ?_
                  refine D.run 2 rfl ?_
                  refine D.gd fun hg => ?_
                  refine D.st rfl (by decide) (al_i (by decide) (by first | rfl | decide) hg.1 hg.2) ?_
                  show _ → Rn E 220 (298, [.ref 82, .int a1, .int a2, .int (I (126 + 26) a2.toNatClampNeg), .int q1, .int q32, .int ((up2 I (126 + 33) a2.toNatClampNeg q32) (126 + 31) a2.toNatClampNeg), .int q40], [.int ((up2 (up2 I (126 + 33) a2.toNatClampNeg q32) (126 + 27) a2.toNatClampNeg q40) (126 + 32) a2.toNatClampNeg), .int 2, .ref 82], wT (up2 (up2 I (126 + 33) a2.toNatClampNeg q32) (126 + 27) a2.toNatClampNeg q40) R) o w
                  refine D.call rfl rfl rfl rfl (fun q h => x217_ok h) (fun q41 => ?_)
                  exact fun h => by obtain ⟨rfl, rfl⟩ := hT _ (D.some h); exact Rn.ret rfl rfl rfl
                · exact fun h => by obtain ⟨rfl, rfl⟩ := hT _ (D.some h); exact Rn.ret rfl rfl rfl
              refine D.jn (fun T268 c268 => ?_)
              refine D.br rfl (by decide) rfl (fun hc => ?_) (fun hc => ?_)
              · refine D.run 3 rfl ?_
                refine D.call rfl rfl rfl rfl (fun q h => x222_ok (by decide) h82_4 h) (fun q34 => ?_)
                refine D.run 1 rfl ?_
                exact fun h => Kj268 _   (c268 _ (D.some h))
              · refine D.run 2 rfl ?_
                refine D.br rfl (by decide) rfl (fun hc => ?_) (fun hc => ?_)
                · refine D.run 3 rfl ?_
                  refine D.call rfl rfl rfl rfl (fun q h => x222_ok (by decide) h82_4 h) (fun q35 => ?_)
                  refine D.run 1 rfl ?_
                  exact fun h => Kj268 _   (c268 _ (D.some h))
                · refine D.run 2 rfl ?_
                  refine D.br rfl (by decide) rfl (fun hc => ?_) (fun hc => ?_)
                  · refine D.run 3 rfl ?_
                    refine D.call rfl rfl rfl rfl (fun q h => x223_ok (by decide) h82_4 h) (fun q36 => ?_)
                    refine D.run 1 rfl ?_
                    exact fun h => Kj268 _   (c268 _ (D.some h))
                  · refine D.run 2 rfl ?_
                    refine D.br rfl (by decide) rfl (fun hc => ?_) (fun hc => ?_)
                    · refine D.run 3 rfl ?_
                      refine D.call rfl rfl rfl rfl (fun q h => x223_ok (by decide) h82_4 h) (fun q37 => ?_)
                      refine D.run 1 rfl ?_
                      exact fun h => Kj268 _   (c268 _ (D.some h))
                    · refine D.run 1 rfl ?_
                      refine D.st rfl (by decide) (gf_1 h82_4) ?_
                      refine D.run 4 rfl ?_
                      have Kj265 : ∀ (q38 : Int32), Dq ((x219 126 (up2 I (126 + 33) a2.toNatClampNeg q32) q32 ((up2 I (126 + 33) a2.toNatClampNeg q32) (126 + 31) a2.toNatClampNeg) q38).bind fun q39 => some q39) T268 → Rn E 220 (265, [.ref 82, .int a1, .int a2, .int (I (126 + 26) a2.toNatClampNeg), .int q1, .int q32, .int ((up2 I (126 + 33) a2.toNatClampNeg q32) (126 + 31) a2.toNatClampNeg), us], [.int q38, .int ((up2 I (126 + 33) a2.toNatClampNeg q32) (126 + 31) a2.toNatClampNeg), .int q32, .ref 126], wT (up2 I (126 + 33) a2.toNatClampNeg q32) R) o w := by
                        intro q38
                        refine D.call rfl rfl rfl rfl (fun q h => x219_ok (by decide) h) (fun q39 => ?_)
                        exact fun h => Kj268 _   (c268 _ (D.some h))
                      refine D.jn (fun T265 c265 => ?_)
                      refine D.br rfl (by decide) rfl (fun hc => ?_) (fun hc => ?_)
                      · refine D.run 2 rfl ?_
                        exact fun h => Kj265 _   (c265 _ (D.some h))
                      · refine D.run 1 rfl ?_
                        exact fun h => Kj265 _   (c265 _ (D.some h))
      refine D.jn (fun T102 c102 => ?_)
      refine D.br rfl (by decide) rfl (fun hc => ?_) (fun hc => ?_)
      · refine D.run 2 rfl ?_
        refine D.br rfl (by decide) rfl (fun hc => ?_) (fun hc => ?_)
        · refine D.run 2 rfl ?_
          exact fun h => Kj102 _   (c102 _ (D.some h))
        · refine D.run 2 rfl ?_
          refine D.br rfl (by decide) rfl (fun hc => ?_) (fun hc => ?_)
          · refine D.run 2 rfl ?_
            exact fun h => Kj102 _   (c102 _ (D.some h))
          · refine D.run 1 rfl ?_
            exact fun h => Kj102 _   (c102 _ (D.some h))
      · refine D.run 2 rfl ?_
        refine D.br rfl (by decide) rfl (fun hc => ?_) (fun hc => ?_)
        · refine D.run 2 rfl ?_
          exact fun h => Kj102 _   (c102 _ (D.some h))
        · refine D.run 2 rfl ?_
          refine D.br rfl (by decide) rfl (fun hc => ?_) (fun hc => ?_)
          · refine D.run 2 rfl ?_
            exact fun h => Kj102 _   (c102 _ (D.some h))
          · refine D.run 2 rfl ?_
            refine D.br rfl (by decide) rfl (fun hc => ?_) (fun hc => ?_)
            · refine D.run 2 rfl ?_
              exact fun h => Kj102 _   (c102 _ (D.some h))
            · refine D.run 1 rfl ?_
              exact fun h => Kj102 _   (c102 _ (D.some h))
    · refine D.run 2 rfl ?_
      refine D.br rfl (by decide) rfl (fun hc => ?_) (fun hc => ?_)
      · refine D.run 2 rfl ?_
        have Kj102 : ∀ (q42 : Int32), Dq (if q42 = 0 then if (I (126 + 26) a2.toNatClampNeg) = 37 then if inb a2 2400 then (x216 126 I (I (126 + 29) a2.toNatClampNeg) (I 126 5)).bind fun q43 => if inb a2 2400 then if q43 = (-1) then if inb a2 2400 then (x217 (up2 I (126 + 33) a2.toNatClampNeg q43) 2 ((up2 I (126 + 33) a2.toNatClampNeg q43) (126 + 30) a2.toNatClampNeg)).bind fun q44 => some q44 else none else if q42 = 0 then some (up2 I (126 + 33) a2.toNatClampNeg q43) else if inb a2 2400 then (if (I (126 + 26) a2.toNatClampNeg) = 38 then (x222 126 (up2 I (126 + 33) a2.toNatClampNeg q43) q43 ((up2 I (126 + 33) a2.toNatClampNeg q43) (126 + 31) a2.toNatClampNeg)).bind fun q45 => some q45 else if (I (126 + 26) a2.toNatClampNeg) = 39 then (x222 126 (up2 I (126 + 33) a2.toNatClampNeg q43) q43 ((up2 I (126 + 33) a2.toNatClampNeg q43) (126 + 31) a2.toNatClampNeg)).bind fun q46 => some q46 else if (I (126 + 26) a2.toNatClampNeg) = 40 then (x223 126 (up2 I (126 + 33) a2.toNatClampNeg q43) q43 ((up2 I (126 + 33) a2.toNatClampNeg q43) (126 + 31) a2.toNatClampNeg)).bind fun q47 => some q47 else if (I (126 + 26) a2.toNatClampNeg) = 41 then (x223 126 (up2 I (126 + 33) a2.toNatClampNeg q43) q43 ((up2 I (126 + 33) a2.toNatClampNeg q43) (126 + 31) a2.toNatClampNeg)).bind fun q48 => some q48 else (if (I (126 + 26) a2.toNatClampNeg) = 50 then some 1 else some 0).bind fun (q49 : Int32) => (x219 126 (up2 I (126 + 33) a2.toNatClampNeg q43) q43 ((up2 I (126 + 33) a2.toNatClampNeg q43) (126 + 31) a2.toNatClampNeg) q49).bind fun q50 => some q50).bind fun (q51 : Int32) => if inb a2 2400 then if q51 = (-1) then if inb a2 2400 then (x217 (up2 (up2 I (126 + 33) a2.toNatClampNeg q43) (126 + 27) a2.toNatClampNeg q51) 2 ((up2 (up2 I (126 + 33) a2.toNatClampNeg q43) (126 + 27) a2.toNatClampNeg q51) (126 + 32) a2.toNatClampNeg)).bind fun q52 => some q52 else none else some (up2 (up2 I (126 + 33) a2.toNatClampNeg q43) (126 + 27) a2.toNatClampNeg q51) else none else none else none else none else if (I (126 + 26) a2.toNatClampNeg) = 53 then if inb a2 2400 then (x216 126 I (I (126 + 29) a2.toNatClampNeg) (I 126 5)).bind fun q53 => if inb a2 2400 then if q53 = (-1) then if inb a2 2400 then (x217 (up2 I (126 + 33) a2.toNatClampNeg q53) 2 ((up2 I (126 + 33) a2.toNatClampNeg q53) (126 + 30) a2.toNatClampNeg)).bind fun q54 => some q54 else none else if q42 = 0 then some (up2 I (126 + 33) a2.toNatClampNeg q53) else if inb a2 2400 then (if (I (126 + 26) a2.toNatClampNeg) = 38 then (x222 126 (up2 I (126 + 33) a2.toNatClampNeg q53) q53 ((up2 I (126 + 33) a2.toNatClampNeg q53) (126 + 31) a2.toNatClampNeg)).bind fun q55 => some q55 else if (I (126 + 26) a2.toNatClampNeg) = 39 then (x222 126 (up2 I (126 + 33) a2.toNatClampNeg q53) q53 ((up2 I (126 + 33) a2.toNatClampNeg q53) (126 + 31) a2.toNatClampNeg)).bind fun q56 => some q56 else if (I (126 + 26) a2.toNatClampNeg) = 40 then (x223 126 (up2 I (126 + 33) a2.toNatClampNeg q53) q53 ((up2 I (126 + 33) a2.toNatClampNeg q53) (126 + 31) a2.toNatClampNeg)).bind fun q57 => some q57 else if (I (126 + 26) a2.toNatClampNeg) = 41 then (x223 126 (up2 I (126 + 33) a2.toNatClampNeg q53) q53 ((up2 I (126 + 33) a2.toNatClampNeg q53) (126 + 31) a2.toNatClampNeg)).bind fun q58 => some q58 else (if (I (126 + 26) a2.toNatClampNeg) = 50 then some 1 else some 0).bind fun (q59 : Int32) => (x219 126 (up2 I (126 + 33) a2.toNatClampNeg q53) q53 ((up2 I (126 + 33) a2.toNatClampNeg q53) (126 + 31) a2.toNatClampNeg) q59).bind fun q60 => some q60).bind fun (q61 : Int32) => if inb a2 2400 then if q61 = (-1) then if inb a2 2400 then (x217 (up2 (up2 I (126 + 33) a2.toNatClampNeg q53) (126 + 27) a2.toNatClampNeg q61) 2 ((up2 (up2 I (126 + 33) a2.toNatClampNeg q53) (126 + 27) a2.toNatClampNeg q61) (126 + 32) a2.toNatClampNeg)).bind fun q62 => some q62 else none else some (up2 (up2 I (126 + 33) a2.toNatClampNeg q53) (126 + 27) a2.toNatClampNeg q61) else none else none else none else none else if (I (126 + 26) a2.toNatClampNeg) = 54 then if inb a2 2400 then (x216 126 I (I (126 + 29) a2.toNatClampNeg) (I 126 5)).bind fun q63 => if inb a2 2400 then if q63 = (-1) then if inb a2 2400 then (x217 (up2 I (126 + 33) a2.toNatClampNeg q63) 2 ((up2 I (126 + 33) a2.toNatClampNeg q63) (126 + 30) a2.toNatClampNeg)).bind fun q64 => some q64 else none else if q42 = 0 then some (up2 I (126 + 33) a2.toNatClampNeg q63) else if inb a2 2400 then (if (I (126 + 26) a2.toNatClampNeg) = 38 then (x222 126 (up2 I (126 + 33) a2.toNatClampNeg q63) q63 ((up2 I (126 + 33) a2.toNatClampNeg q63) (126 + 31) a2.toNatClampNeg)).bind fun q65 => some q65 else if (I (126 + 26) a2.toNatClampNeg) = 39 then (x222 126 (up2 I (126 + 33) a2.toNatClampNeg q63) q63 ((up2 I (126 + 33) a2.toNatClampNeg q63) (126 + 31) a2.toNatClampNeg)).bind fun q66 => some q66 else if (I (126 + 26) a2.toNatClampNeg) = 40 then (x223 126 (up2 I (126 + 33) a2.toNatClampNeg q63) q63 ((up2 I (126 + 33) a2.toNatClampNeg q63) (126 + 31) a2.toNatClampNeg)).bind fun q67 => some q67 else if (I (126 + 26) a2.toNatClampNeg) = 41 then (x223 126 (up2 I (126 + 33) a2.toNatClampNeg q63) q63 ((up2 I (126 + 33) a2.toNatClampNeg q63) (126 + 31) a2.toNatClampNeg)).bind fun q68 => some q68 else (if (I (126 + 26) a2.toNatClampNeg) = 50 then some 1 else some 0).bind fun (q69 : Int32) => (x219 126 (up2 I (126 + 33) a2.toNatClampNeg q63) q63 ((up2 I (126 + 33) a2.toNatClampNeg q63) (126 + 31) a2.toNatClampNeg) q69).bind fun q70 => some q70).bind fun (q71 : Int32) => if inb a2 2400 then if q71 = (-1) then if inb a2 2400 then (x217 (up2 (up2 I (126 + 33) a2.toNatClampNeg q63) (126 + 27) a2.toNatClampNeg q71) 2 ((up2 (up2 I (126 + 33) a2.toNatClampNeg q63) (126 + 27) a2.toNatClampNeg q71) (126 + 32) a2.toNatClampNeg)).bind fun q72 => some q72 else none else some (up2 (up2 I (126 + 33) a2.toNatClampNeg q63) (126 + 27) a2.toNatClampNeg q71) else none else none else none else none else some I else if inb a2 2400 then (x216 126 I (I (126 + 29) a2.toNatClampNeg) (I 126 5)).bind fun q73 => if inb a2 2400 then if q73 = (-1) then if inb a2 2400 then (x217 (up2 I (126 + 33) a2.toNatClampNeg q73) 2 ((up2 I (126 + 33) a2.toNatClampNeg q73) (126 + 30) a2.toNatClampNeg)).bind fun q74 => some q74 else none else if q42 = 0 then some (up2 I (126 + 33) a2.toNatClampNeg q73) else if inb a2 2400 then (if (I (126 + 26) a2.toNatClampNeg) = 38 then (x222 126 (up2 I (126 + 33) a2.toNatClampNeg q73) q73 ((up2 I (126 + 33) a2.toNatClampNeg q73) (126 + 31) a2.toNatClampNeg)).bind fun q75 => some q75 else if (I (126 + 26) a2.toNatClampNeg) = 39 then (x222 126 (up2 I (126 + 33) a2.toNatClampNeg q73) q73 ((up2 I (126 + 33) a2.toNatClampNeg q73) (126 + 31) a2.toNatClampNeg)).bind fun q76 => some q76 else if (I (126 + 26) a2.toNatClampNeg) = 40 then (x223 126 (up2 I (126 + 33) a2.toNatClampNeg q73) q73 ((up2 I (126 + 33) a2.toNatClampNeg q73) (126 + 31) a2.toNatClampNeg)).bind fun q77 => some q77 else if (I (126 + 26) a2.toNatClampNeg) = 41 then (x223 126 (up2 I (126 + 33) a2.toNatClampNeg q73) q73 ((up2 I (126 + 33) a2.toNatClampNeg q73) (126 + 31) a2.toNatClampNeg)).bind fun q78 => some q78 else (if (I (126 + 26) a2.toNatClampNeg) = 50 then some 1 else some 0).bind fun (q79 : Int32) => (x219 126 (up2 I (126 + 33) a2.toNatClampNeg q73) q73 ((up2 I (126 + 33) a2.toNatClampNeg q73) (126 + 31) a2.toNatClampNeg) q79).bind fun q80 => some q80).bind fun (q81 : Int32) => if inb a2 2400 then if q81 = (-1) then if inb a2 2400 then (x217 (up2 (up2 I (126 + 33) a2.toNatClampNeg q73) (126 + 27) a2.toNatClampNeg q81) 2 ((up2 (up2 I (126 + 33) a2.toNatClampNeg q73) (126 + 27) a2.toNatClampNeg q81) (126 + 32) a2.toNatClampNeg)).bind fun q82 => some q82 else none else some (up2 (up2 I (126 + 33) a2.toNatClampNeg q73) (126 + 27) a2.toNatClampNeg q81) else none else none else none else none) T → Rn E 220 (102, [.ref 82, .int a1, .int a2, .int (I (126 + 26) a2.toNatClampNeg), us, us, us, us], [.int q42], wT I R) o w := by
          intro q42
          refine D.run 2 rfl ?_
          refine D.br rfl (by decide) rfl (fun hc => ?_) (fun hc => ?_)
          · refine D.run 2 rfl ?_
            refine D.br rfl (by decide) rfl (fun hc => ?_) (fun hc => ?_)
            · refine D.run 2 rfl ?_
              refine D.st rfl (by decide) (gf_1 h82_4) ?_
              refine D.run 2 rfl ?_
              refine D.gd fun hg => ?_
              refine D.st rfl (by decide) (al_i (by decide) (by first | rfl | decide) hg.1 hg.2) ?_
              show _ → Rn E 220 (138, [.ref 82, .int a1, .int a2, .int (I (126 + 26) a2.toNatClampNeg), .int q42, us, us, us], [.int (I (126 + 29) a2.toNatClampNeg), .ref 82], wT I R) o w
              refine D.run 1 rfl ?_
              refine D.st rfl (by decide) (gf_1 h82_4) ?_
              refine D.run 1 rfl ?_
              refine D.call rfl rfl rfl rfl (fun q h => x216_ok (by decide) h82_4 h) (fun q43 => ?_)
              refine D.run 2 rfl ?_
              refine D.st rfl (by decide) (gf_1 h82_4) ?_
              show _ → Rn E 220 (154, [.ref 82, .int a1, .int a2, .int (I (126 + 26) a2.toNatClampNeg), .int q42, .int q43, us, us], [.ref 126], wT I R) o w
              refine D.run 3 rfl ?_
              refine D.gd fun hg => ?_
              refine D.st rfl (by decide) (as_i (by decide) (by first | rfl | decide) hg.1 hg.2) ?_
              refine D.run 2 rfl ?_
              refine D.br rfl (by decide) rfl (fun hc => ?_) (fun hc => ?_)
              · refine D.run 3 rfl ?_
                refine D.st rfl (by decide) (gf_1 h82_4) ?_
                refine D.run 2 rfl ?_
                refine D.gd fun hg => ?_
                refine D.st rfl (by decide) (al_i (by decide) (by first | rfl | decide) hg.1 hg.2) ?_
                show _ → Rn E 220 (178, [.ref 82, .int a1, .int a2, .int (I (126 + 26) a2.toNatClampNeg), .int q42, .int q43, us, us], [.int ((up2 I (126 + 33) a2.toNatClampNeg q43) (126 + 30) a2.toNatClampNeg), .int 2, .ref 82], wT (up2 I (126 + 33) a2.toNatClampNeg q43) R) o w
                refine D.call rfl rfl rfl rfl (fun q h => x217_ok h) (fun q44 => ?_)
                refine D.run 1 rfl ?_
                exact fun h => by obtain ⟨rfl, rfl⟩ := hT _ (D.some h); exact Rn.ret rfl rfl rfl
              · refine D.run 1 rfl ?_
                refine D.br rfl (by decide) rfl (fun hc => ?_) (fun hc => ?_)
                · exact fun h => by obtain ⟨rfl, rfl⟩ := hT _ (D.some h); exact Rn.ret rfl rfl rfl
                · refine D.run 1 rfl ?_
                  refine D.st rfl (by decide) (gf_1 h82_4) ?_
                  refine D.run 2 rfl ?_
                  refine D.gd fun hg => ?_
                  refine D.st rfl (by decide) (al_i (by decide) (by first | rfl | decide) hg.1 hg.2) ?_
                  show _ → Rn E 220 (198, [.ref 82, .int a1, .int a2, .int (I (126 + 26) a2.toNatClampNeg), .int q42, .int q43, us, us], [.int ((up2 I (126 + 33) a2.toNatClampNeg q43) (126 + 31) a2.toNatClampNeg)], wT (up2 I (126 + 33) a2.toNatClampNeg q43) R) o w
                  refine D.run 3 rfl ?_
                  have Kj268 : ∀ (q51 : Int32), Dq (if inb a2 2400 then if q51 = (-1) then if inb a2 2400 then (x217 (up2 (up2 I (126 + 33) a2.toNatClampNeg q43) (126 + 27) a2.toNatClampNeg q51) 2 ((up2 (up2 I (126 + 33) a2.toNatClampNeg q43) (126 + 27) a2.toNatClampNeg q51) (126 + 32) a2.toNatClampNeg)).bind fun q52 => some q52 else none else some (up2 (up2 I (126 + 33) a2.toNatClampNeg q43) (126 + 27) a2.toNatClampNeg q51) else none) T → Rn E 220 (268, [.ref 82, .int a1, .int a2, .int (I (126 + 26) a2.toNatClampNeg), .int q42, .int q43, .int ((up2 I (126 + 33) a2.toNatClampNeg q43) (126 + 31) a2.toNatClampNeg), us], [.int q51], wT (up2 I (126 + 33) a2.toNatClampNeg q43) R) o w := by
                    intro q51
                    refine D.run 2 rfl ?_
                    refine D.st rfl (by decide) (gf_1 h82_4) ?_
                    refine D.run 3 rfl ?_
                    refine D.gd fun hg => ?_
                    refine D.st rfl (by decide) (as_i (by decide) (by first | rfl | decide) hg.1 hg.2) ?_
                    show _ → Rn E 220 (281, [.ref 82, .int a1, .int a2, .int (I (126 + 26) a2.toNatClampNeg), .int q42, .int q43, .int ((up2 I (126 + 33) a2.toNatClampNeg q43) (126 + 31) a2.toNatClampNeg), .int q51], [], wT (up2 (up2 I (126 + 33) a2.toNatClampNeg q43) (126 + 27) a2.toNatClampNeg q51) R) o w
                    refine D.run 2 rfl ?_
                    refine D.br rfl (by decide) rfl (fun hc => ?_) (fun hc => ?_)
                    · refine D.run 3 rfl ?_
                      refine D.st rfl (by decide) (gf_1 h82_4) ?_
                      refine D.run 2 rfl ?_
                      refine D.gd fun hg => ?_
                      refine D.st rfl (by decide) (al_i (by decide) (by first | rfl | decide) hg.1 hg.2) ?_
                      show _ → Rn E 220 (298, [.ref 82, .int a1, .int a2, .int (I (126 + 26) a2.toNatClampNeg), .int q42, .int q43, .int ((up2 I (126 + 33) a2.toNatClampNeg q43) (126 + 31) a2.toNatClampNeg), .int q51], [.int ((up2 (up2 I (126 + 33) a2.toNatClampNeg q43) (126 + 27) a2.toNatClampNeg q51) (126 + 32) a2.toNatClampNeg), .int 2, .ref 82], wT (up2 (up2 I (126 + 33) a2.toNatClampNeg q43) (126 + 27) a2.toNatClampNeg q51) R) o w
                      refine D.call rfl rfl rfl rfl (fun q h => x217_ok h) (fun q52 => ?_)
                      exact fun h => by obtain ⟨rfl, rfl⟩ := hT _ (D.some h); exact Rn.ret rfl rfl rfl
                    · exact fun h => by obtain ⟨rfl, rfl⟩ := hT _ (D.some h); exact Rn.ret rfl rfl rfl
                  refine D.jn (fun T268 c268 => ?_)
                  refine D.br rfl (by decide) rfl (fun hc => ?_) (fun hc => ?_)
                  · refine D.run 3 rfl ?_
                    refine D.call rfl rfl rfl rfl (fun q h => x222_ok (by decide) h82_4 h) (fun q45 => ?_)
                    refine D.run 1 rfl ?_
                    exact fun h => Kj268 _   (c268 _ (D.some h))
                  · refine D.run 2 rfl ?_
                    refine D.br rfl (by decide) rfl (fun hc => ?_) (fun hc => ?_)
                    · refine D.run 3 rfl ?_
                      refine D.call rfl rfl rfl rfl (fun q h => x222_ok (by decide) h82_4 h) (fun q46 => ?_)
                      refine D.run 1 rfl ?_
                      exact fun h => Kj268 _   (c268 _ (D.some h))
                    · refine D.run 2 rfl ?_
                      refine D.br rfl (by decide) rfl (fun hc => ?_) (fun hc => ?_)
                      · refine D.run 3 rfl ?_
                        refine D.call rfl rfl rfl rfl (fun q h => x223_ok (by decide) h82_4 h) (fun q47 => ?_)
                        refine D.run 1 rfl ?_
                        exact fun h => Kj268 _   (c268 _ (D.some h))
                      · refine D.run 2 rfl ?_
                        refine D.br rfl (by decide) rfl (fun hc => ?_) (fun hc => ?_)
                        · refine D.run 3 rfl ?_
                          refine D.call rfl rfl rfl rfl (fun q h => x223_ok (by decide) h82_4 h) (fun q48 => ?_)
                          refine D.run 1 rfl ?_
                          exact fun h => Kj268 _   (c268 _ (D.some h))
                        · refine D.run 1 rfl ?_
                          refine D.st rfl (by decide) (gf_1 h82_4) ?_
                          refine D.run 4 rfl ?_
                          have Kj265 : ∀ (q49 : Int32), Dq ((x219 126 (up2 I (126 + 33) a2.toNatClampNeg q43) q43 ((up2 I (126 + 33) a2.toNatClampNeg q43) (126 + 31) a2.toNatClampNeg) q49).bind fun q50 => some q50) T268 → Rn E 220 (265, [.ref 82, .int a1, .int a2, .int (I (126 + 26) a2.toNatClampNeg), .int q42, .int q43, .int ((up2 I (126 + 33) a2.toNatClampNeg q43) (126 + 31) a2.toNatClampNeg), us], [.int q49, .int ((up2 I (126 + 33) a2.toNatClampNeg q43) (126 + 31) a2.toNatClampNeg), .int q43, .ref 126], wT (up2 I (126 + 33) a2.toNatClampNeg q43) R) o w := by
                            intro q49
                            refine D.call rfl rfl rfl rfl (fun q h => x219_ok (by decide) h) (fun q50 => ?_)
                            exact fun h => Kj268 _   (c268 _ (D.some h))
                          refine D.jn (fun T265 c265 => ?_)
                          refine D.br rfl (by decide) rfl (fun hc => ?_) (fun hc => ?_)
                          · refine D.run 2 rfl ?_
                            exact fun h => Kj265 _   (c265 _ (D.some h))
                          · refine D.run 1 rfl ?_
                            exact fun h => Kj265 _   (c265 _ (D.some h))
            · refine D.run 2 rfl ?_
              refine D.br rfl (by decide) rfl (fun hc => ?_) (fun hc => ?_)
              · refine D.run 2 rfl ?_
                refine D.st rfl (by decide) (gf_1 h82_4) ?_
                refine D.run 2 rfl ?_
                refine D.gd fun hg => ?_
                refine D.st rfl (by decide) (al_i (by decide) (by first | rfl | decide) hg.1 hg.2) ?_
                show _ → Rn E 220 (138, [.ref 82, .int a1, .int a2, .int (I (126 + 26) a2.toNatClampNeg), .int q42, us, us, us], [.int (I (126 + 29) a2.toNatClampNeg), .ref 82], wT I R) o w
                refine D.run 1 rfl ?_
                refine D.st rfl (by decide) (gf_1 h82_4) ?_
                refine D.run 1 rfl ?_
                refine D.call rfl rfl rfl rfl (fun q h => x216_ok (by decide) h82_4 h) (fun q53 => ?_)
                refine D.run 2 rfl ?_
                refine D.st rfl (by decide) (gf_1 h82_4) ?_
                show _ → Rn E 220 (154, [.ref 82, .int a1, .int a2, .int (I (126 + 26) a2.toNatClampNeg), .int q42, .int q53, us, us], [.ref 126], wT I R) o w
                refine D.run 3 rfl ?_
                refine D.gd fun hg => ?_
                refine D.st rfl (by decide) (as_i (by decide) (by first | rfl | decide) hg.1 hg.2) ?_
                refine D.run 2 rfl ?_
                refine D.br rfl (by decide) rfl (fun hc => ?_) (fun hc => ?_)
                · refine D.run 3 rfl ?_
                  refine D.st rfl (by decide) (gf_1 h82_4) ?_
                  refine D.run 2 rfl ?_
                  refine D.gd fun hg => ?_
                  refine D.st rfl (by decide) (al_i (by decide) (by first | rfl | decide) hg.1 hg.2) ?_
                  show _ → Rn E 220 (178, [.ref 82, .int a1, .int a2, .int (I (126 + 26) a2.toNatClampNeg), .int q42, .int q53, us, us], [.int ((up2 I (126 + 33) a2.toNatClampNeg q53) (126 + 30) a2.toNatClampNeg), .int 2, .ref 82], wT (up2 I (126 + 33) a2.toNatClampNeg q53) R) o w
                  refine D.call rfl rfl rfl rfl (fun q h => x217_ok h) (fun q54 => ?_)
                  refine D.run 1 rfl ?_
                  exact fun h => by obtain ⟨rfl, rfl⟩ := hT _ (D.some h); exact Rn.ret rfl rfl rfl
                · refine D.run 1 rfl ?_
                  refine D.br rfl (by decide) rfl (fun hc => ?_) (fun hc => ?_)
                  · exact fun h => by obtain ⟨rfl, rfl⟩ := hT _ (D.some h); exact Rn.ret rfl rfl rfl
                  · refine D.run 1 rfl ?_
                    refine D.st rfl (by decide) (gf_1 h82_4) ?_
                    refine D.run 2 rfl ?_
                    refine D.gd fun hg => ?_
                    refine D.st rfl (by decide) (al_i (by decide) (by first | rfl | decide) hg.1 hg.2) ?_
                    show _ → Rn E 220 (198, [.ref 82, .int a1, .int a2, .int (I (126 + 26) a2.toNatClampNeg), .int q42, .int q53, us, us], [.int ((up2 I (126 + 33) a2.toNatClampNeg q53) (126 + 31) a2.toNatClampNeg)], wT (up2 I (126 + 33) a2.toNatClampNeg q53) R) o w
                    refine D.run 3 rfl ?_
                    have Kj268 : ∀ (q61 : Int32), Dq (if inb a2 2400 then if q61 = (-1) then if inb a2 2400 then (x217 (up2 (up2 I (126 + 33) a2.toNatClampNeg q53) (126 + 27) a2.toNatClampNeg q61) 2 ((up2 (up2 I (126 + 33) a2.toNatClampNeg q53) (126 + 27) a2.toNatClampNeg q61) (126 + 32) a2.toNatClampNeg)).bind fun q62 => some q62 else none else some (up2 (up2 I (126 + 33) a2.toNatClampNeg q53) (126 + 27) a2.toNatClampNeg q61) else none) T → Rn E 220 (268, [.ref 82, .int a1, .int a2, .int (I (126 + 26) a2.toNatClampNeg), .int q42, .int q53, .int ((up2 I (126 + 33) a2.toNatClampNeg q53) (126 + 31) a2.toNatClampNeg), us], [.int q61], wT (up2 I (126 + 33) a2.toNatClampNeg q53) R) o w := by
                      intro q61
                      refine D.run 2 rfl ?_
                      refine D.st rfl (by decide) (gf_1 h82_4) ?_
                      refine D.run 3 rfl ?_
                      refine D.gd fun hg => ?_
                      refine D.st rfl (by decide) (as_i (by decide) (by first | rfl | decide) hg.1 hg.2) ?_
                      show _ → Rn E 220 (281, [.ref 82, .int a1, .int a2, .int (I (126 + 26) a2.toNatClampNeg), .int q42, .int q53, .int ((up2 I (126 + 33) a2.toNatClampNeg q53) (126 + 31) a2.toNatClampNeg), .int q61], [], wT (up2 (up2 I (126 + 33) a2.toNatClampNeg q53) (126 + 27) a2.toNatClampNeg q61) R) o w
                      refine D.run 2 rfl ?_
                      refine D.br rfl (by decide) rfl (fun hc => ?_) (fun hc => ?_)
                      · refine D.run 3 rfl ?_
                        refine D.st rfl (by decide) (gf_1 h82_4) ?_
                        refine D.run 2 rfl ?_
                        refine D.gd fun hg => ?_
                        refine D.st rfl (by decide) (al_i (by decide) (by first | rfl | decide) hg.1 hg.2) ?_
                        show _ → Rn E 220 (298, [.ref 82, .int a1, .int a2, .int (I (126 + 26) a2.toNatClampNeg), .int q42, .int q53, .int ((up2 I (126 + 33) a2.toNatClampNeg q53) (126 + 31) a2.toNatClampNeg), .int q61], [.int ((up2 (up2 I (126 + 33) a2.toNatClampNeg q53) (126 + 27) a2.toNatClampNeg q61) (126 + 32) a2.toNatClampNeg), .int 2, .ref 82], wT (up2 (up2 I (126 + 33) a2.toNatClampNeg q53) (126 + 27) a2.toNatClampNeg q61) R) o w
                        refine D.call rfl rfl rfl rfl (fun q h => x217_ok h) (fun q62 => ?_)
                        exact fun h => by obtain ⟨rfl, rfl⟩ := hT _ (D.some h); exact Rn.ret rfl rfl rfl
                      · exact fun h => by obtain ⟨rfl, rfl⟩ := hT _ (D.some h); exact Rn.ret rfl rfl rfl
                    refine D.jn (fun T268 c268 => ?_)
                    refine D.br rfl (by decide) rfl (fun hc => ?_) (fun hc => ?_)
                    · refine D.run 3 rfl ?_
                      refine D.call rfl rfl rfl rfl (fun q h => x222_ok (by decide) h82_4 h) (fun q55 => ?_)
                      refine D.run 1 rfl ?_
                      exact fun h => Kj268 _   (c268 _ (D.some h))
                    · refine D.run 2 rfl ?_
                      refine D.br rfl (by decide) rfl (fun hc => ?_) (fun hc => ?_)
                      · refine D.run 3 rfl ?_
                        refine D.call rfl rfl rfl rfl (fun q h => x222_ok (by decide) h82_4 h) (fun q56 => ?_)
                        refine D.run 1 rfl ?_
                        exact fun h => Kj268 _   (c268 _ (D.some h))
                      · refine D.run 2 rfl ?_
                        refine D.br rfl (by decide) rfl (fun hc => ?_) (fun hc => ?_)
                        · refine D.run 3 rfl ?_
                          refine D.call rfl rfl rfl rfl (fun q h => x223_ok (by decide) h82_4 h) (fun q57 => ?_)
                          refine D.run 1 rfl ?_
                          exact fun h => Kj268 _   (c268 _ (D.some h))
                        · refine D.run 2 rfl ?_
                          refine D.br rfl (by decide) rfl (fun hc => ?_) (fun hc => ?_)
                          · refine D.run 3 rfl ?_
                            refine D.call rfl rfl rfl rfl (fun q h => x223_ok (by decide) h82_4 h) (fun q58 => ?_)
                            refine D.run 1 rfl ?_
                            exact fun h => Kj268 _   (c268 _ (D.some h))
                          · refine D.run 1 rfl ?_
                            refine D.st rfl (by decide) (gf_1 h82_4) ?_
                            refine D.run 4 rfl ?_
                            have Kj265 : ∀ (q59 : Int32), Dq ((x219 126 (up2 I (126 + 33) a2.toNatClampNeg q53) q53 ((up2 I (126 + 33) a2.toNatClampNeg q53) (126 + 31) a2.toNatClampNeg) q59).bind fun q60 => some q60) T268 → Rn E 220 (265, [.ref 82, .int a1, .int a2, .int (I (126 + 26) a2.toNatClampNeg), .int q42, .int q53, .int ((up2 I (126 + 33) a2.toNatClampNeg q53) (126 + 31) a2.toNatClampNeg), us], [.int q59, .int ((up2 I (126 + 33) a2.toNatClampNeg q53) (126 + 31) a2.toNatClampNeg), .int q53, .ref 126], wT (up2 I (126 + 33) a2.toNatClampNeg q53) R) o w := by
                              intro q59
                              refine D.call rfl rfl rfl rfl (fun q h => x219_ok (by decide) h) (fun q60 => ?_)
                              exact fun h => Kj268 _   (c268 _ (D.some h))
                            refine D.jn (fun T265 c265 => ?_)
                            refine D.br rfl (by decide) rfl (fun hc => ?_) (fun hc => ?_)
                            · refine D.run 2 rfl ?_
                              exact fun h => Kj265 _   (c265 _ (D.some h))
                            · refine D.run 1 rfl ?_
                              exact fun h => Kj265 _   (c265 _ (D.some h))
              · refine D.run 2 rfl ?_
                refine D.br rfl (by decide) rfl (fun hc => ?_) (fun hc => ?_)
                · refine D.run 2 rfl ?_
                  refine D.st rfl (by decide) (gf_1 h82_4) ?_
                  refine D.run 2 rfl ?_
                  refine D.gd fun hg => ?_
                  refine D.st rfl (by decide) (al_i (by decide) (by first | rfl | decide) hg.1 hg.2) ?_
                  show _ → Rn E 220 (138, [.ref 82, .int a1, .int a2, .int (I (126 + 26) a2.toNatClampNeg), .int q42, us, us, us], [.int (I (126 + 29) a2.toNatClampNeg), .ref 82], wT I R) o w
                  refine D.run 1 rfl ?_
                  refine D.st rfl (by decide) (gf_1 h82_4) ?_
                  refine D.run 1 rfl ?_
                  refine D.call rfl rfl rfl rfl (fun q h => x216_ok (by decide) h82_4 h) (fun q63 => ?_)
                  refine D.run 2 rfl ?_
                  refine D.st rfl (by decide) (gf_1 h82_4) ?_
                  show _ → Rn E 220 (154, [.ref 82, .int a1, .int a2, .int (I (126 + 26) a2.toNatClampNeg), .int q42, .int q63, us, us], [.ref 126], wT I R) o w
                  refine D.run 3 rfl ?_
                  refine D.gd fun hg => ?_
                  refine D.st rfl (by decide) (as_i (by decide) (by first | rfl | decide) hg.1 hg.2) ?_
                  refine D.run 2 rfl ?_
                  refine D.br rfl (by decide) rfl (fun hc => ?_) (fun hc => ?_)
                  · refine D.run 3 rfl ?_
                    refine D.st rfl (by decide) (gf_1 h82_4) ?_
                    refine D.run 2 rfl ?_
                    refine D.gd fun hg => ?_
                    refine D.st rfl (by decide) (al_i (by decide) (by first | rfl | decide) hg.1 hg.2) ?_
                    show _ → Rn E 220 (178, [.ref 82, .int a1, .int a2, .int (I (126 + 26) a2.toNatClampNeg), .int q42, .int q63, us, us], [.int ((up2 I (126 + 33) a2.toNatClampNeg q63) (126 + 30) a2.toNatClampNeg), .int 2, .ref 82], wT (up2 I (126 + 33) a2.toNatClampNeg q63) R) o w
                    refine D.call rfl rfl rfl rfl (fun q h => x217_ok h) (fun q64 => ?_)
                    refine D.run 1 rfl ?_
                    exact fun h => by obtain ⟨rfl, rfl⟩ := hT _ (D.some h); exact Rn.ret rfl rfl rfl
                  · refine D.run 1 rfl ?_
                    refine D.br rfl (by decide) rfl (fun hc => ?_) (fun hc => ?_)
                    · exact fun h => by obtain ⟨rfl, rfl⟩ := hT _ (D.some h); exact Rn.ret rfl rfl rfl
                    · refine D.run 1 rfl ?_
                      refine D.st rfl (by decide) (gf_1 h82_4) ?_
                      refine D.run 2 rfl ?_
                      refine D.gd fun hg => ?_
                      refine D.st rfl (by decide) (al_i (by decide) (by first | rfl | decide) hg.1 hg.2) ?_
                      show _ → Rn E 220 (198, [.ref 82, .int a1, .int a2, .int (I (126 + 26) a2.toNatClampNeg), .int q42, .int q63, us, us], [.int ((up2 I (126 + 33) a2.toNatClampNeg q63) (126 + 31) a2.toNatClampNeg)], wT (up2 I (126 + 33) a2.toNatClampNeg q63) R) o w
                      refine D.run 3 rfl ?_
                      have Kj268 : ∀ (q71 : Int32), Dq (if inb a2 2400 then if q71 = (-1) then if inb a2 2400 then (x217 (up2 (up2 I (126 + 33) a2.toNatClampNeg q63) (126 + 27) a2.toNatClampNeg q71) 2 ((up2 (up2 I (126 + 33) a2.toNatClampNeg q63) (126 + 27) a2.toNatClampNeg q71) (126 + 32) a2.toNatClampNeg)).bind fun q72 => some q72 else none else some (up2 (up2 I (126 + 33) a2.toNatClampNeg q63) (126 + 27) a2.toNatClampNeg q71) else none) T → Rn E 220 (268, [.ref 82, .int a1, .int a2, .int (I (126 + 26) a2.toNatClampNeg), .int q42, .int q63, .int ((up2 I (126 + 33) a2.toNatClampNeg q63) (126 + 31) a2.toNatClampNeg), us], [.int q71], wT (up2 I (126 + 33) a2.toNatClampNeg q63) R) o w := by
                        intro q71
                        refine D.run 2 rfl ?_
                        refine D.st rfl (by decide) (gf_1 h82_4) ?_
                        refine D.run 3 rfl ?_
                        refine D.gd fun hg => ?_
                        refine D.st rfl (by decide) (as_i (by decide) (by first | rfl | decide) hg.1 hg.2) ?_
                        show _ → Rn E 220 (281, [.ref 82, .int a1, .int a2, .int (I (126 + 26) a2.toNatClampNeg), .int q42, .int q63, .int ((up2 I (126 + 33) a2.toNatClampNeg q63) (126 + 31) a2.toNatClampNeg), .int q71], [], wT (up2 (up2 I (126 + 33) a2.toNatClampNeg q63) (126 + 27) a2.toNatClampNeg q71) R) o w
                        refine D.run 2 rfl ?_
                        refine D.br rfl (by decide) rfl (fun hc => ?_) (fun hc => ?_)
                        · refine D.run 3 rfl ?_
                          refine D.st rfl (by decide) (gf_1 h82_4) ?_
                          refine D.run 2 rfl ?_
                          refine D.gd fun hg => ?_
                          refine D.st rfl (by decide) (al_i (by decide) (by first | rfl | decide) hg.1 hg.2) ?_
                          show _ → Rn E 220 (298, [.ref 82, .int a1, .int a2, .int (I (126 + 26) a2.toNatClampNeg), .int q42, .int q63, .int ((up2 I (126 + 33) a2.toNatClampNeg q63) (126 + 31) a2.toNatClampNeg), .int q71], [.int ((up2 (up2 I (126 + 33) a2.toNatClampNeg q63) (126 + 27) a2.toNatClampNeg q71) (126 + 32) a2.toNatClampNeg), .int 2, .ref 82], wT (up2 (up2 I (126 + 33) a2.toNatClampNeg q63) (126 + 27) a2.toNatClampNeg q71) R) o w
                          refine D.call rfl rfl rfl rfl (fun q h => x217_ok h) (fun q72 => ?_)
                          exact fun h => by obtain ⟨rfl, rfl⟩ := hT _ (D.some h); exact Rn.ret rfl rfl rfl
                        · exact fun h => by obtain ⟨rfl, rfl⟩ := hT _ (D.some h); exact Rn.ret rfl rfl rfl
                      refine D.jn (fun T268 c268 => ?_)
                      refine D.br rfl (by decide) rfl (fun hc => ?_) (fun hc => ?_)
                      · refine D.run 3 rfl ?_
                        refine D.call rfl rfl rfl rfl (fun q h => x222_ok (by decide) h82_4 h) (fun q65 => ?_)
                        refine D.run 1 rfl ?_
                        exact fun h => Kj268 _   (c268 _ (D.some h))
                      · refine D.run 2 rfl ?_
                        refine D.br rfl (by decide) rfl (fun hc => ?_) (fun hc => ?_)
                        · refine D.run 3 rfl ?_
                          refine D.call rfl rfl rfl rfl (fun q h => x222_ok (by decide) h82_4 h) (fun q66 => ?_)
                          refine D.run 1 rfl ?_
                          exact fun h => Kj268 _   (c268 _ (D.some h))
                        · refine D.run 2 rfl ?_
                          refine D.br rfl (by decide) rfl (fun hc => ?_) (fun hc => ?_)
                          · refine D.run 3 rfl ?_
                            refine D.call rfl rfl rfl rfl (fun q h => x223_ok (by decide) h82_4 h) (fun q67 => ?_)
                            refine D.run 1 rfl ?_
                            exact fun h => Kj268 _   (c268 _ (D.some h))
                          · refine D.run 2 rfl ?_
                            refine D.br rfl (by decide) rfl (fun hc => ?_) (fun hc => ?_)
                            · refine D.run 3 rfl ?_
                              refine D.call rfl rfl rfl rfl (fun q h => x223_ok (by decide) h82_4 h) (fun q68 => ?_)
                              refine D.run 1 rfl ?_
                              exact fun h => Kj268 _   (c268 _ (D.some h))
                            · refine D.run 1 rfl ?_
                              refine D.st rfl (by decide) (gf_1 h82_4) ?_
                              refine D.run 4 rfl ?_
                              have Kj265 : ∀ (q69 : Int32), Dq ((x219 126 (up2 I (126 + 33) a2.toNatClampNeg q63) q63 ((up2 I (126 + 33) a2.toNatClampNeg q63) (126 + 31) a2.toNatClampNeg) q69).bind fun q70 => some q70) T268 → Rn E 220 (265, [.ref 82, .int a1, .int a2, .int (I (126 + 26) a2.toNatClampNeg), .int q42, .int q63, .int ((up2 I (126 + 33) a2.toNatClampNeg q63) (126 + 31) a2.toNatClampNeg), us], [.int q69, .int ((up2 I (126 + 33) a2.toNatClampNeg q63) (126 + 31) a2.toNatClampNeg), .int q63, .ref 126], wT (up2 I (126 + 33) a2.toNatClampNeg q63) R) o w := by
                                intro q69
                                refine D.call rfl rfl rfl rfl (fun q h => x219_ok (by decide) h) (fun q70 => ?_)
                                exact fun h => Kj268 _   (c268 _ (D.some h))
                              refine D.jn (fun T265 c265 => ?_)
                              refine D.br rfl (by decide) rfl (fun hc => ?_) (fun hc => ?_)
                              · refine D.run 2 rfl ?_
                                exact fun h => Kj265 _   (c265 _ (D.some h))
                              · refine D.run 1 rfl ?_
                                exact fun h => Kj265 _   (c265 _ (D.some h))
                · exact fun h => by obtain ⟨rfl, rfl⟩ := hT _ (D.some h); exact Rn.ret rfl rfl rfl
          · refine D.run 2 rfl ?_
            refine D.st rfl (by decide) (gf_1 h82_4) ?_
            refine D.run 2 rfl ?_
            refine D.gd fun hg => ?_
            refine D.st rfl (by decide) (al_i (by decide) (by first | rfl | decide) hg.1 hg.2) ?_
            show _ → Rn E 220 (138, [.ref 82, .int a1, .int a2, .int (I (126 + 26) a2.toNatClampNeg), .int q42, us, us, us], [.int (I (126 + 29) a2.toNatClampNeg), .ref 82], wT I R) o w
            refine D.run 1 rfl ?_
            refine D.st rfl (by decide) (gf_1 h82_4) ?_
            refine D.run 1 rfl ?_
            refine D.call rfl rfl rfl rfl (fun q h => x216_ok (by decide) h82_4 h) (fun q73 => ?_)
            refine D.run 2 rfl ?_
            refine D.st rfl (by decide) (gf_1 h82_4) ?_
            show _ → Rn E 220 (154, [.ref 82, .int a1, .int a2, .int (I (126 + 26) a2.toNatClampNeg), .int q42, .int q73, us, us], [.ref 126], wT I R) o w
            refine D.run 3 rfl ?_
            refine D.gd fun hg => ?_
            refine D.st rfl (by decide) (as_i (by decide) (by first | rfl | decide) hg.1 hg.2) ?_
            refine D.run 2 rfl ?_
            refine D.br rfl (by decide) rfl (fun hc => ?_) (fun hc => ?_)
            · refine D.run 3 rfl ?_
              refine D.st rfl (by decide) (gf_1 h82_4) ?_
              refine D.run 2 rfl ?_
              refine D.gd fun hg => ?_
              refine D.st rfl (by decide) (al_i (by decide) (by first | rfl | decide) hg.1 hg.2) ?_
              show _ → Rn E 220 (178, [.ref 82, .int a1, .int a2, .int (I (126 + 26) a2.toNatClampNeg), .int q42, .int q73, us, us], [.int ((up2 I (126 + 33) a2.toNatClampNeg q73) (126 + 30) a2.toNatClampNeg), .int 2, .ref 82], wT (up2 I (126 + 33) a2.toNatClampNeg q73) R) o w
              refine D.call rfl rfl rfl rfl (fun q h => x217_ok h) (fun q74 => ?_)
              refine D.run 1 rfl ?_
              exact fun h => by obtain ⟨rfl, rfl⟩ := hT _ (D.some h); exact Rn.ret rfl rfl rfl
            · refine D.run 1 rfl ?_
              refine D.br rfl (by decide) rfl (fun hc => ?_) (fun hc => ?_)
              · exact fun h => by obtain ⟨rfl, rfl⟩ := hT _ (D.some h); exact Rn.ret rfl rfl rfl
              · refine D.run 1 rfl ?_
                refine D.st rfl (by decide) (gf_1 h82_4) ?_
                refine D.run 2 rfl ?_
                refine D.gd fun hg => ?_
                refine D.st rfl (by decide) (al_i (by decide) (by first | rfl | decide) hg.1 hg.2) ?_
                show _ → Rn E 220 (198, [.ref 82, .int a1, .int a2, .int (I (126 + 26) a2.toNatClampNeg), .int q42, .int q73, us, us], [.int ((up2 I (126 + 33) a2.toNatClampNeg q73) (126 + 31) a2.toNatClampNeg)], wT (up2 I (126 + 33) a2.toNatClampNeg q73) R) o w
                refine D.run 3 rfl ?_
                have Kj268 : ∀ (q81 : Int32), Dq (if inb a2 2400 then if q81 = (-1) then if inb a2 2400 then (x217 (up2 (up2 I (126 + 33) a2.toNatClampNeg q73) (126 + 27) a2.toNatClampNeg q81) 2 ((up2 (up2 I (126 + 33) a2.toNatClampNeg q73) (126 + 27) a2.toNatClampNeg q81) (126 + 32) a2.toNatClampNeg)).bind fun q82 => some q82 else none else some (up2 (up2 I (126 + 33) a2.toNatClampNeg q73) (126 + 27) a2.toNatClampNeg q81) else none) T → Rn E 220 (268, [.ref 82, .int a1, .int a2, .int (I (126 + 26) a2.toNatClampNeg), .int q42, .int q73, .int ((up2 I (126 + 33) a2.toNatClampNeg q73) (126 + 31) a2.toNatClampNeg), us], [.int q81], wT (up2 I (126 + 33) a2.toNatClampNeg q73) R) o w := by
                  intro q81
                  refine D.run 2 rfl ?_
                  refine D.st rfl (by decide) (gf_1 h82_4) ?_
                  refine D.run 3 rfl ?_
                  refine D.gd fun hg => ?_
                  refine D.st rfl (by decide) (as_i (by decide) (by first | rfl | decide) hg.1 hg.2) ?_
                  show _ → Rn E 220 (281, [.ref 82, .int a1, .int a2, .int (I (126 + 26) a2.toNatClampNeg), .int q42, .int q73, .int ((up2 I (126 + 33) a2.toNatClampNeg q73) (126 + 31) a2.toNatClampNeg), .int q81], [], wT (up2 (up2 I (126 + 33) a2.toNatClampNeg q73) (126 + 27) a2.toNatClampNeg q81) R) o w
                  refine D.run 2 rfl ?_
                  refine D.br rfl (by decide) rfl (fun hc => ?_) (fun hc => ?_)
                  · refine D.run 3 rfl ?_
                    refine D.st rfl (by decide) (gf_1 h82_4) ?_
                    refine D.run 2 rfl ?_
                    refine D.gd fun hg => ?_
                    refine D.st rfl (by decide) (al_i (by decide) (by first | rfl | decide) hg.1 hg.2) ?_
                    show _ → Rn E 220 (298, [.ref 82, .int a1, .int a2, .int (I (126 + 26) a2.toNatClampNeg), .int q42, .int q73, .int ((up2 I (126 + 33) a2.toNatClampNeg q73) (126 + 31) a2.toNatClampNeg), .int q81], [.int ((up2 (up2 I (126 + 33) a2.toNatClampNeg q73) (126 + 27) a2.toNatClampNeg q81) (126 + 32) a2.toNatClampNeg), .int 2, .ref 82], wT (up2 (up2 I (126 + 33) a2.toNatClampNeg q73) (126 + 27) a2.toNatClampNeg q81) R) o w
                    refine D.call rfl rfl rfl rfl (fun q h => x217_ok h) (fun q82 => ?_)
                    exact fun h => by obtain ⟨rfl, rfl⟩ := hT _ (D.some h); exact Rn.ret rfl rfl rfl
                  · exact fun h => by obtain ⟨rfl, rfl⟩ := hT _ (D.some h); exact Rn.ret rfl rfl rfl
                refine D.jn (fun T268 c268 => ?_)
                refine D.br rfl (by decide) rfl (fun hc => ?_) (fun hc => ?_)
                · refine D.run 3 rfl ?_
                  refine D.call rfl rfl rfl rfl (fun q h => x222_ok (by decide) h82_4 h) (fun q75 => ?_)
                  refine D.run 1 rfl ?_
                  exact fun h => Kj268 _   (c268 _ (D.some h))
                · refine D.run 2 rfl ?_
                  refine D.br rfl (by decide) rfl (fun hc => ?_) (fun hc => ?_)
                  · refine D.run 3 rfl ?_
                    refine D.call rfl rfl rfl rfl (fun q h => x222_ok (by decide) h82_4 h) (fun q76 => ?_)
                    refine D.run 1 rfl ?_
                    exact fun h => Kj268 _   (c268 _ (D.some h))
                  · refine D.run 2 rfl ?_
                    refine D.br rfl (by decide) rfl (fun hc => ?_) (fun hc => ?_)
                    · refine D.run 3 rfl ?_
                      refine D.call rfl rfl rfl rfl (fun q h => x223_ok (by decide) h82_4 h) (fun q77 => ?_)
                      refine D.run 1 rfl ?_
                      exact fun h => Kj268 _   (c268 _ (D.some h))
                    · refine D.run 2 rfl ?_
                      refine D.br rfl (by decide) rfl (fun hc => ?_) (fun hc => ?_)
                      · refine D.run 3 rfl ?_
                        refine D.call rfl rfl rfl rfl (fun q h => x223_ok (by decide) h82_4 h) (fun q78 => ?_)
                        refine D.run 1 rfl ?_
                        exact fun h => Kj268 _   (c268 _ (D.some h))
                      · refine D.run 1 rfl ?_
                        refine D.st rfl (by decide) (gf_1 h82_4) ?_
                        refine D.run 4 rfl ?_
                        have Kj265 : ∀ (q79 : Int32), Dq ((x219 126 (up2 I (126 + 33) a2.toNatClampNeg q73) q73 ((up2 I (126 + 33) a2.toNatClampNeg q73) (126 + 31) a2.toNatClampNeg) q79).bind fun q80 => some q80) T268 → Rn E 220 (265, [.ref 82, .int a1, .int a2, .int (I (126 + 26) a2.toNatClampNeg), .int q42, .int q73, .int ((up2 I (126 + 33) a2.toNatClampNeg q73) (126 + 31) a2.toNatClampNeg), us], [.int q79, .int ((up2 I (126 + 33) a2.toNatClampNeg q73) (126 + 31) a2.toNatClampNeg), .int q73, .ref 126], wT (up2 I (126 + 33) a2.toNatClampNeg q73) R) o w := by
                          intro q79
                          refine D.call rfl rfl rfl rfl (fun q h => x219_ok (by decide) h) (fun q80 => ?_)
                          exact fun h => Kj268 _   (c268 _ (D.some h))
                        refine D.jn (fun T265 c265 => ?_)
                        refine D.br rfl (by decide) rfl (fun hc => ?_) (fun hc => ?_)
                        · refine D.run 2 rfl ?_
                          exact fun h => Kj265 _   (c265 _ (D.some h))
                        · refine D.run 1 rfl ?_
                          exact fun h => Kj265 _   (c265 _ (D.some h))
        refine D.jn (fun T102 c102 => ?_)
        refine D.br rfl (by decide) rfl (fun hc => ?_) (fun hc => ?_)
        · refine D.run 2 rfl ?_
          refine D.br rfl (by decide) rfl (fun hc => ?_) (fun hc => ?_)
          · refine D.run 2 rfl ?_
            exact fun h => Kj102 _   (c102 _ (D.some h))
          · refine D.run 2 rfl ?_
            refine D.br rfl (by decide) rfl (fun hc => ?_) (fun hc => ?_)
            · refine D.run 2 rfl ?_
              exact fun h => Kj102 _   (c102 _ (D.some h))
            · refine D.run 1 rfl ?_
              exact fun h => Kj102 _   (c102 _ (D.some h))
        · refine D.run 2 rfl ?_
          refine D.br rfl (by decide) rfl (fun hc => ?_) (fun hc => ?_)
          · refine D.run 2 rfl ?_
            exact fun h => Kj102 _   (c102 _ (D.some h))
          · refine D.run 2 rfl ?_
            refine D.br rfl (by decide) rfl (fun hc => ?_) (fun hc => ?_)
            · refine D.run 2 rfl ?_
              exact fun h => Kj102 _   (c102 _ (D.some h))
            · refine D.run 2 rfl ?_
              refine D.br rfl (by decide) rfl (fun hc => ?_) (fun hc => ?_)
              · refine D.run 2 rfl ?_
                exact fun h => Kj102 _   (c102 _ (D.some h))
              · refine D.run 1 rfl ?_
                exact fun h => Kj102 _   (c102 _ (D.some h))
      · refine D.run 1 rfl ?_
        refine D.st rfl (by decide) (gf_1 h82_4) ?_
        refine D.run 5 rfl ?_
        refine D.st rfl (by decide) (gf_1 h82_4) ?_
        refine D.run 2 rfl ?_
        refine D.gd fun hg => ?_
        refine D.st rfl (by decide) (al_i (by decide) (by first | rfl | decide) hg.1 hg.2) ?_
        show _ → Rn E 220 (41, [.ref 82, .int a1, .int a2, .int (I (126 + 26) a2.toNatClampNeg), us, us, us, us], [.int (I (126 + 29) a2.toNatClampNeg), .int a1, .ref 82, .int a2, .ref (126 + 33)], wT I R) o w
        refine D.call rfl rfl rfl rfl (fun q h => x221_ok (by decide) h82_4 h) (fun q83 => ?_)
        refine D.gd fun hg => ?_
        refine D.st rfl (by decide) (as_i (by decide) (by first | rfl | decide) hg.1 hg.2) ?_
        refine D.run 1 rfl ?_
        refine D.st rfl (by decide) (gf_1 h82_4) ?_
        show _ → Rn E 220 (49, [.ref 82, .int a1, .int a2, .int (I (126 + 26) a2.toNatClampNeg), us, us, us, us], [.ref 126], wT (up2 I (126 + 33) a2.toNatClampNeg q83) R) o w
        refine D.run 2 rfl ?_
        refine D.gd fun hg => ?_
        refine D.st rfl (by decide) (al_i (by decide) (by first | rfl | decide) hg.1 hg.2) ?_
        refine D.run 1 rfl ?_
        refine D.br rfl (by decide) rfl (fun hc => ?_) (fun hc => ?_)
        · refine D.run 3 rfl ?_
          refine D.st rfl (by decide) (gf_1 h82_4) ?_
          refine D.run 2 rfl ?_
          refine D.gd fun hg => ?_
          refine D.st rfl (by decide) (al_i (by decide) (by first | rfl | decide) hg.1 hg.2) ?_
          show _ → Rn E 220 (69, [.ref 82, .int a1, .int a2, .int (I (126 + 26) a2.toNatClampNeg), us, us, us, us], [.int ((up2 I (126 + 33) a2.toNatClampNeg q83) (126 + 30) a2.toNatClampNeg), .int 2, .ref 82], wT (up2 I (126 + 33) a2.toNatClampNeg q83) R) o w
          refine D.call rfl rfl rfl rfl (fun q h => x217_ok h) (fun q84 => ?_)
          exact fun h => by obtain ⟨rfl, rfl⟩ := hT _ (D.some h); exact Rn.ret rfl rfl rfl
        · exact fun h => by obtain ⟨rfl, rfl⟩ := hT _ (D.some h); exact Rn.ret rfl rfl rfl
set_option maxRecDepth 20000 in
theorem x220_ok {E : Xe} {R : Nat → Nat → Option Nat} {Z : Nat} {I : St} (hZ : Z = 85 ∨ Z = 126) (h82_4 : R 82 4 = some Z) {a1 a2 : Int32} {q : St} (h : x220 Z I a1 a2 = some q) : Rn E 220 (0, loc0 220 [.ref 82, .int a1, .int a2], [], wT I R) (.returned none) (wT q R) := x220_D hZ h82_4 _ _ (T := fun r => r = q) (by rintro r rfl; exact ⟨rfl, rfl⟩) ⟨_, h, rfl⟩
