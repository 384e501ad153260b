section QF
variable {X : Cx} {cc : ByteArray} {own : String} {ret : Option FieldType} {nL k n pc : Nat} {lv : List (Nat × Value)} {st : List Value} {ws : va_W}
theorem q_fmod (g : Gd X cc own ret nL) (ix : Nat) {x y : Int} (hx : r64 x) (hy : r64 y) (h0 : 0 < y) (w1 : Cond.methodLink own ix yJ9_floorMod_f86c9 ∈ TT) (w2 : Cond.static yJ9_floorMod_f86c9 ∈ TT) (w3 : Cond.initialized "java/lang/Math" ∈ TT) (w4 : Cond.code yJ9_floorMod_f86c9 cJ9_floorMod_f86c9 6 (some .long) ∈ TT) (hroom : 1 ≤ X.R.frames ∧ 100 ≤ X.R.locals ∧ k ≤ X.R.cells ∧ n ≤ X.R.slots) (hst : (st.map fun v => v.category).sum ≤ 8) (hd : decode cc pc = .ok (.invokestatic ix, 3)) (K : Wat X k n (pc + 3) lv (.long (i64 (x % y)) :: st) ws) : Wat X k n pc lv (.long (i64 y) :: .long (i64 x) :: st) ws := sorry
end QF
