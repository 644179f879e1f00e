abbrev sx_F : Type := Nat → Nat → Int32
def sx_u (f : sx_F) (k j : Nat) (v : Int32) : sx_F := fun i => if i = k then upd (f k) j v else f i
theorem sx_u_s {f : sx_F} {k j : Nat} {v : Int32} : sx_u f k j v k = upd (f k) j v := if_pos rfl
theorem sx_u_n {f : sx_F} {k j i : Nat} {v : Int32} (h : i ≠ k) : sx_u f k j v i = f i := if_neg h
