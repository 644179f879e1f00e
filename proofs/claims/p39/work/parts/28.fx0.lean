def z_c200 : Nat → Int32 := fun j => cond (Nat.beq j 1) 200 (cond (Nat.beq j 2) 3 0)
def z_c2m : Nat → Int32 := fun j => cond (Nat.beq j 2) (-1) 0
def fX0 : sx_F := fun k => cond (Nat.beq k 19) z_c200 (cond (and (and (Nat.ble 66 k) (Nat.ble k 97)) (Nat.beq (k % 2) 0)) z_c2m (fun _ => 0))
def sl_a0 : sx_F := fun _ _ => 0
def sl_o0 : sl_O := fun _ _ => 0
