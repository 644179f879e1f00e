/-! the tables' words that a contract carries -/
def sx_kw : Cond → Bool
  | .fieldLinkNest .. => true
  | .methodLinkNest .. => true
  | .declares _ => true
  | .castable .. => true
  | .arrayOver (.object _) => true
  | .arrayOver (.array _) => true
  | _ => false
def sx_ws : List Cond := lw_tbl.filter goodWord
def sx_nw : List Cond := lw_tbl.filter sx_kw
theorem sx_wm {w : Cond} (i : Nat) (h : lw_tbl[i]? = some w) (hg : goodWord w = true) : w ∈ sx_ws := List.mem_filter.mpr ⟨List.mem_of_getElem? h, hg⟩
theorem sx_nm {w : Cond} (i : Nat) (h : lw_tbl[i]? = some w) (hg : sx_kw w = true) : w ∈ sx_nw := List.mem_filter.mpr ⟨List.mem_of_getElem? h, hg⟩
/-- the words of a method that is called: its code, whose it is -/
def sx_Mi (y : MethodName) (cc : ByteArray) (maxL : Nat) (ret : Option FieldType) (na : Nat) : Prop :=
  Cond.code y cc maxL ret ∈ sx_ws ∧ Cond.initialized y.cls ∈ sx_ws ∧ y.cls ≠ "java/lang/invoke/MethodHandle" ∧ y.cls ≠ "java/lang/invoke/VarHandle" ∧ (parseMethodDescriptor y.desc).map (fun d => d.parameters.length) = some na
