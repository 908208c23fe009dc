/-! BLOCKS of plain instructions: run by a function -/
def bl : Instr → Nat
  | .aload _ => 2 | .astore _ => 2 | .bipush _ => 2 | .iload _ => 2 | .istore _ => 2 | .lload _ => 2 | .lstore _ => 2
  | .sipush _ => 3 | .iinc _ _ => 3
  | _ => 1
def bget (lv : List (Nat × Value)) (i : Nat) : Option Value := match lv with
  | [] => none
  | (j, v) :: r => match Nat.beq j i with
    | true => some v
    | false => bget r i
def bk1 (i : Nat) (q : Nat × Value) : Bool := !(q.1 == i) && !(q.1 + 1 == i && q.2.category == 2)
def bk2 (i : Nat) (q : Nat × Value) : Bool := !(q.1 == i) && (!(q.1 == i + 1) && !(q.1 + 1 == i && q.2.category == 2))
def bset1 (nL : Nat) (lv : List (Nat × Value)) (i : Nat) (v : Value) (st : List Value) : Option (List (Nat × Value) × List Value) := match Nat.blt i nL with
  | true => some ((i, v) :: lv.filter (bk1 i), st)
  | false => none
def bset2 (nL : Nat) (lv : List (Nat × Value)) (i : Nat) (v : Value) (st : List Value) : Option (List (Nat × Value) × List Value) := match Nat.blt (i + 1) nL with
  | true => some ((i, v) :: lv.filter (bk2 i), st)
  | false => none
def bldi (lv : List (Nat × Value)) (i : Nat) (st : List Value) : Option (List (Nat × Value) × List Value) := match bget lv i with
  | some (.int x) => some (lv, .int x :: st)
  | _ => none
def bldl (lv : List (Nat × Value)) (i : Nat) (st : List Value) : Option (List (Nat × Value) × List Value) := match bget lv i with
  | some (.long x) => some (lv, .long x :: st)
  | _ => none
def blda (lv : List (Nat × Value)) (i : Nat) (st : List Value) : Option (List (Nat × Value) × List Value) := match bget lv i with
  | some (.ref x) => some (lv, .ref x :: st)
  | some .null => some (lv, .null :: st)
  | _ => none
def bsta (nL : Nat) (lv : List (Nat × Value)) (i : Nat) (st : List Value) : Option (List (Nat × Value) × List Value) := match st with
  | .ref x :: r => bset1 nL lv i (.ref x) r
  | .null :: r => bset1 nL lv i .null r
  | _ => none
def bsti (nL : Nat) (lv : List (Nat × Value)) (i : Nat) (st : List Value) : Option (List (Nat × Value) × List Value) := match st with
  | .int x :: r => bset1 nL lv i (.int x) r
  | _ => none
def bstl (nL : Nat) (lv : List (Nat × Value)) (i : Nat) (st : List Value) : Option (List (Nat × Value) × List Value) := match st with
  | .long x :: r => bset2 nL lv i (.long x) r
  | _ => none
def bii (f : Int32 → Int32 → Int32) (lv : List (Nat × Value)) (st : List Value) : Option (List (Nat × Value) × List Value) := match st with
  | .int y :: .int x :: r => some (lv, .int (f x y) :: r)
  | _ => none
def bll (f : Int64 → Int64 → Int64) (lv : List (Nat × Value)) (st : List Value) : Option (List (Nat × Value) × List Value) := match st with
  | .long y :: .long x :: r => some (lv, .long (f x y) :: r)
  | _ => none
def bi (f : Int32 → Value) (lv : List (Nat × Value)) (st : List Value) : Option (List (Nat × Value) × List Value) := match st with
  | .int x :: r => some (lv, f x :: r)
  | _ => none
def bcat1 (v : Value) : Bool := match v with
  | .long _ => false
  | .double _ => false
  | _ => true
def bs (nL : Nat) (i : Instr) (lv : List (Nat × Value)) (st : List Value) : Option (List (Nat × Value) × List Value) := match i with
  | .aconst_null => some (lv, .null :: st)
  | .aload i => blda lv i st
  | .aload_n i => blda lv i.val st
  | .astore i => bsta nL lv i st
  | .astore_n i => bsta nL lv i.val st
  | .bipush b => some (lv, .int (Int8.ofInt b).toInt32 :: st)
  | .sipush b => some (lv, .int (Int16.ofInt b).toInt32 :: st)
  | .iconst c => some (lv, .int (Int32.ofInt c) :: st)
  | .lconst c => some (lv, .long (Int64.ofNat c.val) :: st)
  | .iload i => bldi lv i st
  | .iload_n i => bldi lv i.val st
  | .lload i => bldl lv i st
  | .lload_n i => bldl lv i.val st
  | .istore i => bsti nL lv i st
  | .istore_n i => bsti nL lv i.val st
  | .lstore i => bstl nL lv i st
  | .lstore_n i => bstl nL lv i.val st
  | .iinc i c => match bget lv i with
    | some (.int x) => bset1 nL lv i (.int (x + Int32.ofInt c)) st
    | _ => none
  | .iadd => bii (fun x y => x + y) lv st
  | .isub => bii (fun x y => x - y) lv st
  | .imul => bii (fun x y => x * y) lv st
  | .iand => bii (fun x y => x &&& y) lv st
  | .ior => bii (fun x y => x ||| y) lv st
  | .ixor => bii (fun x y => x ^^^ y) lv st
  | .ishl => bii (fun x y => x <<< (y &&& 31)) lv st
  | .ishr => bii (fun x y => x >>> (y &&& 31)) lv st
  | .iushr => bii (fun x y => (x.toUInt32 >>> (y.toUInt32 &&& Int32.toUInt32 31)).toInt32) lv st
  | .ineg => bi (fun x => .int (-x)) lv st
  | .ladd => bll (fun x y => x + y) lv st
  | .lsub => bll (fun x y => x - y) lv st
  | .lmul => bll (fun x y => x * y) lv st
  | .i2l => bi (fun x => .long x.toInt64) lv st
  | .i2b => bi (fun x => .int x.toInt8.toInt32) lv st
  | .i2s => bi (fun x => .int x.toInt16.toInt32) lv st
  | .l2i => match st with
    | .long x :: r => some (lv, .int x.toInt32 :: r)
    | _ => none
  | .lcmp => match st with
    | .long y :: .long x :: r => some (lv, .int (lg_cmp x y) :: r)
    | _ => none
  | .dup => match st with
    | v :: r => match bcat1 v with
      | true => some (lv, v :: v :: r)
      | false => none
    | _ => none
  | .pop => match st with
    | v :: r => match bcat1 v with
      | true => some (lv, r)
      | false => none
    | _ => none
  | .dup_x1 => match st with
    | v :: w :: r => match bcat1 v && bcat1 w with
      | true => some (lv, v :: w :: v :: r)
      | false => none
    | _ => none
  | .dup2 => match st with
    | v :: w :: r => match bcat1 v && bcat1 w with
      | true => some (lv, v :: w :: v :: w :: r)
      | false => none
    | _ => none
  | _ => none
def bdec (cc : ByteArray) (pc : Nat) (is : List Instr) : Bool := match is with
  | [] => true
  | i :: r => (match decode cc pc with
    | .ok (j, m) => decide (j = i) && Nat.beq m (bl i)
    | _ => false) && bdec cc (pc + bl i) r
def brun (nL : Nat) (is : List Instr) (pc : Nat) (lv : List (Nat × Value)) (st : List Value) : Option (Nat × List (Nat × Value) × List Value) := match is with
  | [] => some (pc, lv, st)
  | i :: r => match bs nL i lv st with
    | none => none
    | some q => brun nL r (pc + bl i) q.1 q.2
theorem bget_at {ls : Array Slot} {nL : Nat} : ∀ {lv : List (Nat × Value)} {i : Nat} {v : Value}, lv_has ls nL lv → bget lv i = some v → ls[i]? = some (.val v)
  | [], _, _, _, h => by simp [bget] at h
  | (j, w) :: r, i, v, hl, h => by
    unfold bget at h
    cases hb : Nat.beq j i with
    | true =>
      rw [hb] at h
      cases h
      rw [← Nat.eq_of_beq_eq_true hb]
      exact hl.2.2 (j, w) List.mem_cons_self
    | false =>
      rw [hb] at h
      exact bget_at ⟨hl.1, hl.2.1, fun q hq => hl.2.2 q (List.mem_cons_of_mem _ hq)⟩ h
theorem bget_k : ∀ {lv : List (Nat × Value)} {i : Nat} {v : Value}, bget lv i = some v → ∃ k : Nat, lv[k]? = some (i, v)
  | [], _, _, h => by simp [bget] at h
  | (j, w) :: r, i, v, h => by
    unfold bget at h
    cases hb : Nat.beq j i with
    | true =>
      rw [hb] at h
      cases h
      exact ⟨0, by rw [← Nat.eq_of_beq_eq_true hb]; rfl⟩
    | false =>
      rw [hb] at h
      obtain ⟨k, hk⟩ := bget_k h
      exact ⟨k + 1, by simpa using hk⟩
theorem bcat1_eq {v : Value} (h : bcat1 v = true) : v.category = 1 := by cases v <;> first | rfl | cases h
theorem blt_of {a b : Nat} (h : Nat.blt a b = true) : a < b := Nat.le_of_ble_eq_true h
section JBLOCK
variable {Γ : JC} {κ : KP} {cc : ByteArray} {own : String} {nL : Nat} {ret : Option FieldType} {HP : Heap → Prop} {k n pc : Nat} {lv lv' : List (Nat × Value)} {st st' : List Value}
theorem j_set1 {i : Nat} {v : Value} {r : List Value} {P : Prop} (hb : bset1 nL lv i v r = some (lv', st')) (kk : i < nL → (i, v) :: lv.filter (bk1 i) = lv' → r = st' → P) : P := by
  unfold bset1 at hb
  cases hc : Nat.blt i nL with
  | true =>
    rw [hc] at hb
    simp only [Option.some.injEq, Prod.mk.injEq] at hb
    exact kk (blt_of hc) hb.1 hb.2
  | false => rw [hc] at hb; cases hb
theorem j_set2 {i : Nat} {v : Value} {r : List Value} {P : Prop} (hb : bset2 nL lv i v r = some (lv', st')) (kk : i + 1 < nL → (i, v) :: lv.filter (bk2 i) = lv' → r = st' → P) : P := by
  unfold bset2 at hb
  cases hc : Nat.blt (i + 1) nL with
  | true =>
    rw [hc] at hb
    simp only [Option.some.injEq, Prod.mk.injEq] at hb
    exact kk (blt_of hc) hb.1 hb.2
  | false => rw [hc] at hb; cases hb
theorem j_ldi {i : Nat} {P : Prop} (hb : bldi lv i st = some (lv', st')) (kk : ∀ x : Int32, bget lv i = some (.int x) → lv = lv' → .int x :: st = st' → P) : P := by
  unfold bldi at hb
  split at hb
  · rename_i x hx
    simp only [Option.some.injEq, Prod.mk.injEq] at hb
    exact kk x hx hb.1 hb.2
  · cases hb
theorem j_ldl {i : Nat} {P : Prop} (hb : bldl lv i st = some (lv', st')) (kk : ∀ x : Int64, bget lv i = some (.long x) → lv = lv' → .long x :: st = st' → P) : P := by
  unfold bldl at hb
  split at hb
  · rename_i x hx
    simp only [Option.some.injEq, Prod.mk.injEq] at hb
    exact kk x hx hb.1 hb.2
  · cases hb
theorem j_lda {i : Nat} {P : Prop} (hb : blda lv i st = some (lv', st')) (kk : ∀ x : Nat, bget lv i = some (.ref x) → lv = lv' → .ref x :: st = st' → P) (k0 : bget lv i = some .null → lv = lv' → .null :: st = st' → P) : P := by
  unfold blda at hb
  split at hb
  · rename_i x hx
    simp only [Option.some.injEq, Prod.mk.injEq] at hb
    exact kk x hx hb.1 hb.2
  · rename_i hx
    simp only [Option.some.injEq, Prod.mk.injEq] at hb
    exact k0 hx hb.1 hb.2
  · cases hb
theorem j_ii {f : Int32 → Int32 → Int32} {P : Prop} (hb : bii f lv st = some (lv', st')) (kk : ∀ (x y : Int32) (r : List Value), st = .int y :: .int x :: r → lv = lv' → .int (f x y) :: r = st' → P) : P := by
  unfold bii at hb
  split at hb
  · rename_i y x r
    simp only [Option.some.injEq, Prod.mk.injEq] at hb
    exact kk x y r rfl hb.1 hb.2
  · cases hb
theorem j_ll {f : Int64 → Int64 → Int64} {P : Prop} (hb : bll f lv st = some (lv', st')) (kk : ∀ (x y : Int64) (r : List Value), st = .long y :: .long x :: r → lv = lv' → .long (f x y) :: r = st' → P) : P := by
  unfold bll at hb
  split at hb
  · rename_i y x r
    simp only [Option.some.injEq, Prod.mk.injEq] at hb
    exact kk x y r rfl hb.1 hb.2
  · cases hb
theorem j_bi {f : Int32 → Value} {P : Prop} (hb : bi f lv st = some (lv', st')) (kk : ∀ (x : Int32) (r : List Value), st = .int x :: r → lv = lv' → f x :: r = st' → P) : P := by
  unfold bi at hb
  split at hb
  · rename_i x r
    simp only [Option.some.injEq, Prod.mk.injEq] at hb
    exact kk x r rfl hb.1 hb.2
  · cases hb
theorem j_sti {i : Nat} {P : Prop} (hb : bsti nL lv i st = some (lv', st')) (kk : ∀ (x : Int32), st = .int x :: st' → i < nL → (i, Value.int x) :: lv.filter (bk1 i) = lv' → P) : P := by
  unfold bsti at hb
  split at hb
  · rename_i x r
    exact j_set1 hb (fun h1 h2 h3 => kk x (by rw [h3]) h1 h2)
  · cases hb
theorem j_stl {i : Nat} {P : Prop} (hb : bstl nL lv i st = some (lv', st')) (kk : ∀ (x : Int64), st = .long x :: st' → i + 1 < nL → (i, Value.long x) :: lv.filter (bk2 i) = lv' → P) : P := by
  unfold bstl at hb
  split at hb
  · rename_i x r
    exact j_set2 hb (fun h1 h2 h3 => kk x (by rw [h3]) h1 h2)
  · cases hb
theorem j_sta {i : Nat} {P : Prop} (hb : bsta nL lv i st = some (lv', st')) (kk : ∀ (x : Nat), st = .ref x :: st' → i < nL → (i, Value.ref x) :: lv.filter (bk1 i) = lv' → P) (k0 : st = .null :: st' → i < nL → (i, Value.null) :: lv.filter (bk1 i) = lv' → P) : P := by
  unfold bsta at hb
  split at hb
  · rename_i x r
    exact j_set1 hb (fun h1 h2 h3 => kk x (by rw [h3]) h1 h2)
  · rename_i r
    exact j_set1 hb (fun h1 h2 h3 => k0 (by rw [h3]) h1 h2)
  · cases hb
set_option maxHeartbeats 4000000 in
theorem j_bs (E : JE Γ κ cc own nL ret) {i : Instr} (hd : decode cc pc = .ok (i, bl i)) (hb : bs nL i lv st = some (lv', st')) (kk : J Γ nL HP k n (pc + bl i) lv' st') : J Γ nL HP k n pc lv st := by
  intro H locs ls hH hS hl
  have hx := E.1
  have hc := E.2.1
  have K := kk H locs
  cases i <;> (try (cases hb; done)) <;> simp only [bs] at hb
  case aconst_null => cases hb; exact lv_null hx hc hd (K ls hH hS hl)
  case aload i => exact j_lda hb (fun x h1 h2 h3 => by subst h2; subst h3; exact lv_aload hx hc hd (bget_at hl h1) (K ls hH hS hl)) (fun h1 h2 h3 => by subst h2; subst h3; exact lv_aloadN hx hc hd (bget_at hl h1) (K ls hH hS hl))
  case aload_n i => exact j_lda hb (fun x h1 h2 h3 => by subst h2; subst h3; exact lv_aload_n hx hc hd rfl (bget_at hl h1) (K ls hH hS hl)) (fun h1 h2 h3 => by subst h2; subst h3; exact lv_aload_nN hx hc hd rfl (bget_at hl h1) (K ls hH hS hl))
  case astore i => exact j_sta hb (fun x h1 h2 h3 => by subst h1; exact lv_astore hx hc hd hl h2 h3 (fun ls' hl' => K ls' hH hS hl')) (fun h1 h2 h3 => by subst h1; exact lv_astoreN hx hc hd hl h2 h3 (fun ls' hl' => K ls' hH hS hl'))
  case astore_n i => exact j_sta hb (fun x h1 h2 h3 => by subst h1; exact lv_astore_n hx hc hd rfl hl h2 h3 (fun ls' hl' => K ls' hH hS hl')) (fun h1 h2 h3 => by subst h1; exact lv_astore_nN hx hc hd rfl hl h2 h3 (fun ls' hl' => K ls' hH hS hl'))
  case bipush b => cases hb; exact lv_bipush hx hc hd rfl (K ls hH hS hl)
  case sipush b => cases hb; exact lv_sipush hx hc hd rfl (K ls hH hS hl)
  case iconst c => cases hb; exact lv_iconst hx hc hd rfl (K ls hH hS hl)
  case lconst c => cases hb; exact lv_lconst hx hc hd rfl (K ls hH hS hl)
  case iload i => exact j_ldi hb (fun x h1 h2 h3 => by subst h2; subst h3; exact lv_iload hx hc hd (bget_at hl h1) (K ls hH hS hl))
  case iload_n i => exact j_ldi hb (fun x h1 h2 h3 => by subst h2; subst h3; exact lv_iload_n hx hc hd rfl (bget_at hl h1) (K ls hH hS hl))
  case lload i => exact j_ldl hb (fun x h1 h2 h3 => by subst h2; subst h3; exact lv_lload hx hc hd (bget_at hl h1) (K ls hH hS hl))
  case lload_n i => exact j_ldl hb (fun x h1 h2 h3 => by subst h2; subst h3; exact lv_lload_n hx hc hd rfl (bget_at hl h1) (K ls hH hS hl))
  case istore i => exact j_sti hb (fun x h1 h2 h3 => by subst h1; exact lv_istore hx hc hd hl h2 h3 (fun ls' hl' => K ls' hH hS hl'))
  case istore_n i => exact j_sti hb (fun x h1 h2 h3 => by subst h1; exact lv_istore_n hx hc hd rfl hl h2 h3 (fun ls' hl' => K ls' hH hS hl'))
  case lstore i => exact j_stl hb (fun x h1 h2 h3 => by subst h1; exact lv_lstore hx hc hd hl h2 h3 (fun ls' hl' => K ls' hH hS hl'))
  case lstore_n i => exact j_stl hb (fun x h1 h2 h3 => by subst h1; exact lv_lstore_n hx hc hd rfl hl h2 h3 (fun ls' hl' => K ls' hH hS hl'))
  case iinc i c =>
    split at hb
    · rename_i x hg
      obtain ⟨q, hq⟩ := bget_k hg
      exact j_set1 hb (fun h1 h2 h3 => by subst h3; exact lv_iinc hx hc hd hl hq rfl h1 h2 (fun ls' hl' => K ls' hH hS hl'))
    · cases hb
  case iadd => exact j_ii hb (fun x y r h1 h2 h3 => by subst h1; subst h2; subst h3; exact lv_iadd hx hc hd (K ls hH hS hl))
  case isub => exact j_ii hb (fun x y r h1 h2 h3 => by subst h1; subst h2; subst h3; exact lv_isub hx hc hd (K ls hH hS hl))
  case imul => exact j_ii hb (fun x y r h1 h2 h3 => by subst h1; subst h2; subst h3; exact lv_imul hx hc hd (K ls hH hS hl))
  case iand => exact j_ii hb (fun x y r h1 h2 h3 => by subst h1; subst h2; subst h3; exact lv_iand hx hc hd (K ls hH hS hl))
  case ior => exact j_ii hb (fun x y r h1 h2 h3 => by subst h1; subst h2; subst h3; exact lv_ior hx hc hd (K ls hH hS hl))
  case ixor => exact j_ii hb (fun x y r h1 h2 h3 => by subst h1; subst h2; subst h3; exact lv_ixor hx hc hd (K ls hH hS hl))
  case ishl => exact j_ii hb (fun x y r h1 h2 h3 => by subst h1; subst h2; subst h3; exact lv_ishl hx hc hd (K ls hH hS hl))
  case ishr => exact j_ii hb (fun x y r h1 h2 h3 => by subst h1; subst h2; subst h3; exact lv_ishr hx hc hd (K ls hH hS hl))
  case iushr => exact j_ii hb (fun x y r h1 h2 h3 => by subst h1; subst h2; subst h3; exact lv_iushr hx hc hd rfl (K ls hH hS hl))
  case ineg => exact j_bi hb (fun x r h1 h2 h3 => by subst h1; subst h2; subst h3; exact lv_ineg hx hc hd (K ls hH hS hl))
  case ladd => exact j_ll hb (fun x y r h1 h2 h3 => by subst h1; subst h2; subst h3; exact lv_ladd hx hc hd (K ls hH hS hl))
  case lsub => exact j_ll hb (fun x y r h1 h2 h3 => by subst h1; subst h2; subst h3; exact lv_lsub hx hc hd (K ls hH hS hl))
  case lmul => exact j_ll hb (fun x y r h1 h2 h3 => by subst h1; subst h2; subst h3; exact lv_lmul hx hc hd (K ls hH hS hl))
  case i2l => exact j_bi hb (fun x r h1 h2 h3 => by subst h1; subst h2; subst h3; exact lv_i2l hx hc hd rfl (K ls hH hS hl))
  case i2b => exact j_bi hb (fun x r h1 h2 h3 => by subst h1; subst h2; subst h3; exact lv_i2b hx hc hd rfl (K ls hH hS hl))
  case i2s => exact j_bi hb (fun x r h1 h2 h3 => by subst h1; subst h2; subst h3; exact lv_i2s hx hc hd rfl (K ls hH hS hl))
  case l2i =>
    split at hb
    · cases hb; exact lv_l2i hx hc hd rfl (K ls hH hS hl)
    · cases hb
  case lcmp =>
    split at hb
    · cases hb; exact W.lcmp hx hc hd (K ls hH hS hl)
    · cases hb
  case dup =>
    split at hb
    · split at hb
      · rename_i h1; cases hb; exact lv_dup hx hc hd (bcat1_eq h1) (K ls hH hS hl)
      · cases hb
    · cases hb
  case pop =>
    split at hb
    · split at hb
      · rename_i h1; cases hb; exact lv_pop hx hc hd (bcat1_eq h1) (K ls hH hS hl)
      · cases hb
    · cases hb
  case dup_x1 =>
    split at hb
    · split at hb
      · rename_i h1; cases hb; rw [Bool.and_eq_true] at h1; exact lv_dup_x1 hx hc hd (bcat1_eq h1.1) (bcat1_eq h1.2) (K ls hH hS hl)
      · cases hb
    · cases hb
  case dup2 =>
    split at hb
    · split at hb
      · rename_i h1; cases hb; rw [Bool.and_eq_true] at h1; exact lv_dup2_11 hx hc hd (bcat1_eq h1.1) (bcat1_eq h1.2) (K ls hH hS hl)
      · cases hb
    · cases hb
theorem j_blk : ∀ {is : List Instr} {pc pc' : Nat} {lv lv' : List (Nat × Value)} {st st' : List Value}, JE Γ κ cc own nL ret → bdec cc pc is = true → brun nL is pc lv st = some (pc', lv', st') → J Γ nL HP k n pc' lv' st' → J Γ nL HP k n pc lv st
  | [], pc, pc', lv, lv', st, st', E, hd, hr, kk => by
    simp only [brun, Option.some.injEq, Prod.mk.injEq] at hr
    obtain ⟨rfl, rfl, rfl⟩ := hr
    exact kk
  | i :: r, pc, pc', lv, lv', st, st', E, hd, hr, kk => by
    unfold bdec at hd
    rw [Bool.and_eq_true] at hd
    obtain ⟨h1, h2⟩ := hd
    have hdec : decode cc pc = .ok (i, bl i) := by
      revert h1
      split
      · rename_i j m hj
        intro h1
        rw [Bool.and_eq_true, decide_eq_true_eq] at h1
        rw [hj, h1.1, Nat.eq_of_beq_eq_true h1.2]
      · intro h1; cases h1
    unfold brun at hr
    cases hq : bs nL i lv st with
    | none => rw [hq] at hr; cases hr
    | some q =>
      rw [hq] at hr
      exact j_bs E hdec (lv' := q.1) (st' := q.2) hq (j_blk E h2 hr kk)
end JBLOCK
