/-! AWG: a walk that knows more of its start (X s args c), and ends in any post (Z below args s). -/
abbrev xXT : Type := State → Array Value → Code → Prop
abbrev xZT : Type := List Frame → Array Value → State → (State → Prop)
def AWG (X : xXT) (Z : xZT) (M : xM) (rm : Room) (l : Launch) (g : xG) (x0 : xV) (kc ks : Nat) (x : xV) (pc : Nat) (lv : List (Nat × Value)) (st : List Value) : Prop :=
  ∀ (p : Program) (e : Env) (s : State) (m : MethodId) (args : Array Value) (below : List Frame) (meth : Method) (c : Code), xB M l g x0 (.inl none) p s m args meth c → X s args c →
    ∀ (H : Heap) (locs : List Loc) (ls : Array Slot), xH g x0 x s H locs → lv_has ls M.2.2.1 lv →
      W p l e rm s m args below meth c H locs kc ks (Z below args s) (F0 m pc ls st)
section AG03
variable {X : xXT} {Z : xZT}
variable {M : xM} {rm : Room} {l : Launch} {g : xG} {x0 : xV} {kc ks : Nat} {x : xV} {pc : Nat} {lv : List (Nat × Value)} {st : List Value}
theorem ag_iconst (v : Int32) {n : Int} (hd : decode M.2.1 pc = .ok (.iconst n, 1)) (hv : Int32.ofInt n = v) (k : AWG X Z M rm l g x0 kc ks x (pc + 1) lv (.int v :: st)) : AWG X Z M rm l g x0 kc ks x (pc) lv (st) := fun p e s m args below meth c B hX H locs ls hH hl => lv_iconst B.1 B.2.1 hd hv (k p e s m args below meth c B hX H locs ls hH hl)
theorem ag_bipush (v : Int32) {n : Int} (hd : decode M.2.1 pc = .ok (.bipush n, 2)) (hv : (Int8.ofInt n).toInt32 = v) (k : AWG X Z M rm l g x0 kc ks x (pc + 2) lv (.int v :: st)) : AWG X Z M rm l g x0 kc ks x (pc) lv (st) := fun p e s m args below meth c B hX H locs ls hH hl => lv_bipush B.1 B.2.1 hd hv (k p e s m args below meth c B hX H locs ls hH hl)
theorem ag_sipush (v : Int32) {n : Int} (hd : decode M.2.1 pc = .ok (.sipush n, 3)) (hv : (Int16.ofInt n).toInt32 = v) (k : AWG X Z M rm l g x0 kc ks x (pc + 3) lv (.int v :: st)) : AWG X Z M rm l g x0 kc ks x (pc) lv (st) := fun p e s m args below meth c B hX H locs ls hH hl => lv_sipush B.1 B.2.1 hd hv (k p e s m args below meth c B hX H locs ls hH hl)
theorem ag_lconst (v : Int64) {n : Fin 2} (hd : decode M.2.1 pc = .ok (.lconst n, 1)) (hv : Int64.ofNat (n : Nat) = v) (k : AWG X Z M rm l g x0 kc ks x (pc + 1) lv (.long v :: st)) : AWG X Z M rm l g x0 kc ks x (pc) lv (st) := fun p e s m args below meth c B hX H locs ls hH hl => lv_lconst B.1 B.2.1 hd hv (k p e s m args below meth c B hX H locs ls hH hl)
theorem ag_iload_n (j : Nat) {q : Fin 4} {x_ : Int32} (hd : decode M.2.1 pc = .ok (.iload_n q, 1)) (hj : lv[j]? = some ((q : Nat), Value.int x_)) (k : AWG X Z M rm l g x0 kc ks x (pc + 1) lv (Value.int x_ :: st)) : AWG X Z M rm l g x0 kc ks x (pc) lv (st) := fun p e s m args below meth c B hX H locs ls hH hl => lv_iload_n B.1 B.2.1 hd rfl (lv_at hl j hj) (k p e s m args below meth c B hX H locs ls hH hl)
theorem ag_iload (j : Nat) {q : Nat} {x_ : Int32} (hd : decode M.2.1 pc = .ok (.iload q, 2)) (hj : lv[j]? = some (q, Value.int x_)) (k : AWG X Z M rm l g x0 kc ks x (pc + 2) lv (Value.int x_ :: st)) : AWG X Z M rm l g x0 kc ks x (pc) lv (st) := fun p e s m args below meth c B hX H locs ls hH hl => lv_iload B.1 B.2.1 hd (lv_at hl j hj) (k p e s m args below meth c B hX H locs ls hH hl)
theorem ag_lload_n (j : Nat) {q : Fin 4} {x_ : Int64} (hd : decode M.2.1 pc = .ok (.lload_n q, 1)) (hj : lv[j]? = some ((q : Nat), Value.long x_)) (k : AWG X Z M rm l g x0 kc ks x (pc + 1) lv (Value.long x_ :: st)) : AWG X Z M rm l g x0 kc ks x (pc) lv (st) := fun p e s m args below meth c B hX H locs ls hH hl => lv_lload_n B.1 B.2.1 hd rfl (lv_at hl j hj) (k p e s m args below meth c B hX H locs ls hH hl)
theorem ag_lload (j : Nat) {q : Nat} {x_ : Int64} (hd : decode M.2.1 pc = .ok (.lload q, 2)) (hj : lv[j]? = some (q, Value.long x_)) (k : AWG X Z M rm l g x0 kc ks x (pc + 2) lv (Value.long x_ :: st)) : AWG X Z M rm l g x0 kc ks x (pc) lv (st) := fun p e s m args below meth c B hX H locs ls hH hl => lv_lload B.1 B.2.1 hd (lv_at hl j hj) (k p e s m args below meth c B hX H locs ls hH hl)
theorem ag_aload_n (j : Nat) {q : Fin 4} {x_ : Nat} (hd : decode M.2.1 pc = .ok (.aload_n q, 1)) (hj : lv[j]? = some ((q : Nat), Value.ref x_)) (k : AWG X Z M rm l g x0 kc ks x (pc + 1) lv (Value.ref x_ :: st)) : AWG X Z M rm l g x0 kc ks x (pc) lv (st) := fun p e s m args below meth c B hX H locs ls hH hl => lv_aload_n B.1 B.2.1 hd rfl (lv_at hl j hj) (k p e s m args below meth c B hX H locs ls hH hl)
theorem ag_aload (j : Nat) {q : Nat} {x_ : Nat} (hd : decode M.2.1 pc = .ok (.aload q, 2)) (hj : lv[j]? = some (q, Value.ref x_)) (k : AWG X Z M rm l g x0 kc ks x (pc + 2) lv (Value.ref x_ :: st)) : AWG X Z M rm l g x0 kc ks x (pc) lv (st) := fun p e s m args below meth c B hX H locs ls hH hl => lv_aload B.1 B.2.1 hd (lv_at hl j hj) (k p e s m args below meth c B hX H locs ls hH hl)
theorem ag_qload_n (j : Nat) {q : Fin 4} {r : Option Nat} (hd : decode M.2.1 pc = .ok (.aload_n q, 1)) (hj : lv[j]? = some ((q : Nat), va_rf r)) (k : AWG X Z M rm l g x0 kc ks x (pc + 1) lv (va_rf r :: st)) : AWG X Z M rm l g x0 kc ks x (pc) lv (st) := fun p e s m args below meth c B hX H locs ls hH hl => by
  cases r with
  | none => exact lv_aload_nN B.1 B.2.1 hd rfl (lv_at hl j hj) (k p e s m args below meth c B hX H locs ls hH hl)
  | some a => exact lv_aload_n B.1 B.2.1 hd rfl (lv_at hl j hj) (k p e s m args below meth c B hX H locs ls hH hl)
theorem ag_qload (j : Nat) {q : Nat} {r : Option Nat} (hd : decode M.2.1 pc = .ok (.aload q, 2)) (hj : lv[j]? = some (q, va_rf r)) (k : AWG X Z M rm l g x0 kc ks x (pc + 2) lv (va_rf r :: st)) : AWG X Z M rm l g x0 kc ks x (pc) lv (st) := fun p e s m args below meth c B hX H locs ls hH hl => by
  cases r with
  | none => exact lv_aloadN B.1 B.2.1 hd (lv_at hl j hj) (k p e s m args below meth c B hX H locs ls hH hl)
  | some a => exact lv_aload B.1 B.2.1 hd (lv_at hl j hj) (k p e s m args below meth c B hX H locs ls hH hl)
theorem ag_istore_n (lv2 : List (Nat × Value)) {q : Fin 4} {i : Nat} {x_ : Int32} (hd : decode M.2.1 pc = .ok (.istore_n q, 1)) (hi : (q : Nat) = i) (hn : i < M.2.2.1) (hl2 : (i, Value.int x_) :: lv.filter (fun q => !(q.1 == i) && !(q.1 + 1 == i && q.2.category == 2)) = lv2) (k : AWG X Z M rm l g x0 kc ks x (pc + 1) lv2 (st)) : AWG X Z M rm l g x0 kc ks x (pc) lv (Value.int x_ :: st) := fun p e s m args below meth c B hX H locs ls hH hl => lv_istore_n B.1 B.2.1 hd hi hl hn hl2 (fun ls2 hl3 => k p e s m args below meth c B hX H locs ls2 hH hl3)
theorem ag_istore (lv2 : List (Nat × Value)) {i : Nat} {x_ : Int32} (hd : decode M.2.1 pc = .ok (.istore i, 2)) (hn : i < M.2.2.1) (hl2 : (i, Value.int x_) :: lv.filter (fun q => !(q.1 == i) && !(q.1 + 1 == i && q.2.category == 2)) = lv2) (k : AWG X Z M rm l g x0 kc ks x (pc + 2) lv2 (st)) : AWG X Z M rm l g x0 kc ks x (pc) lv (Value.int x_ :: st) := fun p e s m args below meth c B hX H locs ls hH hl => lv_istore B.1 B.2.1 hd hl hn hl2 (fun ls2 hl3 => k p e s m args below meth c B hX H locs ls2 hH hl3)
theorem ag_lstore_n (lv2 : List (Nat × Value)) {q : Fin 4} {i : Nat} {x_ : Int64} (hd : decode M.2.1 pc = .ok (.lstore_n q, 1)) (hi : (q : Nat) = i) (hn : i + 1 < M.2.2.1) (hl2 : (i, Value.long x_) :: lv.filter (fun q => !(q.1 == i) && (!(q.1 == i + 1) && !(q.1 + 1 == i && q.2.category == 2))) = lv2) (k : AWG X Z M rm l g x0 kc ks x (pc + 1) lv2 (st)) : AWG X Z M rm l g x0 kc ks x (pc) lv (Value.long x_ :: st) := fun p e s m args below meth c B hX H locs ls hH hl => lv_lstore_n B.1 B.2.1 hd hi hl hn hl2 (fun ls2 hl3 => k p e s m args below meth c B hX H locs ls2 hH hl3)
theorem ag_lstore (lv2 : List (Nat × Value)) {i : Nat} {x_ : Int64} (hd : decode M.2.1 pc = .ok (.lstore i, 2)) (hn : i + 1 < M.2.2.1) (hl2 : (i, Value.long x_) :: lv.filter (fun q => !(q.1 == i) && (!(q.1 == i + 1) && !(q.1 + 1 == i && q.2.category == 2))) = lv2) (k : AWG X Z M rm l g x0 kc ks x (pc + 2) lv2 (st)) : AWG X Z M rm l g x0 kc ks x (pc) lv (Value.long x_ :: st) := fun p e s m args below meth c B hX H locs ls hH hl => lv_lstore B.1 B.2.1 hd hl hn hl2 (fun ls2 hl3 => k p e s m args below meth c B hX H locs ls2 hH hl3)
theorem ag_qstore_n (lv2 : List (Nat × Value)) {q : Fin 4} {i : Nat} {r : Option Nat} (hd : decode M.2.1 pc = .ok (.astore_n q, 1)) (hi : (q : Nat) = i) (hn : i < M.2.2.1) (hl2 : (i, va_rf r) :: lv.filter (fun q => !(q.1 == i) && !(q.1 + 1 == i && q.2.category == 2)) = lv2) (k : AWG X Z M rm l g x0 kc ks x (pc + 1) lv2 (st)) : AWG X Z M rm l g x0 kc ks x (pc) lv (va_rf r :: st) := fun p e s m args below meth c B hX H locs ls hH hl => by
  cases r with
  | none => exact lv_astore_nN B.1 B.2.1 hd hi hl hn hl2 (fun ls2 hl3 => k p e s m args below meth c B hX H locs ls2 hH hl3)
  | some a => exact lv_astore_n B.1 B.2.1 hd hi hl hn hl2 (fun ls2 hl3 => k p e s m args below meth c B hX H locs ls2 hH hl3)
theorem ag_qstore (lv2 : List (Nat × Value)) {i : Nat} {r : Option Nat} (hd : decode M.2.1 pc = .ok (.astore i, 2)) (hn : i < M.2.2.1) (hl2 : (i, va_rf r) :: lv.filter (fun q => !(q.1 == i) && !(q.1 + 1 == i && q.2.category == 2)) = lv2) (k : AWG X Z M rm l g x0 kc ks x (pc + 2) lv2 (st)) : AWG X Z M rm l g x0 kc ks x (pc) lv (va_rf r :: st) := fun p e s m args below meth c B hX H locs ls hH hl => by
  cases r with
  | none => exact lv_astoreN B.1 B.2.1 hd hl hn hl2 (fun ls2 hl3 => k p e s m args below meth c B hX H locs ls2 hH hl3)
  | some a => exact lv_astore B.1 B.2.1 hd hl hn hl2 (fun ls2 hl3 => k p e s m args below meth c B hX H locs ls2 hH hl3)
theorem ag_iinc (lv2 : List (Nat × Value)) (j : Nat) {i : Nat} {n : Int} {x_ v : Int32} (hd : decode M.2.1 pc = .ok (.iinc i n, 3)) (hj : lv[j]? = some (i, .int x_)) (hv : x_ + Int32.ofInt n = v) (hn : i < M.2.2.1) (hl2 : (i, Value.int v) :: lv.filter (fun q => !(q.1 == i) && !(q.1 + 1 == i && q.2.category == 2)) = lv2) (k : AWG X Z M rm l g x0 kc ks x (pc + 3) lv2 (st)) : AWG X Z M rm l g x0 kc ks x (pc) lv (st) := fun p e s m args below meth c B hX H locs ls hH hl => lv_iinc B.1 B.2.1 hd hl hj hv hn hl2 (fun ls2 hl3 => k p e s m args below meth c B hX H locs ls2 hH hl3)
theorem ag_iadd {a b : Int32} (hd : decode M.2.1 pc = .ok (.iadd, 1)) (k : AWG X Z M rm l g x0 kc ks x (pc + 1) lv (.int (a + b) :: st)) : AWG X Z M rm l g x0 kc ks x (pc) lv (.int b :: .int a :: st) := fun p e s m args below meth c B hX H locs ls hH hl => lv_iadd B.1 B.2.1 hd (k p e s m args below meth c B hX H locs ls hH hl)
theorem ag_isub {a b : Int32} (hd : decode M.2.1 pc = .ok (.isub, 1)) (k : AWG X Z M rm l g x0 kc ks x (pc + 1) lv (.int (a - b) :: st)) : AWG X Z M rm l g x0 kc ks x (pc) lv (.int b :: .int a :: st) := fun p e s m args below meth c B hX H locs ls hH hl => lv_isub B.1 B.2.1 hd (k p e s m args below meth c B hX H locs ls hH hl)
theorem ag_iand {a b : Int32} (hd : decode M.2.1 pc = .ok (.iand, 1)) (k : AWG X Z M rm l g x0 kc ks x (pc + 1) lv (.int (a &&& b) :: st)) : AWG X Z M rm l g x0 kc ks x (pc) lv (.int b :: .int a :: st) := fun p e s m args below meth c B hX H locs ls hH hl => lv_iand B.1 B.2.1 hd (k p e s m args below meth c B hX H locs ls hH hl)
theorem ag_i2l {a : Int32} (hd : decode M.2.1 pc = .ok (.i2l, 1)) (k : AWG X Z M rm l g x0 kc ks x (pc + 1) lv (.long a.toInt64 :: st)) : AWG X Z M rm l g x0 kc ks x (pc) lv (.int a :: st) := fun p e s m args below meth c B hX H locs ls hH hl => lv_i2l B.1 B.2.1 hd rfl (k p e s m args below meth c B hX H locs ls hH hl)
theorem ag_icmp_eq (tgt : Nat) {a b : Int32} {off : Int} (hd : decode M.2.1 pc = .ok (.if_icmp .eq off, 3)) (ht : (pc : Int) + off = (tgt : Int)) (kt : a = b → AWG X Z M rm l g x0 kc ks x (tgt) lv (st)) (kf : ¬ (a = b) → AWG X Z M rm l g x0 kc ks x (pc + 3) lv (st)) : AWG X Z M rm l g x0 kc ks x (pc) lv (.int b :: .int a :: st) := fun p e s m args below meth c B hX H locs ls hH hl => lv_icmp_eq B.1 B.2.1 hd ht (fun q => kt q p e s m args below meth c B hX H locs ls hH hl) (fun q => kf q p e s m args below meth c B hX H locs ls hH hl)
theorem ag_icmp_ne (tgt : Nat) {a b : Int32} {off : Int} (hd : decode M.2.1 pc = .ok (.if_icmp .ne off, 3)) (ht : (pc : Int) + off = (tgt : Int)) (kt : a ≠ b → AWG X Z M rm l g x0 kc ks x (tgt) lv (st)) (kf : (a = b) → AWG X Z M rm l g x0 kc ks x (pc + 3) lv (st)) : AWG X Z M rm l g x0 kc ks x (pc) lv (.int b :: .int a :: st) := fun p e s m args below meth c B hX H locs ls hH hl => lv_icmp_ne B.1 B.2.1 hd ht (fun q => kt q p e s m args below meth c B hX H locs ls hH hl) (fun q => kf q p e s m args below meth c B hX H locs ls hH hl)
theorem ag_icmp_lt (tgt : Nat) {a b : Int32} {off : Int} (hd : decode M.2.1 pc = .ok (.if_icmp .lt off, 3)) (ht : (pc : Int) + off = (tgt : Int)) (kt : a < b → AWG X Z M rm l g x0 kc ks x (tgt) lv (st)) (kf : ¬ (a < b) → AWG X Z M rm l g x0 kc ks x (pc + 3) lv (st)) : AWG X Z M rm l g x0 kc ks x (pc) lv (.int b :: .int a :: st) := fun p e s m args below meth c B hX H locs ls hH hl => lv_icmp_lt B.1 B.2.1 hd ht (fun q => kt q p e s m args below meth c B hX H locs ls hH hl) (fun q => kf q p e s m args below meth c B hX H locs ls hH hl)
theorem ag_icmp_ge (tgt : Nat) {a b : Int32} {off : Int} (hd : decode M.2.1 pc = .ok (.if_icmp .ge off, 3)) (ht : (pc : Int) + off = (tgt : Int)) (kt : b ≤ a → AWG X Z M rm l g x0 kc ks x (tgt) lv (st)) (kf : ¬ (b ≤ a) → AWG X Z M rm l g x0 kc ks x (pc + 3) lv (st)) : AWG X Z M rm l g x0 kc ks x (pc) lv (.int b :: .int a :: st) := fun p e s m args below meth c B hX H locs ls hH hl => lv_icmp_ge B.1 B.2.1 hd ht (fun q => kt q p e s m args below meth c B hX H locs ls hH hl) (fun q => kf q p e s m args below meth c B hX H locs ls hH hl)
theorem ag_icmp_gt (tgt : Nat) {a b : Int32} {off : Int} (hd : decode M.2.1 pc = .ok (.if_icmp .gt off, 3)) (ht : (pc : Int) + off = (tgt : Int)) (kt : b < a → AWG X Z M rm l g x0 kc ks x (tgt) lv (st)) (kf : ¬ (b < a) → AWG X Z M rm l g x0 kc ks x (pc + 3) lv (st)) : AWG X Z M rm l g x0 kc ks x (pc) lv (.int b :: .int a :: st) := fun p e s m args below meth c B hX H locs ls hH hl => lv_icmp_gt B.1 B.2.1 hd ht (fun q => kt q p e s m args below meth c B hX H locs ls hH hl) (fun q => kf q p e s m args below meth c B hX H locs ls hH hl)
theorem ag_icmp_le (tgt : Nat) {a b : Int32} {off : Int} (hd : decode M.2.1 pc = .ok (.if_icmp .le off, 3)) (ht : (pc : Int) + off = (tgt : Int)) (kt : a ≤ b → AWG X Z M rm l g x0 kc ks x (tgt) lv (st)) (kf : ¬ (a ≤ b) → AWG X Z M rm l g x0 kc ks x (pc + 3) lv (st)) : AWG X Z M rm l g x0 kc ks x (pc) lv (.int b :: .int a :: st) := fun p e s m args below meth c B hX H locs ls hH hl => lv_icmp_le B.1 B.2.1 hd ht (fun q => kt q p e s m args below meth c B hX H locs ls hH hl) (fun q => kf q p e s m args below meth c B hX H locs ls hH hl)
theorem ag_if_eq (tgt : Nat) {a : Int32} {off : Int} (hd : decode M.2.1 pc = .ok (.ifCond .eq off, 3)) (ht : (pc : Int) + off = (tgt : Int)) (kt : a = 0 → AWG X Z M rm l g x0 kc ks x (tgt) lv (st)) (kf : ¬ (a = 0) → AWG X Z M rm l g x0 kc ks x (pc + 3) lv (st)) : AWG X Z M rm l g x0 kc ks x (pc) lv (.int a :: st) := fun p e s m args below meth c B hX H locs ls hH hl => lv_if_eq B.1 B.2.1 hd ht (fun q => kt q p e s m args below meth c B hX H locs ls hH hl) (fun q => kf q p e s m args below meth c B hX H locs ls hH hl)
theorem ag_if_ne (tgt : Nat) {a : Int32} {off : Int} (hd : decode M.2.1 pc = .ok (.ifCond .ne off, 3)) (ht : (pc : Int) + off = (tgt : Int)) (kt : a ≠ 0 → AWG X Z M rm l g x0 kc ks x (tgt) lv (st)) (kf : (a = 0) → AWG X Z M rm l g x0 kc ks x (pc + 3) lv (st)) : AWG X Z M rm l g x0 kc ks x (pc) lv (.int a :: st) := fun p e s m args below meth c B hX H locs ls hH hl => lv_if_ne B.1 B.2.1 hd ht (fun q => kt q p e s m args below meth c B hX H locs ls hH hl) (fun q => kf q p e s m args below meth c B hX H locs ls hH hl)
theorem ag_if_lt (tgt : Nat) {a : Int32} {off : Int} (hd : decode M.2.1 pc = .ok (.ifCond .lt off, 3)) (ht : (pc : Int) + off = (tgt : Int)) (kt : a < 0 → AWG X Z M rm l g x0 kc ks x (tgt) lv (st)) (kf : ¬ (a < 0) → AWG X Z M rm l g x0 kc ks x (pc + 3) lv (st)) : AWG X Z M rm l g x0 kc ks x (pc) lv (.int a :: st) := fun p e s m args below meth c B hX H locs ls hH hl => lv_if_lt B.1 B.2.1 hd ht (fun q => kt q p e s m args below meth c B hX H locs ls hH hl) (fun q => kf q p e s m args below meth c B hX H locs ls hH hl)
theorem ag_if_ge (tgt : Nat) {a : Int32} {off : Int} (hd : decode M.2.1 pc = .ok (.ifCond .ge off, 3)) (ht : (pc : Int) + off = (tgt : Int)) (kt : 0 ≤ a → AWG X Z M rm l g x0 kc ks x (tgt) lv (st)) (kf : ¬ (0 ≤ a) → AWG X Z M rm l g x0 kc ks x (pc + 3) lv (st)) : AWG X Z M rm l g x0 kc ks x (pc) lv (.int a :: st) := fun p e s m args below meth c B hX H locs ls hH hl => lv_if_ge B.1 B.2.1 hd ht (fun q => kt q p e s m args below meth c B hX H locs ls hH hl) (fun q => kf q p e s m args below meth c B hX H locs ls hH hl)
theorem ag_if_gt (tgt : Nat) {a : Int32} {off : Int} (hd : decode M.2.1 pc = .ok (.ifCond .gt off, 3)) (ht : (pc : Int) + off = (tgt : Int)) (kt : 0 < a → AWG X Z M rm l g x0 kc ks x (tgt) lv (st)) (kf : ¬ (0 < a) → AWG X Z M rm l g x0 kc ks x (pc + 3) lv (st)) : AWG X Z M rm l g x0 kc ks x (pc) lv (.int a :: st) := fun p e s m args below meth c B hX H locs ls hH hl => lv_if_gt B.1 B.2.1 hd ht (fun q => kt q p e s m args below meth c B hX H locs ls hH hl) (fun q => kf q p e s m args below meth c B hX H locs ls hH hl)
theorem ag_if_le (tgt : Nat) {a : Int32} {off : Int} (hd : decode M.2.1 pc = .ok (.ifCond .le off, 3)) (ht : (pc : Int) + off = (tgt : Int)) (kt : a ≤ 0 → AWG X Z M rm l g x0 kc ks x (tgt) lv (st)) (kf : ¬ (a ≤ 0) → AWG X Z M rm l g x0 kc ks x (pc + 3) lv (st)) : AWG X Z M rm l g x0 kc ks x (pc) lv (.int a :: st) := fun p e s m args below meth c B hX H locs ls hH hl => lv_if_le B.1 B.2.1 hd ht (fun q => kt q p e s m args below meth c B hX H locs ls hH hl) (fun q => kf q p e s m args below meth c B hX H locs ls hH hl)
theorem ag_lcmp {a b : Int64} (hd : decode M.2.1 pc = .ok (.lcmp, 1)) (k : AWG X Z M rm l g x0 kc ks x (pc + 1) lv (.int (lg_cmp a b) :: st)) : AWG X Z M rm l g x0 kc ks x (pc) lv (.long b :: .long a :: st) := fun p e s m args below meth c B hX H locs ls hH hl => W.lcmp B.1 B.2.1 hd (k p e s m args below meth c B hX H locs ls hH hl)
theorem ag_goto (tgt : Nat) {off : Int} (hd : decode M.2.1 pc = .ok (.goto off, 3)) (ht : (pc : Int) + off = (tgt : Int)) (k : AWG X Z M rm l g x0 kc ks x (tgt) lv (st)) : AWG X Z M rm l g x0 kc ks x (pc) lv (st) := fun p e s m args below meth c B hX H locs ls hH hl => lv_goto B.1 B.2.1 hd ht (k p e s m args below meth c B hX H locs ls hH hl)
theorem ag_dup {a : Value} (hd : decode M.2.1 pc = .ok (.dup, 1)) (ha : a.category = 1) (k : AWG X Z M rm l g x0 kc ks x (pc + 1) lv (a :: a :: st)) : AWG X Z M rm l g x0 kc ks x (pc) lv (a :: st) := fun p e s m args below meth c B hX H locs ls hH hl => lv_dup B.1 B.2.1 hd ha (k p e s m args below meth c B hX H locs ls hH hl)
theorem ag_pop {a : Value} (hd : decode M.2.1 pc = .ok (.pop, 1)) (ha : a.category = 1) (k : AWG X Z M rm l g x0 kc ks x (pc + 1) lv (st)) : AWG X Z M rm l g x0 kc ks x (pc) lv (a :: st) := fun p e s m args below meth c B hX H locs ls hH hl => lv_pop B.1 B.2.1 hd ha (k p e s m args below meth c B hX H locs ls hH hl)
theorem ag_lv (js : List Nat) {lv2 : List (Nat × Value)} (h : lv_pick lv js = lv2) (k : AWG X Z M rm l g x0 kc ks x (pc) lv2 (st)) : AWG X Z M rm l g x0 kc ks x (pc) lv (st) := fun p e s m args below meth c B hX H locs ls hH hl => k p e s m args below meth c B hX H locs ls hH (lv_sub hl js h)
theorem ag_widen (kc2 ks2 : Nat) (h1 : kc ≤ kc2) (h2 : ks ≤ ks2) (k : AWG X Z M rm l g x0 kc2 ks2 x pc lv st) : AWG X Z M rm l g x0 kc ks x (pc) lv (st) := fun p e s m args below meth c B hX H locs ls hH hl => W.widen h1 h2 (k p e s m args below meth c B hX H locs ls hH hl)
end AG03
section AGD
variable {M My : xM} {rm rmy : Room} {l : Launch} {g : xG} {x0 : xV} {o1 : Option Value ⊕ String} {x1 x2 : xV} {kc ks : Nat} {x : xV} {pc : Nat} {lv : List (Nat × Value)} {rest : List Value} {y : MethodName} {index : Nat} {v : Option Value}
variable {p : Program} {e : Env} {s : State} {m : MethodId} {args : Array Value} {below : List Frame} {meth : Method} {c : Code} {H : Heap} {locs : List Loc} {ls : Array Slot} {Q : State → Prop}
theorem xRunD {g0 : JFrame} (hr : va_Run p l e rm s m args below meth c H locs kc ks rmy.cells rmy.slots g0 rest ((xQ g x v x2) args) (xF x)) (h0 : s.heap.size = x0.1) (hH : xH g x0 x s H locs)
    (k : ∀ (H1 : Heap) (locs1 : List Loc), xD x x2 → xH g x0 x2 s H1 locs1 → W p l e rm s m args below meth c H1 locs1 (kc + rmy.cells) (ks + rmy.slots) Q { g0 with pc := g0.pc + 3, stack := v.toList ++ rest }) : W p l e rm s m args below meth c H locs kc ks Q g0 := by
  intro T hT X
  obtain ⟨v', st₀, t, T', L, e0, X', hL, e1, e2, ⟨hv, hP, hD, hF⟩, st⟩ := hr T hT X
  cases hv
  have hz := hH.size h0
  have hup := xF.up hH.2.1 hz
  rw [va_F, e0] at hF
  have hH1 : xH g x0 x2 s T'.heap (locs ++ L) := by
    refine ⟨by rw [e1]; exact hP, hH.2.1.trans hD hz, ?_, ?_, ?_⟩
    · rw [e1]; exact Nat.le_trans hH.2.2.1 hF.1
    · intro q h1 h2
      rw [e1, hF.2 q (Nat.lt_of_lt_of_le h1 hH.2.2.1) (fun z => h2 (hup q z))]
      exact hH.2.2.2.1 q h1 h2
    · intro q hq
      rcases List.mem_append.mp hq with h | h
      · exact hH.2.2.2.2 q h
      · exact hup _ (hL q h)
  obtain ⟨t2, a1, b1⟩ := k T'.heap (locs ++ L) hD hH1 T' rfl X'
  exact ⟨t2, st t2 a1, b1⟩
end AGD
section AG04
variable {X : xXT} {Z : xZT}
variable {M My : xM} {rm rmy : Room} {l : Launch} {g : xG} {x0 : xV} {x2 : xV} {kc ks : Nat} {x : xV} {pc : Nat} {lv : List (Nat × Value)} {rest : List Value} {y : MethodName} {index : Nat} {v : Option Value}
theorem ag_callS (av : List Value) (n : Nat) (hc : CT y My rmy l g av x (.inl v) x2) (hw : xCall M My rm rmy y index n) (hst : Cond.static y ∈ wt) (hd : decode M.2.1 pc = .ok (.invokestatic index, 3)) {st : List Value} (hs : st = av.reverse ++ rest) (hn : av.length = n) (hr : (rest.map fun v => v.category).sum ≤ 8) (hR : rmy.frames + 1 ≤ rm.frames ∧ 8 + (My.2.2.1 + 11) + rmy.locals ≤ rm.locals) (hf : kc + rmy.cells ≤ rm.cells ∧ ks + rmy.slots ≤ rm.slots)
    (k : xD x x2 → AWG X Z M rm l g x0 (kc + rmy.cells) (ks + rmy.slots) x2 (pc + 3) lv (v.toList ++ rest)) : AWG X Z M rm l g x0 kc ks x pc lv st := fun p e s m args below meth c B hX H locs ls hH hl =>
  xRunD (va_runS (As := av) (rest := rest) (xFix B) hc ⟨xCallB B hw hR, B.2.2.2.2.2.2.1 _ hst⟩ ⟨xPc.blind, xPc.at B hH av⟩ rfl hn hl.1 hs (lv_room hr) hd hf) B.2.2.2.2.2.2.2.2.1 hH (fun H1 locs1 hD h1 => k hD p e s m args below meth c B hX H1 locs1 ls h1 hl)
theorem ag_callV (ci : Nat) (r : Option Nat) (av : List Value) (n : Nat) {a : Nat} {fs : List Value} (hra : r = some a) (ha : x.2 a = some (.inr (ci, fs))) {q : vw_C} (hq : vwCl[ci]? = some q) (hqc : q.1 = y.cls) (hc : CT y My rmy l g (va_rf (some a) :: av) x (.inl v) x2) (hw : xCall M My rm rmy y index n) (hin : Cond.instanceMethod y ∈ wt) (hse : Cond.selects y.cls y y ∈ wt) (hd : decode M.2.1 pc = .ok (.invokevirtual index, 3)) {st : List Value} (hs : st = av.reverse ++ va_rf r :: rest) (hn : av.length = n) (hr : (rest.map fun v => v.category).sum ≤ 8) (hR : rmy.frames + 1 ≤ rm.frames ∧ 8 + (My.2.2.1 + 11) + rmy.locals ≤ rm.locals) (hf : kc + rmy.cells ≤ rm.cells ∧ ks + rmy.slots ≤ rm.slots)
    (k : xD x x2 → AWG X Z M rm l g x0 (kc + rmy.cells) (ks + rmy.slots) x2 (pc + 3) lv (v.toList ++ rest)) : AWG X Z M rm l g x0 kc ks x pc lv st := fun p e s m args below meth c B hX H locs ls hH hl => by
  subst hra
  exact xRunD (va_runV (As := av) (rest := rest) (C := y.cls) (b := a) (xFix B) hc ⟨xCallB B hw hR, B.2.2.2.2.2.2.1 _ hin, B.2.2.2.2.2.2.1 _ hse⟩ ⟨xPc.blind, by rw [← hqc]; exact xRecv B hH ha hq, xPc.at B hH (.ref a :: av)⟩ rfl hn hl.1 hs (lv_room hr) hd hf) B.2.2.2.2.2.2.2.2.1 hH (fun H1 locs1 hD h1 => k hD p e s m args below meth c B hX H1 locs1 ls h1 hl)
theorem ag_callI (a : Nat) (av : List Value) (n : Nat) (hret : My.2.2.2.1 = none) (hyn : y.name = "<init>") (hc : CT y My rmy l g (va_rf (some a) :: av) x (.inl v) x2) (hw : xCall M My rm rmy y index n) (hin : Cond.instanceMethod y ∈ wt) (hd : decode M.2.1 pc = .ok (.invokespecial index, 3)) {st : List Value} (hs : st = av.reverse ++ va_rf (some a) :: rest) (hn : av.length = n) (hr : (rest.map fun v => v.category).sum ≤ 8) (hR : rmy.frames + 1 ≤ rm.frames ∧ 8 + (My.2.2.1 + 11) + rmy.locals ≤ rm.locals) (hf : kc + rmy.cells ≤ rm.cells ∧ ks + rmy.slots ≤ rm.slots)
    (k : xD x x2 → AWG X Z M rm l g x0 (kc + rmy.cells) (ks + rmy.slots) x2 (pc + 3) lv (v.toList ++ rest)) : AWG X Z M rm l g x0 kc ks x pc lv st := fun p e s m args below meth c B hX H locs ls hH hl => by
  have hcb := xCallB B hw hR
  unfold CT at hc
  rw [hret] at hcb hc
  exact xRunD (va_runI (As := av) (rest := rest) (b := a) (xFix B) hc ⟨hcb, hyn, B.2.2.2.2.2.2.1 _ hin⟩ ⟨xPc.blind, xPc.at B hH (.ref a :: av)⟩ rfl hn hl.1 hs (lv_room hr) hd hf) B.2.2.2.2.2.2.2.2.1 hH (fun H1 locs1 hD h1 => k hD p e s m args below meth c B hX H1 locs1 ls h1 hl)
theorem ag_objInit {r : Option Nat} {a : Nat} (hra : r = some a) (hl0 : Cond.methodLink M.1 index Lib.objectInit ∈ wt) (hd : decode M.2.1 pc = .ok (.invokespecial index, 3)) (hr : (rest.map fun v => v.category).sum ≤ 8) (hR : 1 ≤ rm.frames ∧ 20 ≤ rm.locals) (hin : Cond.instanceMethod Lib.objectInit ∈ wt) (hcd : Cond.code Lib.objectInit ⟨#[0xb1]⟩ 1 none ∈ wt)
    (k : AWG X Z M rm l g x0 kc ks x (pc + 3) lv rest) : AWG X Z M rm l g x0 kc ks x pc lv (va_rf r :: rest) := fun p e s m args below meth c B hX H locs ls hH hl => by
  subst hra
  have h8 := lv_room (m := m) (pc := pc) (ls := ls) (rest := va_rf (some a) :: rest) hr
  refine W.objInit B.1 B.2.1 B.2.2.2.2.2.1 (B.2.2.2.2.2.2.1 _ hl0) (B.2.2.2.2.2.2.1 _ hin) (B.2.2.2.2.2.2.1 _ hcd) rfl (hl.1.trans B.2.2.1.symm) rfl hd hR.1 (by omega) ?_
  exact k p e s m args below meth c B hX H locs ls hH hl
end AG04
section AG05
variable {X : xXT} {Z : xZT}
variable {M : xM} {rm : Room} {l : Launch} {g : xG} {x0 : xV} {kc ks : Nat} {x : xV} {pc : Nat} {lv : List (Nat × Value)} {st : List Value}
variable {p : Program} {e : Env} {s : State} {m : MethodId} {args : Array Value} {below : List Frame} {meth : Method} {c : Code} {H : Heap} {locs : List Loc} {ls : Array Slot} {Q : State → Prop}
theorem ag_getf {a ci k index N : Nat} {fs : List Value} {C : String} {T : u_T} {v : Value} (ha : x.2 a = some (.inr (ci, fs))) (hc : vwCl[ci]? = some (C, T, N)) (hin : ∀ w ∈ u_ws C T N, w ∈ wt) (hk : k < N) (hl0 : Cond.fieldLink M.1 index (T k).1 (T k).2.1 (T k).2.2.1 ∈ wt) (hv : fs[k]? = some v) (hd : decode M.2.1 pc = .ok (.getfield index, 3))
    (kk : AWG X Z M rm l g x0 kc ks x (pc + 3) lv (v :: st)) : AWG X Z M rm l g x0 kc ks x pc lv (.ref a :: st) := fun p e s m args below meth c B hX H locs ls hH hl =>
  va_get (ws := [(a, .inr (ci, fs))]) B.1 B.2.1 B.2.2.2.2.2.2.1 hin B.2.2.2.2.2.1 B.2.2.2.2.2.2.2.1 (xP1 hH.1 ha) 0 rfl hc k hk (B.2.2.2.2.2.2.1 _ hl0) (fun _ h => h) hv hd (kk p e s m args below meth c B hX H locs ls hH hl)
theorem ag_lald {a n : Nat} {f : Nat → Int64} {i : Int32} (ha : x.2 a = some (.inl (g.2.2.1, n, .inr (.inl f)))) (hin : vp_in i n) (hd : decode M.2.1 pc = .ok (.laload, 1))
    (kk : AWG X Z M rm l g x0 kc ks x (pc + 1) lv (.long (f i.toNatClampNeg) :: st)) : AWG X Z M rm l g x0 kc ks x pc lv (.int i :: .ref a :: st) := fun p e s m args below meth c B hX H locs ls hH hl =>
  va_lald (ws := [(a, .inl (g.2.2.1, n, .inr (.inl f)))]) B.1 B.2.1 B.2.2.2.2.2.2.2.1 (xP1 hH.1 ha) 0 1 rfl rfl hin hd (kk p e s m args below meth c B hX H locs ls hH hl)
theorem ag_alen (t : Nat) {a : Nat} {y : vp_A} {cA : ClassId} {ty : FieldType} (ha : x.2 a = some (.inl (cA, y))) (ht : (xTys g)[t]? = some (cA, ty)) (hd : decode M.2.1 pc = .ok (.arraylength, 1))
    (kk : AWG X Z M rm l g x0 kc ks x (pc + 1) lv (.int (nI y.1) :: st)) : AWG X Z M rm l g x0 kc ks x pc lv (.ref a :: st) := fun p e s m args below meth c B hX H locs ls hH hl =>
  va_alen (ws := [(a, .inl (cA, y))]) B.1 B.2.1 B.2.2.2.2.2.2.2.1 (xP1 hH.1 ha) 0 t rfl ht rfl hd (kk p e s m args below meth c B hX H locs ls hH hl)
theorem ag_last {a n : Nat} {f : Nat → Int64} {i : Int32} {y : Int64} (ha : x.2 a = some (.inl (g.2.2.1, n, .inr (.inl f)))) (hin : vp_in i n) (hd : decode M.2.1 pc = .ok (.lastore, 1))
    (kk : AWG X Z M rm l g x0 kc ks (xUp x a (.inl (g.2.2.1, n, .inr (.inl (vp_updL f i.toNatClampNeg y))))) (pc + 1) lv st) : AWG X Z M rm l g x0 kc ks x pc lv (.long y :: .int i :: .ref a :: st) := fun p e s m args below meth c B hX H locs ls hH hl => by
  refine W.last B.1 B.2.1 (hH.1.2 a _ ha) ((B.2.2.2.2.2.2.2.1.2 1 _ rfl).1 n (fun j => .long (f j))) (fun q => by cases q) (by show ¬ (i < 0 ∨ (arrV _ _ _).slots.size ≤ _); rw [arrV_size]; exact hin) rfl rfl hd fun H1 e1 z oq => ?_
  refine kk p e s m args below meth c B hX H1 _ ls (hH.up ha z oq ?_) hl
  show H1[a]? = some (vp_cell _ _)
  rw [e1, vp_cell_l, vp_cell_l, arrV_store]
  congr 2
  funext q
  by_cases hq : q = i.toNatClampNeg
  · subst hq; simp [updV, vp_updL]
  · simp [updV, vp_updL, hq]
theorem ag_new {ci N index : Nat} {C : String} {T : u_T} {ty0 : Nat → FieldType} (fs : List Value) (hc : vwCl[ci]? = some (C, T, N)) (hin : ∀ w ∈ u_ws C T N, w ∈ wt) (hty : ∀ k, k < N → parseFieldDescriptor (T k).2.2.1 = some (ty0 k)) (hcl : Cond.classLink M.1 index C ∈ wt) (hinst : Cond.instantiable C N ∈ wt) (hini : Cond.initialized C ∈ wt) (hfs : ∀ j, j < N → defaultValue (ty0 j) = vp_V fs j) (hf : kc + 1 ≤ rm.cells ∧ ks + N ≤ rm.slots) (hd : decode M.2.1 pc = .ok (.new index, 3))
    (kk : AWG X Z M rm l g x0 (kc + 1) (ks + N) (xNew x (.inr (ci, fs))) (pc + 3) lv (.ref x.1 :: st)) : AWG X Z M rm l g x0 kc ks x pc lv st := fun p e s m args below meth c B hX H locs ls hH hl => by
  have hts := B.2.2.2.2.2.2.1
  have hKn := B.2.2.2.2.2.2.2.1.1 ci _ hc
  refine W.newcK B.1 B.2.1 B.2.2.2.2.2.1 (hts _ hcl) (hts _ hinst) (hts _ hini) rfl hd hf.1 hf.2 hKn.2.1 rfl fun H1 kC hkC e1 z1 o1 => ?_
  rw [hH.1.1]
  refine kk p e s m args below meth c B hX H1 locs ls (hH.new B.2.2.2.2.2.2.2.2.1 z1 o1 ⟨_, hc, ?_⟩) hl
  exact (u_born ty0 hts hin hKn hkC e1 hty).to hfs
theorem ag_newa (t : Nat) {atype : ArrayType} {ty : FieldType} {cB : ClassId} {n : Int32} {N : Nat} {a0 : vp_A} (hty : newarray.typeOf atype = ty) (hp : ty = .int ∨ ty = .long ∨ ty = .boolean) (ht : (xTys g)[t]? = some (cB, ty)) (harr : Cond.arrayClass ty ∈ wt) (ha : vp_cell cB a0 = arrV cB N (fun _ => defaultValue ty)) (hn : ¬ n < 0) (hN : n.toNatClampNeg = N) (hbytes : N * componentBytes ty ≤ 536870912) (hf : kc + 1 ≤ rm.cells ∧ ks + N ≤ rm.slots) (hd : decode M.2.1 pc = .ok (.newarray atype, 2))
    (kk : AWG X Z M rm l g x0 (kc + 1) (ks + N) (xNew x (.inl (cB, a0))) (pc + 2) lv (.ref x.1 :: st)) : AWG X Z M rm l g x0 kc ks x pc lv (.int n :: st) := fun p e s m args below meth c B hX H locs ls hH hl => by
  subst hty
  have hts := B.2.2.2.2.2.2.1
  refine va_newaK B.1 B.2.1 (hts _ harr) rfl hd rfl hn hN hbytes hf.1 hf.2 rfl fun H1 cA e1 z1 o1 hAr hNm => ?_
  have hcc : cA = cB := xArr B.2.2.2.2.2.2.2.1 ht hp hNm
  subst hcc
  rw [hH.1.1]
  refine kk p e s m args below meth c B hX H1 locs ls (hH.new B.2.2.2.2.2.2.2.2.1 z1 o1 ?_) hl
  show H1[H.size]? = some (vp_cell _ _)
  rw [ha]; exact e1
end AG05
section AG09
variable {X : xXT} {Z : xZT}
variable {M : xM} {rm : Room} {l : Launch} {g : xG} {x0 : xV} {kc ks : Nat} {x : xV} {pc : Nat} {lv : List (Nat × Value)} {st : List Value}
theorem ag_ifb_eq (tgt : Nat) {b : Bool} {off : Int} (hd : decode M.2.1 pc = .ok (.ifCond .eq off, 3)) (ht : (pc : Int) + off = (tgt : Int)) (kt : b = false → AWG X Z M rm l g x0 kc ks x tgt lv st) (kf : ¬ (b = false) → AWG X Z M rm l g x0 kc ks x (pc + 3) lv st) : AWG X Z M rm l g x0 kc ks x pc lv (.int (bi b) :: st) :=
  ag_if_eq tgt hd ht (fun q => kt (bi_0.mp q)) (fun q => kf (fun z => q (bi_0.mpr z)))
theorem ag_ifb_ne (tgt : Nat) {b : Bool} {off : Int} (hd : decode M.2.1 pc = .ok (.ifCond .ne off, 3)) (ht : (pc : Int) + off = (tgt : Int)) (kt : ¬ (b = false) → AWG X Z M rm l g x0 kc ks x tgt lv st) (kf : b = false → AWG X Z M rm l g x0 kc ks x (pc + 3) lv st) : AWG X Z M rm l g x0 kc ks x pc lv (.int (bi b) :: st) :=
  ag_if_ne tgt hd ht (fun q => kt (fun z => q (bi_0.mpr z))) (fun q => kf (bi_0.mp q))
theorem ag_lcmp_eq (tgt : Nat) {a b : Int64} {off : Int} (hd : decode M.2.1 pc = .ok (.lcmp, 1)) (hd2 : decode M.2.1 (pc + 1) = .ok (.ifCond .eq off, 3)) (ht : ((pc + 1 : Nat) : Int) + off = (tgt : Int)) (kt : a = b → AWG X Z M rm l g x0 kc ks x tgt lv st) (kf : ¬ (a = b) → AWG X Z M rm l g x0 kc ks x (pc + 1 + 3) lv st) : AWG X Z M rm l g x0 kc ks x pc lv (.long b :: .long a :: st) :=
  ag_lcmp hd (ag_if_eq tgt hd2 ht (fun q => kt (lg_cmp_0.mp q)) (fun q => kf (fun z => q (lg_cmp_0.mpr z))))
theorem ag_lcmp_ne (tgt : Nat) {a b : Int64} {off : Int} (hd : decode M.2.1 pc = .ok (.lcmp, 1)) (hd2 : decode M.2.1 (pc + 1) = .ok (.ifCond .ne off, 3)) (ht : ((pc + 1 : Nat) : Int) + off = (tgt : Int)) (kt : ¬ (a = b) → AWG X Z M rm l g x0 kc ks x tgt lv st) (kf : a = b → AWG X Z M rm l g x0 kc ks x (pc + 1 + 3) lv st) : AWG X Z M rm l g x0 kc ks x pc lv (.long b :: .long a :: st) :=
  ag_lcmp hd (ag_if_ne tgt hd2 ht (fun q => kt (fun z => q (lg_cmp_0.mpr z))) (fun q => kf (lg_cmp_0.mp q)))
end AG09
