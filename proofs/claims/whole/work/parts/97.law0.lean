/-! THE CLAIM OUT OF ONE WALK OF THE LAW'S BODY. Your part is whole_start (and what it stands on); all else here is the same for every law, but numbers. -/
def R_law : String := "AtariGardenLaw"
def lw_P (b : Addr) (xs : List Int32) (args : Array Value) (s : State) : Prop := args = #[.ref b] ∧ s.IntsAt b xs ∧ xs.length ≤ 3072 ∧ (Jvm.Cond.and given_1 narrow_1).before args s = true
def lw_Q (_ : Array Value) (s : State) (o : Outcome) (t : State) : Prop := o = .returned (some (.int 1)) ∧ Framed s o t [] 601024 7293034
def lw_Z (below : List Frame) (a : Array Value) (s : State) : State → Prop := fun t => ∃ o, t.status = .running ∧ Ended t below o ∧ lw_Q a s o t
/-- the law's own end, with 1 on the stack, nothing written that was there before, its room as the claim has it -/
theorem lw_ret {p : Program} {l : Launch} {e : Env} {s : State} {m : MethodId} {below : List Frame} {meth : Method} {c : Code} {b : Nat} (hx : p.tables.exec = Jvm.exec) (hb : c.code = code) (hr : meth.sig.returnType = ret) (hlocks : meth.locks = false) {pc : Nat} {H : Heap} {ls : Array Slot} (hdg : decode code pc = .ok (.ireturn, 1)) : W p l e room_1 s m #[Value.ref b] below meth c H [] 601024 7293034 (lw_Z below #[Value.ref b] s) (F0 m pc ls [.int 1]) := by
  intro T hT X
  obtain ⟨fs, hret, hrun, hended, hW, hframe⟩ := X.leave (v := some (.int 1)) (hlocks := hlocks) (fun h => by rw [hr] at h; cases h)
  have hmeth' : T.vm.method? m = some meth := X.method'
  refine ⟨T.setFrames fs, ?_, .returned (some (.int 1)), hrun, hended, rfl, ⟨_, rfl⟩, hW, hframe⟩
  jvm_step X.here [X.here.top, hx, hb, hdg, hmeth', hr, ret, narrow_b1]
  (try refine ⟨rfl, ?_⟩); (try refine ⟨rfl, ?_⟩)
  first | (intro acts; rw [hret _ acts rfl rfl rfl]) | rw [hret _ _ rfl rfl rfl]
  exact Steps.refl _
/-- what holds at the law's entry: the machine, the code, the tables' words (any of lw_tbl by 'hts w (by decide +kernel)'), the script of L ints xs at the cell b, what the Statement gives of the start (any of its parts by flat_of_before) -/
def lw_At (p : Program) (s : State) (m : MethodId) (meth : Method) (c : Code) (b L : Nat) (xs : Nat → Int32) : Prop :=
  p.tables.exec = Jvm.exec ∧ c.code = code ∧ meth.sig.returnType = ret ∧ c.maxLocals = 7 ∧ s.vm.findClass R_law = some m.cls ∧ (∀ w ∈ lw_tbl, w.before #[Value.ref b] s = true) ∧ va_X b L xs s s.heap ∧ b < s.heap.size ∧ meth.locks = false ∧ (Jvm.Cond.and given_1 narrow_1).before #[Value.ref b] s = true
/-! The law's own rows. -/
abbrev MLw (nm : String) : xM := ("AtariGardenLaw", cL_law, 7, ret, nm)
def XLw (b L : Nat) (xs : Nat → Int32) : xXT := fun s args _ => args = #[Value.ref b] ∧ va_X b L xs s s.heap ∧ xK s
abbrev x0L (sz : Nat) : xV := (sz, fun _ => none)
abbrev lvL (t mo b : Nat) (i : Int32) : List (Nat × Value) := [(4, .int i), (3, .ref (mo + 39)), (2, .ref mo), (1, va_rf (some t)), (0, .ref b)]
abbrev AL (b L : Nat) (xs : Nat → Int32) (nm : String) (l : Launch) (g : xG) (sz kc ks : Nat) (x : xV) (pc : Nat) (lv : List (Nat × Value)) (st : List Value) : Prop := AWG (XLw b L xs) lw_Z (MLw nm) room_1 l g (x0L sz) kc ks x pc lv st
section AL
variable {b L : Nat} {xs : Nat → Int32} {nm : String} {l : Launch} {g : xG} {sz kc ks : Nat} {x : xV} {pc : Nat} {lv : List (Nat × Value)} {st : List Value}
theorem al_ret (hd : decode cL_law pc = .ok (.ireturn, 1)) (hk : kc ≤ 601024 ∧ ks ≤ 7293034) : AL b L xs nm l g sz kc ks x pc lv [.int 1] := fun p e s m args below meth c B hX H locs ls hH hl => by
  obtain ⟨rfl, -, -⟩ := hX
  refine W.widen hk.1 hk.2 (va_forget (fun q hq => ?_) (lw_ret B.1 B.2.1 B.2.2.2.1 B.2.2.2.2.1 hd))
  rcases hH.2.2.2.2 q hq with h | h
  · exact absurd rfl h
  · rw [B.2.2.2.2.2.2.2.2.1]; exact h
theorem vin_nI {k n : Nat} (h : k < n) (hn : k < 2 ^ 31) : vp_in (nI k) n := fun z => z.elim (nI_pos hn) (by rw [nI_clamp hn]; omega)
theorem al_rd {i j : Nat} {n : Int} (p0 p4 : Nat) (hij : i + j < L) (hL : L ≤ 3072) (hb : b < sz) (h0 : lv[p0]? = some (0, .ref b)) (h4 : lv[p4]? = some (4, .int (nI i))) (d0 : decode cL_law pc = .ok (.aload_n 0, 1)) (d1 : decode cL_law (pc + 1) = .ok (.iload 4, 2)) (d2 : decode cL_law (pc + 1 + 2) = .ok (.iconst n, 1)) (hn : Int32.ofInt n = nI j) (d3 : decode cL_law (pc + 1 + 2 + 1) = .ok (.iadd, 1)) (d4 : decode cL_law (pc + 1 + 2 + 1 + 1) = .ok (.iaload, 1))
    (k : AL b L xs nm l g sz kc ks x (pc + 6) lv (.int (xs (i + j)) :: st)) : AL b L xs nm l g sz kc ks x pc lv st := by
  refine ag_aload_n p0 d0 h0 ?_
  refine ag_iload p4 d1 h4 ?_
  refine ag_iconst (nI j) d2 hn ?_
  refine ag_iadd d3 ?_
  rw [nI_add]
  refine ag_sld (L := L) (xs := xs) (fun s args c h => h.2.1) hb rfl (vin_nI hij (by omega)) d4 ?_
  rw [nI_clamp (show i + j < 2 ^ 31 by omega)]
  exact k
end AL
section LWM
variable {g : xG} {mo : Nat} {h : TH} {S S2 : MS} {o : Nat → Int64}
theorem LW_mo (hD : LD mo h) : (LW g mo h S o).2 mo = some (.inr (7, moF mo S)) := by
  unfold LW
  rw [xU_r (thE_no (hD.2.1 mo (Nat.le_refl _) (by omega)))]
  unfold LY
  rw [mo_ob]
theorem ct9 {y : MethodName} {M : xM} {rm : Room} {l : Launch} {av : List Value} {v : Option Value ⊕ String} (hD : LD mo h) (hc : CT y M rm l g av (moE g mo (t_sz h) S) v (moE g mo (t_sz h) S2)) : CT y M rm l g av (LW g mo h S o) v (LW g mo h S2 o) := by
  rw [LW_m (S := S) hD, LW_m (S := S2) hD]
  exact hc.frame (LD.djm hD)
theorem ct9t {y : MethodName} {M : xM} {rm : Room} {l : Launch} {av : List Value} {v : Option Value ⊕ String} (hD : LD mo h) (hc : CT y M rm l g av (moE g mo (t_sz h) S) v (moE g mo (t_sz h) S)) : CT y M rm l g av (LW g mo h S o) v (LW g mo h S o) := ct9 hD hc
end LWM
theorem thr47 {S : MS} {kv : Int32} (h : m_i S 47 = kv) : fX9_thrown S = some kv := by
  unfold fX9_thrown
  rw [h]
/-! the relation in the law's words -/
section RRL
variable {mo t K : Nat} {h : TH} {S : MS}
theorem RR.ld (H : RR mo t K h S) : LD mo h := by
  obtain ⟨c, s, n, G, N, P, gm, nd, gl, nl, ol, kp, hP, R⟩ := H
  exact R.2.2.2.2.2.2
theorem RR.k7 (H : RR mo t K h S) : t_kd h t = 7 := by
  obtain ⟨c, s, n, G, N, P, gm, nd, gl, nl, ol, kp, hP, R⟩ := H
  exact R.1.1
theorem RR.Z {z : Nat} (H : RR mo t K h S) (hz : t_sz h ≤ z) : RR mo t K (s_Z h z) S := by
  have hD := H.ld
  obtain ⟨c, s, n, G, N, P, gm, nd, gl, nl, ol, kp, hP, R⟩ := H
  exact ⟨c, s, n, G, N, P, gm, nd, gl, nl, ol, kp, hP, R.xt ⟨Bx.rf.Z hz, fun _ _ => ⟨rfl, rfl⟩⟩ (hD.Z hz)⟩
theorem RR.nx (H : RR mo t K h S) : RR mo t (K + 1) h S := H.up (by omega) (fun n => Sq.rf)
end RRL
theorem and31 (x : Int32) : ∃ j, j < 32 ∧ x &&& 31 = nI j := by
  refine ⟨(x.toBitVec &&& 31#32).toNat, ?_, ?_⟩
  · rw [BitVec.toNat_and]
    exact Nat.lt_of_le_of_lt Nat.and_le_right (by decide)
  · apply Int32.toBitVec_inj.mp
    show x.toBitVec &&& 31#32 = (Int32.ofNat (x.toBitVec &&& 31#32).toNat).toBitVec
    show x.toBitVec &&& 31#32 = BitVec.ofNat 32 (x.toBitVec &&& 31#32).toNat
    rw [BitVec.ofNat_toNat, BitVec.setWidth_eq]
