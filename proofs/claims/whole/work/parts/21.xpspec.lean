/-! the class's table of traces: a static row that nobody writes -/
def trk (j : Nat) : Nat := if j = 0 then 1 else if j = 1 then 11 else 111
def XZ (A : Nat → Prop) (U : State) (H : Heap) : Prop := ∃ t0 : Nat, va_Z "PartCells" "TRACE_OF_KIND" "[I" (.ref t0) A U H ∧ va_T .int t0 3 (fun j => .int (nI (trk j))) A U H
def CtiX (l : Launch) (y : MethodName) (cc : ByteArray) (nL : Nat) (rt : Option FieldType) (rm : Room) (D : va_G) (cA : ClassId) (av : List Value) (w : va_W) {S : Type} (post : Int32 → S → Prop) (w' : S → va_W) : Prop :=
  ∀ sz : Nat, Met l y (wd y cc nL rt) rm (PcW D cA av w sz (fun U => XZ (va_A w U.heap.size) U U.heap)) (va_Qi post (fun u t => va_P D vwCl (w' u) t.heap) (va_A w sz)) 0 0 (va_A w sz)
theorem st_iX {l : Launch} {y : MethodName} {cc : ByteArray} {nL : Nat} {rm : Room} {D : va_G} {cA : ClassId} {av : List Value} {w : va_W} {S : Type} {w' : S → va_W} {post : Int32 → S → Prop} (hy : plainName y.cls = true) (hn : (lg_sl av).length ≤ nL)
    (body : ∀ (p : Program) (e : Env) (s : State) (m : MethodId) (args : Array Value) (below : List Frame) (meth : Method) (c : Code) (A : Nat → Prop) (Q : State → Prop), Ev p s m args c cc nL y.cls D cA A → XZ A s s.heap →
      (∀ {H : Heap} {locs : List Loc} {ws : va_W} {pc : Nat} {ls : Array Slot} {v : Int32} (u : S), Wd D A s ws H locs → decode cc pc = .ok (.ireturn, 1) → ws = w' u → post v u → W p l e rm s m args below meth c H locs 0 0 Q (F0 m pc ls [.int v])) →
      Wd D A s w s.heap [] → ∀ ls : Array Slot, lv_has ls nL (lv_args 0 av) → W p l e rm s m args below meth c s.heap [] 0 0 Q (F0 m 0 ls [])) : CtiX l y cc nL (some .int) rm D cA av w post w' :=
  ct_any (X := fun U => XZ (va_A w U.heap.size) U U.heap) (Qc := fun sz => va_Qi post (fun u t => va_P D vwCl (w' u) t.heap) (va_A w sz)) hy hn (fun p e s m below meth c E hr hk _ Z hX ls hl => body p e s m _ below meth c _ _ E hX (fun u Z hd hw hp => r_iret E Z hr hk hd u hw hp) Z ls hl)
section CallX
variable {p : Program} {l : Launch} {e : Env} {R : Room} {s : State} {m : MethodId} {args : Array Value} {below : List Frame} {meth : Method} {c : Code} {H : Heap} {locs : List Loc} {cells slots : Nat} {Q : State → Prop}
variable {cc : ByteArray} {nL : Nat} {own : String} {D : va_G} {cA : ClassId} {A : Nat → Prop} {ws w : va_W} {pc : Nat} {ls : Array Slot} {st0 rest As : List Value} {b : Nat}
variable {y : MethodName} {bytes : ByteArray} {maxL index : Nat} {rt : Option FieldType} {rm : Room} {S : Type} {w' w2 : S → va_W}
theorem XZ.at (hXs : XZ A s s.heap) (E : Ev p s m args c cc nL own D cA A) (Z : Wd D A s ws H locs) (isC : List Nat) (hC : isC.map (fun i => ws[i]?) = w.map some) : ∀ U : State, U.heap = H → s.WarmedH U.vm → XZ (va_A w U.heap.size) U U.heap := by
  intro U hU hW
  obtain ⟨t0, h1, h2⟩ := hXs
  have hk : ∀ a : Nat, a < s.heap.size → ¬ A a → H[a]? = s.heap[a]? := fun a h q => Z.2.2.2.1 a h q
  have hf : ∀ q, va_A w H.size q → A q := va_free Z.2.1 Z.2.2 E.2.2 isC hC
  rw [hU]
  exact ⟨t0, va_Z.moved hW.alike ((h1.kept hk).narrow hf), va_T.moved hW.alike ((h2.kept hk).narrow hf)⟩
theorem c_ViX {n : Nat} {post : Int32 → S → Prop} (hXs : XZ A s s.heap) (E : Ev p s m args c cc nL own D cA A) (Z : Wd D A s ws H locs) (M : CtiX l y bytes maxL rt rm D cA (.ref b :: As) w post w') (hw : WV own index y bytes maxL rt n) (hR : Rm rm R maxL) (isC : List Nat) (hnd : va_nd isC = true) (hC : isC.map (fun i => ws[i]?) = w.map some) {q0 ci : Nat} {q : vw_C} {fs : List Value} (hq : vwCl[ci]? = some q) (hcl : y.cls = q.1) (hb0 : w[q0]? = some (b, .inr (ci, fs)))
    (hs : ∀ u, (w' u).map (fun q => q.1) = w.map (fun q => q.1)) (hw2 : ∀ u, wput ws isC (w' u) = w2 u) (hn : As.length = n) (hls : ls.size = nL) (hst : st0 = As.reverse ++ .ref b :: rest) (hro : (rest.map fun v => v.category).sum ≤ 8) (hdg : decode cc pc = .ok (.invokevirtual index, 3)) (hf : cells ≤ R.cells ∧ slots ≤ R.slots)
    (kk : ∀ (r : Int32) (u : S) (H : Heap) (locs : List Loc), post r u → Wd D A s (w2 u) H locs → W p l e R s m args below meth c H locs cells slots Q (F0 m (pc + 3) ls (.int r :: rest))) : W p l e R s m args below meth c H locs cells slots Q (F0 m pc ls st0) :=
  va_calli (runV E Z (M H.size) (fun U _ _ _ h => by
      obtain ⟨t0, h1, h2⟩ := h
      exact ⟨t0, va_Z.moved (Vm.Alike.refl U.vm) h1, va_T.moved (Vm.Alike.refl U.vm) h2⟩) (hXs.at E Z isC hC) hw hR isC hnd hC hq hcl hb0 hn hls hst hro hdg hf) Z.2.2 (fun q _ h => va_free Z.2.1 Z.2.2 E.2.2 isC hC q h) (va_free Z.2.1 Z.2.2 E.2.2 isC hC)
    (fun r u t H1 locs1 ht _ hp hB _ hk hS => kk r u H1 locs1 hp (behind E Z isC hC (hs u) (hw2 u) hk (by rw [← ht]; exact hB) hS))
end CallX
noncomputable def aBest (M P : Nat) (sets amts : Nat → Nat) (ch kd L w : Nat) : Int32 := if 4 * L < M then -2 else if w = 0 then nI (sgb M P sets amts ch kd L (2 ^ (2 * M - 2))).1 else nI (sgb M P sets amts ch kd L (2 ^ (2 * M - 2))).2
theorem hs7_of {sets : Nat → Nat} {M : Nat} (hs : ∀ j, sets j < 2 ^ M) (hM : M ≤ 7) : ∀ j, sets j < 128 := fun j => Nat.lt_of_lt_of_le (hs j) (show 2 ^ M ≤ 2 ^ 7 from Nat.pow_le_pow_right (by decide) hM)
