/-! making: new objects and arrays, constructors -/
theorem cA_eq {D : va_G} {cA cB : ClassId} {s : State} (h : va_K D vwCl ([(cA, .int)] ++ [(cB, .int)]) s) : cB = cA := by
  have h1 : s.vm.findClass ("[" ++ (FieldType.int).toString) = some cA := (h.2 0 _ rfl).2
  have h2 : s.vm.findClass ("[" ++ (FieldType.int).toString) = some cB := (h.2 1 _ rfl).2
  exact Option.some.inj (h2.symm.trans h1)
theorem nA_0 : nA (fun _ => 0) = fun _ => (0 : Int32) := funext fun _ => nI_0
section New
variable {p : Program} {l : Launch} {e : Env} {R : Room} {s : State} {m : MethodId} {args : Array Value} {below : List Frame} {meth : Method} {c : Code} {H : Heap} {locs : List Loc} {cells slots : Nat} {Q : State → Prop}
variable {cc : ByteArray} {nL : Nat} {own : String} {D : va_G} {cA : ClassId} {A : Nat → Prop} {ws : va_W} {pc : Nat} {ls : Array Slot} {rest : List Value}
theorem r_newa (E : Ev p s m args c cc nL own D cA A) (Z : Wd D A s ws H locs) {N : Nat} (hN : N < 1000) (hdg : decode cc pc = .ok (.newarray .int, 2)) (hcells : cells + 1 ≤ R.cells) (hslots : slots + N ≤ R.slots)
    (kk : ∀ (q : Nat) (H : Heap), Wd D A s (ws ++ [aN cA q N (fun _ => 0)]) H locs → W p l e R s m args below meth c H locs (cells + 1) (slots + N) Q (F0 m (pc + 2) ls (.ref q :: rest))) : W p l e R s m args below meth c H locs cells slots Q (F0 m pc ls (.int (nI N) :: rest)) := by
  obtain ⟨⟨hx, hb, hml, ho, ht⟩, hK, hA⟩ := E
  refine va_newa (atype := .int) (ty := .int) (N' := N) (a0 := (N, .inl (nA (fun _ => 0)))) hx hb (ht _ mA_int) rfl hK Z.1 Z.2.1 Z.2.2 hA (fun cB => ?_) (nI_pos (by omega)) (nI_clamp (by omega)) (by show N * 4 ≤ 536870912; omega) hcells hslots hdg (fun q cB H1 hK1 h1 h2 h3 => ?_)
  · rw [vp_cell_i, nA_0]; rfl
  · obtain rfl := cA_eq hK1
    exact kk q H1 ⟨h1, h2, h3⟩
theorem r_new (E : Ev p s m args c cc nL own D cA A) (Z : Wd D A s ws H locs) {C : String} {T : u_T} {N ci index : Nat} (hin : ∀ w ∈ u_ws C T N, w ∈ UW) (hc : vwCl[ci]? = some (C, T, N)) (ty : Nat → FieldType) (hty : ∀ k, k < N → parseFieldDescriptor (T k).2.2.1 = some (ty k)) (hcl : Cond.classLink own index C ∈ UW) (hinst : Cond.instantiable C N ∈ UW) (hini : Cond.initialized C ∈ UW) {fs : List Value} (hfs : ∀ j, j < N → defaultValue (ty j) = vp_V fs j) (hdg : decode cc pc = .ok (.new index, 3)) (hcells : cells + 1 ≤ R.cells) (hslots : slots + N ≤ R.slots)
    (kk : ∀ (q : Nat) (H : Heap), Wd D A s (ws ++ [(q, .inr (ci, fs))]) H locs → W p l e R s m args below meth c H locs (cells + 1) (slots + N) Q (F0 m (pc + 3) ls (.ref q :: rest))) : W p l e R s m args below meth c H locs cells slots Q (F0 m pc ls rest) := by
  obtain ⟨⟨hx, hb, hml, ho, ht⟩, hK, hA⟩ := E
  exact va_new hx hb ht hin ty hty ho (ht _ hcl) (ht _ hinst) (ht _ hini) hK Z.1 Z.2.1 Z.2.2 hA hc hfs hcells hslots hdg (fun q H1 h1 h2 h3 => kk q H1 ⟨h1, h2, h3⟩)
theorem r_objInit (E : Ev p s m args c cc nL own D cA A) (hls : ls.size = nL) {index a : Nat} (hl : Cond.methodLink own index objectInit ∈ UW) (hdg : decode cc pc = .ok (.invokespecial index, 3)) (hf : 1 ≤ R.frames) (hlo : (rest.map fun v => v.category).sum + 12 ≤ R.locals)
    (kk : W p l e R s m args below meth c H locs cells slots Q (F0 m (pc + 3) ls rest)) : W p l e R s m args below meth c H locs cells slots Q (F0 m pc ls (.ref a :: rest)) := by
  obtain ⟨⟨hx, hb, hml, ho, ht⟩, hK, hA⟩ := E
  exact W.objInit hx hb ho (ht _ hl) (ht _ mI_objInit) (ht _ mC_objInit) rfl (hls.trans hml.symm) rfl hdg hf (by show 2 * 0 + _ + 12 ≤ _; omega) kk
end New
/-- a constructor: its object's cell first, what it makes behind it -/
def CtN (l : Launch) (y : MethodName) (cc : ByteArray) (nL : Nat) (rm : Room) (D : va_G) (cA : ClassId) (b : Nat) (e0 : va_E) (X : State → Prop) {S : Type} (post : S → Prop) (w' : S → va_W) (mc ms : Nat) : Prop :=
  ∀ sz : Nat, Met l y (wd y cc nL none) rm (PcW D cA [.ref b] [(b, e0)] sz X) (va_Qv post (fun u t => va_P D vwCl (w' u) t.heap ∧ va_D (va_A [(b, e0)] sz) (w' u)) (va_A [(b, e0)] sz)) mc ms (va_A [(b, e0)] sz)
theorem st_N {l : Launch} {y : MethodName} {cc : ByteArray} {nL : Nat} {rm : Room} {D : va_G} {cA : ClassId} {b : Nat} {e0 : va_E} {X : State → Prop} {S : Type} {post : S → Prop} {w' : S → va_W} {mc ms : Nat} (hy : plainName y.cls = true) (hn : 1 ≤ nL)
    (body : ∀ (p : Program) (e : Env) (s : State) (m : MethodId) (args : Array Value) (below : List Frame) (meth : Method) (c : Code) (A : Nat → Prop) (Q : State → Prop), Ev p s m args c cc nL y.cls D cA A → X s → meth.name = y.name →
      (∀ {H : Heap} {locs : List Loc} {ws : va_W} {pc : Nat} {ls : Array Slot} (u : S), Wd D A s ws H locs → decode cc pc = .ok (.return_, 1) → ws = w' u → post u → W p l e rm s m args below meth c H locs mc ms Q (F0 m pc ls [])) →
      Wd D A s [(b, e0)] s.heap [] → ∀ ls : Array Slot, lv_has ls nL [(0, .ref b)] → W p l e rm s m args below meth c s.heap [] 0 0 Q (F0 m 0 ls [])) : CtN l y cc nL rm D cA b e0 X post w' mc ms := by
  intro sz
  refine Met.ofW (cc := cc) (maxL := nL) (ret := none) hy rfl ?_
  intro p e s m args below meth c s₁ B hml hv
  obtain ⟨rfl, hsz, hP, hK, hD0, hX⟩ := hv
  subst hsz
  have hts : ∀ w ∈ UW, w.before ([.ref b] : List Value).toArray s = true := fun w h => atoms_spec (ws := wd y cc nL none) B.pre w (List.mem_cons_of_mem _ h)
  have hl := lv_entry [.ref b] (n := nL) hn
  rw [lg_entry_eq]
  have E : Ev p s m ([.ref b] : List Value).toArray c cc nL y.cls D cA (va_A [(b, e0)] s.heap.size) := ⟨⟨B.exec, B.bytes, hml, findClass_of_methodNamed B.named, hts⟩, hK, fun q h => Or.inr h⟩
  refine body p e s m _ below meth c _ _ E hX (name_of_methodNamed B.named B.method).1 (fun u Z hd hw hp => ?_) ⟨hP, hD0.self, va_S.rf⟩ _ hl
  subst hw
  exact W.vret B.exec B.bytes B.returns (fun t ht _ => ⟨⟨u, rfl, hp, by rw [ht]; exact Z.1, Z.2.1⟩, Z.2.2.F ht⟩) Z.2.2.2.2 hd B.notSynchronized
section CallN
variable {p : Program} {l : Launch} {e : Env} {R : Room} {s : State} {m : MethodId} {args : Array Value} {below : List Frame} {meth : Method} {c : Code} {H : Heap} {locs : List Loc} {cells slots : Nat} {Q : State → Prop}
variable {cc : ByteArray} {nL : Nat} {own host : String} {D : va_G} {cA : ClassId} {A : Nat → Prop} {ws0 : va_W} {pc : Nat} {ls : Array Slot} {st0 rest : List Value} {b : Nat} {e0 : va_E}
variable {y : MethodName} {bytes : ByteArray} {maxL index : Nat} {rm : Room} {S : Type} {w' : S → va_W} {mc ms : Nat} {X : State → Prop} {post : S → Prop}
theorem last_at : [ws0.length].map (fun i => (ws0 ++ [(b, e0)])[i]?) = ([(b, e0)] : va_W).map some := by simp
theorem behindN (E : Ev p s m args c cc nL own D cA A) (Z : Wd D A s (ws0 ++ [(b, e0)]) H locs) {w1 : va_W} {H1 : Heap} {locs1 : List Loc} (hk : ∀ q : Nat, q < H.size → ¬ va_A [(b, e0)] H.size q → H1[q]? = H[q]?) (hP1 : va_P D vwCl w1 H1) (hD1 : va_D (va_A [(b, e0)] H.size) w1) (hS : va_S A s.heap H1 locs1) : Wd D A s (ws0 ++ w1) H1 locs1 := by
  have hF : ∀ q, va_A [(b, e0)] H.size q → A q := va_free Z.2.1 Z.2.2 E.2.2 [ws0.length] last_at
  have at0 : ∀ (k : Nat) (q : Nat × va_E), ws0[k]? = some q → (ws0 ++ [(b, e0)])[k]? = some q := fun k q h => by
    rw [List.getElem?_append_left (List.getElem?_eq_some_iff.mp h).1]; exact h
  have apart : ∀ (k : Nat) (q : Nat × va_E), ws0[k]? = some q → q.1 < H.size ∧ ¬ va_A [(b, e0)] H.size q.1 := by
    intro k q hq
    have hl := (Z.1 k q (at0 k q hq)).lt
    refine ⟨hl, fun h => ?_⟩
    rcases h with ⟨k2, e, h⟩ | h
    · have hk2 : k2 = 0 := by
        have := (List.getElem?_eq_some_iff.mp h).1
        simp at this
        omega
      subst hk2
      have hqb : (b, e0) = (q.1, e) := Option.some.inj h
      have hij := Z.2.1.1 k ws0.length q (b, e0) (at0 k q hq) (by simp) (by rw [show b = q.1 from congrArg Prod.fst hqb])
      have := (List.getElem?_eq_some_iff.mp hq).1
      omega
    · omega
  refine ⟨va_P.app (fun k q hq => ?_) hP1, va_D.app ⟨fun i j x y hx hy hxy => Z.2.1.1 i j x y (at0 i x hx) (at0 j y hy) hxy, fun k q hq => Z.2.1.2 k q (at0 k q hq)⟩ (hD1.weaken (fun k q _ h => hF q.1 h)) (fun i j x y hx hy hxy => ?_), hS⟩
  · obtain ⟨g1, g2⟩ := apart k q hq
    exact (Z.1 k q (at0 k q hq)).kept (hk q.1 g1 g2)
  · exact (apart i x hx).2 (by rw [hxy]; exact hD1.2 j y hy)
theorem c_Nn (E : Ev p s m args c cc nL own D cA A) (Z : Wd D A s (ws0 ++ [(b, e0)]) H locs) (M : CtN l y bytes maxL rm D cA b e0 (fun _ => True) post w' mc ms) (hl : (Cond.methodLinkNest own index y host).before args s = true) (hin : Cond.instanceMethod y ∈ UW) (hini : Cond.initialized y.cls ∈ UW) (hcode : Cond.code y bytes maxL none ∈ UW) (hnm : Nm y 0) (hyn : y.name = "<init>") (hR : rm.cells = mc ∧ rm.slots = ms ∧ rm.frames + 1 ≤ R.frames ∧ 8 + (maxL + 11) + rm.locals ≤ R.locals)
    (hls : ls.size = nL) (hst : st0 = .ref b :: rest) (hro : (rest.map fun v => v.category).sum ≤ 8) (hdg : decode cc pc = .ok (.invokespecial index, 3)) (hf : cells + mc ≤ R.cells ∧ slots + ms ≤ R.slots)
    (kk : ∀ (u : S) (H : Heap) (locs : List Loc), post u → Wd D A s (ws0 ++ w' u) H locs → W p l e R s m args below meth c H locs (cells + mc) (slots + ms) Q (F0 m (pc + 3) ls rest)) : W p l e R s m args below meth c H locs cells slots Q (F0 m pc ls st0) := by
  have ht := E.1.2.2.2.2
  have hFc : ∀ q, va_A [(b, e0)] H.size q → A q := va_free Z.2.1 Z.2.2 E.2.2 [ws0.length] last_at
  have hpre := hpre_at (w := [(b, e0)]) (av := [.ref b]) (X := fun _ => True) E Z [ws0.length] rfl last_at (fun _ _ _ => trivial)
  have hcw : va_CN R s args own index y host bytes maxL none (wd y bytes maxL none) rm mc ms 0 := va_cnB (ws' := UW) 0 ht (cg hcode (fun _ h => h)) rfl hR.1 hR.2.1 (va_Nw.of rfl hl) (ht _ hini) hnm ⟨hR.2.2.1, hR.2.2.2⟩
  exact va_callv (va_runIN (n := 0) (As := []) (rest := rest) (b := b) E.1 (M H.size) ⟨hcw, hyn, ht _ hin⟩ ⟨hpre_blind (fun _ _ _ _ _ => trivial), hpre⟩ rfl rfl hls hst (lv_room hro) hdg hf) Z.2.2 (fun q _ h => hFc q h) hFc
    (fun u t H1 locs1 h9 _ hp hB _ hk hS => kk u H1 locs1 hp (behindN E Z hk (by rw [← h9]; exact hB.1) hB.2 hS))
theorem c_Ni (E : Ev p s m args c cc nL own D cA A) (Z : Wd D A s (ws0 ++ [(b, e0)]) H locs) (M : CtN l y bytes maxL rm D cA b e0 X post w' mc ms) (hX1 : ∀ (U : State) (g : JFrame) (mk : MethodId) (a : Array Value), X U → X (U.calling g mk a)) (hX : ∀ U : State, U.heap = H → s.WarmedH U.vm → X U) (hl : Cond.methodLink own index y ∈ UW) (hin : Cond.instanceMethod y ∈ UW) (hini : Cond.initialized y.cls ∈ UW) (hcode : Cond.code y bytes maxL none ∈ UW) (hnm : Nm y 0) (hyn : y.name = "<init>") (hR : rm.cells = mc ∧ rm.slots = ms ∧ rm.frames + 1 ≤ R.frames ∧ 8 + (maxL + 11) + rm.locals ≤ R.locals)
    (hls : ls.size = nL) (hst : st0 = .ref b :: rest) (hro : (rest.map fun v => v.category).sum ≤ 8) (hdg : decode cc pc = .ok (.invokespecial index, 3)) (hf : cells + mc ≤ R.cells ∧ slots + ms ≤ R.slots)
    (kk : ∀ (u : S) (H : Heap) (locs : List Loc), post u → Wd D A s (ws0 ++ w' u) H locs → W p l e R s m args below meth c H locs (cells + mc) (slots + ms) Q (F0 m (pc + 3) ls rest)) : W p l e R s m args below meth c H locs cells slots Q (F0 m pc ls st0) := by
  have ht := E.1.2.2.2.2
  have hFc : ∀ q, va_A [(b, e0)] H.size q → A q := va_free Z.2.1 Z.2.2 E.2.2 [ws0.length] last_at
  have hpre := hpre_at (w := [(b, e0)]) (av := [.ref b]) (X := X) E Z [ws0.length] rfl last_at hX
  have hcw : CallB R s args own index y bytes maxL none (wd y bytes maxL none) rm mc ms 0 := callB_of (ws' := UW) 0 ht (cg hcode (fun _ h => h)) rfl hR.1 hR.2.1 (ht _ hini) (ht _ hl) hnm ⟨hR.2.2.1, hR.2.2.2⟩
  exact va_callv (va_runI (n := 0) (As := []) (rest := rest) (b := b) E.1 (M H.size) ⟨hcw, hyn, ht _ hin⟩ ⟨hpre_blind hX1, hpre⟩ rfl rfl hls hst (lv_room hro) hdg hf) Z.2.2 (fun q _ h => hFc q h) hFc
    (fun u t H1 locs1 h9 _ hp hB _ hk hS => kk u H1 locs1 hp (behindN E Z hk (by rw [← h9]; exact hB.1) hB.2 hS))
end CallN
theorem dflt0 : Value.int 0 = Value.int (nI 0) := by rw [nI_0]
