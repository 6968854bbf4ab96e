/-! ROWS OF THIS CLAIM: one word list UW; a method's walk carries E (what stays) and Z (the world now); numbers are nI of a Nat where they can be -/
def up {α : Type} (g : Nat → α) (k : Nat) (v : α) : Nat → α := fun j => if j = k then v else g j
def nA (g : Nat → Nat) : Nat → Int32 := fun j => nI (g j)
abbrev ar (cA : ClassId) (n : Nat) (g : Nat → Nat) : va_E := .inl (cA, n, .inl (nA g))
abbrev arR (cA : ClassId) (n : Nat) (g : Nat → Int32) : va_E := .inl (cA, n, .inl g)
theorem up_s {α : Type} (g : Nat → α) (k : Nat) (v : α) : up g k v k = v := if_pos rfl
theorem up_n {α : Type} (g : Nat → α) {k j : Nat} (v : α) (h : j ≠ k) : up g k v j = g j := if_neg h
theorem upd_nA (g : Nat → Nat) (k v : Nat) : upd (nA g) k (nI v) = nA (up g k v) := by
  funext j
  unfold upd nA up
  by_cases h : j = k
  · rw [if_pos h, if_pos h]
  · rw [if_neg h, if_neg h]
theorem upd_up (g : Nat → Int32) (k : Nat) (v : Int32) : upd g k v = up g k v := rfl
def Ev (p : Program) (s : State) (m : MethodId) (args : Array Value) (c : Code) (cc : ByteArray) (nL : Nat) (own : String) (D : va_G) (cA : ClassId) (A : Nat → Prop) : Prop :=
  CallFix p m c cc nL s args UW own ∧ va_K D vwCl [(cA, .int)] s ∧ (∀ q, s.heap.size ≤ q → A q)
def Wd (D : va_G) (A : Nat → Prop) (s : State) (ws : va_W) (H : Heap) (locs : List Loc) : Prop := va_P D vwCl ws H ∧ va_D A ws ∧ va_S A s.heap H locs
/-- the world with some of its cells put anew -/
def wput : va_W → List Nat → va_W → va_W
  | ws, i :: is, x :: xs => wput (ws.set i x) is xs
  | ws, _, _ => ws
theorem wput_at : ∀ (is : List Nat) (ws w1 : va_W), is.length = w1.length → ∀ (k : Nat) (q : Nat × va_E), (wput ws is w1)[k]? = some q → (∃ i : Nat, is[i]? = some k ∧ w1[i]? = some q) ∨ (ws[k]? = some q ∧ k ∉ is) := by
  intro is
  induction is with
  | nil =>
    intro ws w1 hl k q h
    refine Or.inr ⟨?_, List.not_mem_nil⟩
    cases w1 <;> exact h
  | cons i0 is ih =>
    intro ws w1 hl k q h
    cases w1 with
    | nil => simp at hl
    | cons x xs =>
      rcases ih (ws.set i0 x) xs (by simpa using hl) k q h with ⟨i, h1, h2⟩ | ⟨h1, h2⟩
      · exact Or.inl ⟨i + 1, by simpa using h1, by simpa using h2⟩
      · by_cases hk : i0 = k
        · subst hk
          refine Or.inl ⟨0, rfl, ?_⟩
          rw [List.getElem?_set] at h1
          rw [if_pos rfl] at h1
          by_cases hlt : i0 < ws.length
          · rw [if_pos hlt] at h1; exact h1
          · rw [if_neg hlt] at h1; cases h1
        · rw [List.getElem?_set_ne hk] at h1
          refine Or.inr ⟨h1, ?_⟩
          intro hm
          rcases List.mem_cons.mp hm with e | e
          · exact hk e.symm
          · exact h2 e
theorem wput_self : ∀ (is : List Nat) (ws wc : va_W), is.map (fun i => ws[i]?) = wc.map some → wput ws is wc = ws := by
  intro is
  induction is with
  | nil =>
    intro ws wc h
    cases wc <;> rfl
  | cons i0 is ih =>
    intro ws wc h
    cases wc with
    | nil => simp at h
    | cons x xs =>
      simp only [List.map_cons, List.cons.injEq] at h
      have e : ws.set i0 x = ws := by
        apply List.ext_getElem?
        intro k
        rw [List.getElem?_set]
        by_cases hk : i0 = k
        · subst hk
          rw [if_pos rfl]
          have hlt : i0 < ws.length := (List.getElem?_eq_some_iff.mp h.1).1
          rw [if_pos hlt, h.1]
        · rw [if_neg hk]
      show wput (ws.set i0 x) is xs = ws
      rw [e]
      exact ih ws xs h.2
theorem wjoin {A0 : Nat → Prop} {D : va_G} {cl : List vw_C} {ws wc w1 : va_W} {H H1 : Heap} (hP : va_P D cl ws H) (hD : va_D A0 ws) (isC : List Nat) (hC : isC.map (fun i => ws[i]?) = wc.map some) (hs : w1.map (fun q => q.1) = wc.map (fun q => q.1))
    (hk : ∀ q : Nat, q < H.size → ¬ va_A wc H.size q → H1[q]? = H[q]?) (hP1 : va_P D cl w1 H1) : va_P D cl (wput ws isC w1) H1 ∧ va_D A0 (wput ws isC w1) := by
  have hlen : isC.length = w1.length := by
    have h1 := congrArg List.length hC
    have h2 := congrArg List.length hs
    simp only [List.length_map] at h1 h2
    omega
  have at' : ∀ (k : Nat) (q : Nat × va_E), wc[k]? = some q → ∃ i, isC[k]? = some i ∧ ws[i]? = some q := by
    intro k q hq
    have h1 : (isC.map (fun i => ws[i]?))[k]? = some (some q) := by rw [hC, List.getElem?_map, hq]; rfl
    rw [List.getElem?_map] at h1
    cases hi : isC[k]? with
    | none => rw [hi] at h1; cases h1
    | some i => rw [hi] at h1; exact ⟨i, rfl, Option.some.inj h1⟩
  have addr : ∀ (k : Nat) (q : Nat × va_E), (wput ws isC w1)[k]? = some q → ∃ e, ws[k]? = some (q.1, e) := by
    intro k q hq
    rcases wput_at isC ws w1 hlen k q hq with ⟨i, h1, h2⟩ | ⟨h1, -⟩
    · have h3 : (w1.map (fun q => q.1))[i]? = some q.1 := by rw [List.getElem?_map, h2]; rfl
      rw [hs, List.getElem?_map] at h3
      cases hw : wc[i]? with
      | none => rw [hw] at h3; cases h3
      | some z =>
        rw [hw] at h3
        obtain ⟨j, h4, h5⟩ := at' i z hw
        rw [h1] at h4
        cases h4
        exact ⟨z.2, by rw [h5]; have h6 : z.1 = q.1 := Option.some.inj h3; rw [← h6]⟩
    · exact ⟨q.2, h1⟩
  refine ⟨fun k q hq => ?_, fun i j x y hx hy hxy => ?_, fun k q hq => ?_⟩
  · rcases wput_at isC ws w1 hlen k q hq with ⟨i, -, h2⟩ | ⟨h1, h2⟩
    · exact hP1 i q h2
    · have hl := (hP k q h1).lt
      refine (hP k q h1).kept (hk q.1 hl fun h => ?_)
      rcases h with ⟨k2, e, h⟩ | h
      · obtain ⟨j, h3, h4⟩ := at' k2 (q.1, e) h
        have hij := hD.1 k j q (q.1, e) h1 h4 rfl
        subst hij
        exact h2 (List.mem_of_getElem? h3)
      · omega
  · obtain ⟨e1, h1⟩ := addr i x hx
    obtain ⟨e2, h2⟩ := addr j y hy
    exact hD.1 i j _ _ h1 h2 hxy
  · obtain ⟨e1, h1⟩ := addr k q hq
    exact hD.2 k (q.1, e1) h1
/-! contracts -/
abbrev wd (y : MethodName) (cc : ByteArray) (nL : Nat) (rt : Option FieldType) : List Cond := Cond.code y cc nL rt :: UW
abbrev PcW (D : va_G) (cA : ClassId) (av : List Value) (w : va_W) (sz : Nat) (X : State → Prop) : Array Value → State → Prop := va_Pc av (fun U => U.heap.size = sz ∧ va_P D vwCl w U.heap ∧ va_K D vwCl [(cA, .int)] U ∧ va_D (fun _ => True) w ∧ X U)
def Cti (l : Launch) (y : MethodName) (cc : ByteArray) (nL : Nat) (rt : Option FieldType) (rm : Room) (D : va_G) (cA : ClassId) (av : List Value) (w : va_W) {S : Type} (post : Int32 → S → Prop) (w' : S → va_W) : Prop :=
  ∀ sz : Nat, Met l y (wd y cc nL rt) rm (PcW D cA av w sz (fun _ => True)) (va_Qi post (fun u t => va_P D vwCl (w' u) t.heap) (va_A w sz)) 0 0 (va_A w sz)
def Ctl (l : Launch) (y : MethodName) (cc : ByteArray) (nL : Nat) (rt : Option FieldType) (rm : Room) (D : va_G) (cA : ClassId) (av : List Value) (w : va_W) {S : Type} (post : Int64 → S → Prop) (w' : S → va_W) : Prop :=
  ∀ sz : Nat, Met l y (wd y cc nL rt) rm (PcW D cA av w sz (fun _ => True)) (va_Ql post (fun u t => va_P D vwCl (w' u) t.heap) (va_A w sz)) 0 0 (va_A w sz)
def Ctv (l : Launch) (y : MethodName) (cc : ByteArray) (nL : Nat) (rt : Option FieldType) (rm : Room) (D : va_G) (cA : ClassId) (av : List Value) (w : va_W) {S : Type} (post : S → Prop) (w' : S → va_W) : Prop :=
  ∀ sz : Nat, Met l y (wd y cc nL rt) rm (PcW D cA av w sz (fun _ => True)) (va_Qv post (fun u t => va_P D vwCl (w' u) t.heap) (va_A w sz)) 0 0 (va_A w sz)
abbrev Qi {S : Type} (below : List Frame) (s : State) (args : Array Value) (D : va_G) (A : Nat → Prop) (post : Int32 → S → Prop) (w' : S → va_W) : State → Prop := MQ below (va_Qi post (fun u t => va_P D vwCl (w' u) t.heap) A) args s 0 0 A
abbrev Ql {S : Type} (below : List Frame) (s : State) (args : Array Value) (D : va_G) (A : Nat → Prop) (post : Int64 → S → Prop) (w' : S → va_W) : State → Prop := MQ below (va_Ql post (fun u t => va_P D vwCl (w' u) t.heap) A) args s 0 0 A
abbrev Qv {S : Type} (below : List Frame) (s : State) (args : Array Value) (D : va_G) (A : Nat → Prop) (post : S → Prop) (w' : S → va_W) : State → Prop := MQ below (va_Qv post (fun u t => va_P D vwCl (w' u) t.heap) A) args s 0 0 A
section Starts
variable {l : Launch} {y : MethodName} {cc : ByteArray} {nL : Nat} {rt : Option FieldType} {rm : Room} {D : va_G} {cA : ClassId} {av : List Value} {w : va_W} {S : Type} {w' : S → va_W}
theorem ct_any {Qc : Nat → Array Value → State → Outcome → State → Prop} {X : State → Prop} (hy : plainName y.cls = true) (hn : (lg_sl av).length ≤ nL)
    (body : ∀ (p : Program) (e : Env) (s : State) (m : MethodId) (below : List Frame) (meth : Method) (c : Code), Ev p s m av.toArray c cc nL y.cls D cA (va_A w s.heap.size) → meth.sig.returnType = rt → meth.locks = false → meth.name = y.name → Wd D (va_A w s.heap.size) s w s.heap [] → X s →
      ∀ ls : Array Slot, lv_has ls nL (lv_args 0 av) → W p l e rm s m av.toArray below meth c s.heap [] 0 0 (MQ below (Qc s.heap.size) av.toArray s 0 0 (va_A w s.heap.size)) (F0 m 0 ls [])) :
    ∀ sz : Nat, Met l y (wd y cc nL rt) rm (PcW D cA av w sz X) (Qc sz) 0 0 (va_A w sz) := by
  intro sz
  refine Met.ofW (cc := cc) (maxL := nL) (ret := rt) hy rfl ?_
  intro p e s m args below meth c s₁ B hml hv
  obtain ⟨rfl, hsz, hP, hK, hD0, hX⟩ := hv
  subst hsz
  have hts : ∀ w ∈ UW, w.before av.toArray s = true := fun w h => atoms_spec (ws := wd y cc nL rt) B.pre w (List.mem_cons_of_mem _ h)
  have hl := lv_entry av (n := nL) hn
  rw [lg_entry_eq]
  exact body p e s m below meth c ⟨⟨B.exec, B.bytes, hml, findClass_of_methodNamed B.named, hts⟩, hK, fun q h => Or.inr h⟩ B.returns B.notSynchronized (name_of_methodNamed B.named B.method).1 ⟨hP, hD0.self, va_S.rf⟩ hX _ hl
theorem ct_i {post : Int32 → S → Prop} (hy : plainName y.cls = true) (hn : (lg_sl av).length ≤ nL)
    (body : ∀ (p : Program) (e : Env) (s : State) (m : MethodId) (below : List Frame) (meth : Method) (c : Code) (A : Nat → Prop), Ev p s m av.toArray c cc nL y.cls D cA A → meth.sig.returnType = rt → meth.locks = false → Wd D A s w s.heap [] →
      ∀ ls : Array Slot, lv_has ls nL (lv_args 0 av) → W p l e rm s m av.toArray below meth c s.heap [] 0 0 (Qi below s av.toArray D A post w') (F0 m 0 ls [])) : Cti l y cc nL rt rm D cA av w post w' :=
  ct_any (X := fun _ => True) (Qc := fun sz => va_Qi post (fun u t => va_P D vwCl (w' u) t.heap) (va_A w sz)) hy hn (fun p e s m below meth c E hr hk _ Z _ ls hl => body p e s m below meth c _ E hr hk Z ls hl)
theorem ct_l {post : Int64 → S → Prop} (hy : plainName y.cls = true) (hn : (lg_sl av).length ≤ nL)
    (body : ∀ (p : Program) (e : Env) (s : State) (m : MethodId) (below : List Frame) (meth : Method) (c : Code) (A : Nat → Prop), Ev p s m av.toArray c cc nL y.cls D cA A → meth.sig.returnType = rt → meth.locks = false → Wd D A s w s.heap [] →
      ∀ ls : Array Slot, lv_has ls nL (lv_args 0 av) → W p l e rm s m av.toArray below meth c s.heap [] 0 0 (Ql below s av.toArray D A post w') (F0 m 0 ls [])) : Ctl l y cc nL rt rm D cA av w post w' :=
  ct_any (X := fun _ => True) (Qc := fun sz => va_Ql post (fun u t => va_P D vwCl (w' u) t.heap) (va_A w sz)) hy hn (fun p e s m below meth c E hr hk _ Z _ ls hl => body p e s m below meth c _ E hr hk Z ls hl)
theorem ct_v {post : S → Prop} (hy : plainName y.cls = true) (hn : (lg_sl av).length ≤ nL)
    (body : ∀ (p : Program) (e : Env) (s : State) (m : MethodId) (below : List Frame) (meth : Method) (c : Code) (A : Nat → Prop), Ev p s m av.toArray c cc nL y.cls D cA A → meth.sig.returnType = rt → meth.locks = false → Wd D A s w s.heap [] →
      ∀ ls : Array Slot, lv_has ls nL (lv_args 0 av) → W p l e rm s m av.toArray below meth c s.heap [] 0 0 (Qv below s av.toArray D A post w') (F0 m 0 ls [])) : Ctv l y cc nL rt rm D cA av w post w' :=
  ct_any (X := fun _ => True) (Qc := fun sz => va_Qv post (fun u t => va_P D vwCl (w' u) t.heap) (va_A w sz)) hy hn (fun p e s m below meth c E hr hk _ Z _ ls hl => body p e s m below meth c _ E hr hk Z ls hl)
end Starts
section Rows
variable {p : Program} {l : Launch} {e : Env} {R : Room} {s : State} {m : MethodId} {args : Array Value} {below : List Frame} {meth : Method} {c : Code} {H : Heap} {locs : List Loc} {cells slots : Nat} {Q : State → Prop}
variable {cc : ByteArray} {nL : Nat} {own : String} {D : va_G} {cA : ClassId} {A : Nat → Prop} {ws w1 : va_W} {pc : Nat} {ls : Array Slot} {rest : List Value} {a : Nat}
theorem r_get (E : Ev p s m args c cc nL own D cA A) (Z : Wd D A s ws H locs) {C : String} {T : u_T} {N ci index : Nat} (hin : ∀ w ∈ u_ws C T N, w ∈ UW) (hc : vwCl[ci]? = some (C, T, N)) (k : Nat) (hk : k < N) (hlink : Cond.fieldLink own index (T k).1 (T k).2.1 (T k).2.2.1 ∈ UW) (hdg : decode cc pc = .ok (.getfield index, 3))
    (q0 : Nat) {fs : List Value} (he : ws[q0]? = some (a, .inr (ci, fs))) {v : Value} (hv : fs[k]? = some v) (kk : W p l e R s m args below meth c H locs cells slots Q (F0 m (pc + 3) ls (v :: rest))) : W p l e R s m args below meth c H locs cells slots Q (F0 m pc ls (.ref a :: rest)) := by
  obtain ⟨⟨hx, hb, -, ho, ht⟩, hK, -⟩ := E
  exact va_get hx hb ht hin ho hK Z.1 q0 he hc k hk (ht _ hlink) (fun _ h => h) hv hdg kk
theorem r_put (E : Ev p s m args c cc nL own D cA A) (Z : Wd D A s ws H locs) {C : String} {T : u_T} {N ci index : Nat} (hin : ∀ w ∈ u_ws C T N, w ∈ UW) (hc : vwCl[ci]? = some (C, T, N)) (ty0 : Nat → FieldType) (hty : ∀ k, k < N → parseFieldDescriptor (T k).2.2.1 = some (ty0 k)) (hnm : ∀ a, a < N → ∀ b, b < N → a ≠ b → (T a).2.1 ≠ (T b).2.1) (k : Nat) (hk : k < N) (hfin : (T k).2.2.2 = false) (hlink : Cond.fieldLink own index (T k).1 (T k).2.1 (T k).2.2.1 ∈ UW) {v : Value} (hn : narrow (ty0 k) v = v) (hfit : fits (ty0 k) v = true) (hdg : decode cc pc = .ok (.putfield index, 3))
    (q0 : Nat) {fs : List Value} (he : ws[q0]? = some (a, .inr (ci, fs))) (hl : k < fs.length) (hw : ws.set q0 (a, .inr (ci, fs.set k v)) = w1) (kk : ∀ (H : Heap) (locs : List Loc), Wd D A s w1 H locs → W p l e R s m args below meth c H locs cells slots Q (F0 m (pc + 3) ls rest)) : W p l e R s m args below meth c H locs cells slots Q (F0 m pc ls (v :: .ref a :: rest)) := by
  obtain ⟨⟨hx, hb, -, ho, ht⟩, hK, -⟩ := E
  subst hw
  exact va_put hx hb ht hin ty0 hty hnm ho hK Z.1 Z.2.1 Z.2.2 q0 he hc k hk (ht _ hlink) (fun _ h => h) hfin (hty k hk) hn hfit hl hdg (fun H1 locs1 h1 h2 h3 => kk H1 locs1 ⟨h1, h2, h3⟩)
theorem r_putF (E : Ev p s m args c cc nL own D cA A) (Z : Wd D A s ws H locs) (hinit : meth.name = "<init>") {C : String} {T : u_T} {N ci index : Nat} (hin : ∀ w ∈ u_ws C T N, w ∈ UW) (hc : vwCl[ci]? = some (C, T, N)) (ty0 : Nat → FieldType) (hty : ∀ k, k < N → parseFieldDescriptor (T k).2.2.1 = some (ty0 k)) (hnm : ∀ a, a < N → ∀ b, b < N → a ≠ b → (T a).2.1 ≠ (T b).2.1) (k : Nat) (hk : k < N) (hfin : (T k).2.2.2 = true) (hdecl : (T k).1 = own) (hlink : Cond.fieldLink own index (T k).1 (T k).2.1 (T k).2.2.1 ∈ UW) {v : Value} (hn : narrow (ty0 k) v = v) (hfit : fits (ty0 k) v = true) (hdg : decode cc pc = .ok (.putfield index, 3))
    (q0 : Nat) {fs : List Value} (he : ws[q0]? = some (a, .inr (ci, fs))) (hl : k < fs.length) (hw : ws.set q0 (a, .inr (ci, fs.set k v)) = w1) (kk : ∀ (H : Heap) (locs : List Loc), Wd D A s w1 H locs → W p l e R s m args below meth c H locs cells slots Q (F0 m (pc + 3) ls rest)) : W p l e R s m args below meth c H locs cells slots Q (F0 m pc ls (v :: .ref a :: rest)) := by
  obtain ⟨⟨hx, hb, -, ho, ht⟩, hK, -⟩ := E
  subst hw
  exact va_putF hx hb ht hin ty0 hty hnm ho hK Z.1 Z.2.1 Z.2.2 q0 he hc k hk (ht _ hlink) (fun _ h => h) hfin hinit hdecl (hty k hk) hn hfit hl hdg (fun H1 locs1 h1 h2 h3 => kk H1 locs1 ⟨h1, h2, h3⟩)
/-- a cell of a Nat array read, at a Nat -/
theorem r_ald (E : Ev p s m args c cc nL own D cA A) (Z : Wd D A s ws H locs) (hdg : decode cc pc = .ok (.iaload, 1)) (q0 : Nat) {n : Nat} {g : Nat → Nat} (he : ws[q0]? = some (a, ar cA n g)) {j : Nat} (hj : j < n) (hn : n < 1000)
    (kk : W p l e R s m args below meth c H locs cells slots Q (F0 m (pc + 1) ls (.int (nI (g j)) :: rest))) : W p l e R s m args below meth c H locs cells slots Q (F0 m pc ls (.int (nI j) :: .ref a :: rest)) := by
  obtain ⟨⟨hx, hb, -, ho, ht⟩, hK, -⟩ := E
  have h31 : j < 2 ^ 31 := by omega
  refine va_iald hx hb hK Z.1 q0 0 he rfl (vp_in_nI hj (by omega)) hdg ?_
  rw [nI_clamp h31]
  exact kk
theorem r_aldR (E : Ev p s m args c cc nL own D cA A) (Z : Wd D A s ws H locs) (hdg : decode cc pc = .ok (.iaload, 1)) (q0 : Nat) {n : Nat} {g : Nat → Int32} (he : ws[q0]? = some (a, arR cA n g)) {j : Nat} (hj : j < n) (hn : n < 1000)
    (kk : W p l e R s m args below meth c H locs cells slots Q (F0 m (pc + 1) ls (.int (g j) :: rest))) : W p l e R s m args below meth c H locs cells slots Q (F0 m pc ls (.int (nI j) :: .ref a :: rest)) := by
  obtain ⟨⟨hx, hb, -, ho, ht⟩, hK, -⟩ := E
  have h31 : j < 2 ^ 31 := by omega
  refine va_iald hx hb hK Z.1 q0 0 he rfl (vp_in_nI hj (by omega)) hdg ?_
  rw [nI_clamp h31]
  exact kk
theorem r_ast (E : Ev p s m args c cc nL own D cA A) (Z : Wd D A s ws H locs) (hdg : decode cc pc = .ok (.iastore, 1)) (q0 : Nat) {n : Nat} {g : Nat → Nat} (he : ws[q0]? = some (a, ar cA n g)) {j v : Nat} (hj : j < n) (hn : n < 1000) (hw : ws.set q0 (a, ar cA n (up g j v)) = w1)
    (kk : ∀ (H : Heap) (locs : List Loc), Wd D A s w1 H locs → W p l e R s m args below meth c H locs cells slots Q (F0 m (pc + 1) ls rest)) : W p l e R s m args below meth c H locs cells slots Q (F0 m pc ls (.int (nI v) :: .int (nI j) :: .ref a :: rest)) := by
  obtain ⟨⟨hx, hb, -, ho, ht⟩, hK, -⟩ := E
  have h31 : j < 2 ^ 31 := by omega
  subst hw
  refine va_iast hx hb hK Z.1 Z.2.1 Z.2.2 q0 0 he rfl (vp_in_nI hj (by omega)) hdg (fun H1 locs1 h1 h2 h3 => ?_)
  rw [nI_clamp h31, upd_nA] at h1 h2
  exact kk H1 locs1 ⟨h1, h2, h3⟩
theorem r_astR (E : Ev p s m args c cc nL own D cA A) (Z : Wd D A s ws H locs) (hdg : decode cc pc = .ok (.iastore, 1)) (q0 : Nat) {n : Nat} {g : Nat → Int32} (he : ws[q0]? = some (a, arR cA n g)) {j : Nat} {v : Int32} (hj : j < n) (hn : n < 1000) (hw : ws.set q0 (a, arR cA n (up g j v)) = w1)
    (kk : ∀ (H : Heap) (locs : List Loc), Wd D A s w1 H locs → W p l e R s m args below meth c H locs cells slots Q (F0 m (pc + 1) ls rest)) : W p l e R s m args below meth c H locs cells slots Q (F0 m pc ls (.int v :: .int (nI j) :: .ref a :: rest)) := by
  obtain ⟨⟨hx, hb, -, ho, ht⟩, hK, -⟩ := E
  have h31 : j < 2 ^ 31 := by omega
  subst hw
  refine va_iast hx hb hK Z.1 Z.2.1 Z.2.2 q0 0 he rfl (vp_in_nI hj (by omega)) hdg (fun H1 locs1 h1 h2 h3 => ?_)
  rw [nI_clamp h31] at h1 h2
  exact kk H1 locs1 ⟨h1, h2, h3⟩
theorem r_alen (E : Ev p s m args c cc nL own D cA A) (Z : Wd D A s ws H locs) (hdg : decode cc pc = .ok (.arraylength, 1)) (q0 : Nat) {n : Nat} {g : Nat → Int32} (he : ws[q0]? = some (a, arR cA n g))
    (kk : W p l e R s m args below meth c H locs cells slots Q (F0 m (pc + 1) ls (.int (nI n) :: rest))) : W p l e R s m args below meth c H locs cells slots Q (F0 m pc ls (.ref a :: rest)) := by
  obtain ⟨⟨hx, hb, -, ho, ht⟩, hK, -⟩ := E
  exact va_alen hx hb hK Z.1 q0 0 he rfl rfl hdg kk
/-- an array's contents by another function that agrees within its length -/
theorem Wd.norm (Z : Wd D A s ws H locs) (q0 : Nat) {n : Nat} {f f' : Nat → Int32} (he : ws[q0]? = some (a, arR cA n f)) (h : ∀ j, j < n → f j = f' j) (hw : ws.set q0 (a, arR cA n f') = w1) : Wd D A s w1 H locs := by
  subst hw
  have e : vp_cell cA (n, .inl f) = vp_cell cA (n, .inl f') := by
    rw [vp_cell_i, vp_cell_i]
    unfold arrV
    congr 1
    apply Array.ext
    · simp
    · intro i h1 h2
      simp at h1 ⊢
      exact h i (by simpa using h1)
  refine ⟨Z.1.set Z.2.1 he ?_ (fun q _ => rfl), Z.2.1.set he, Z.2.2⟩
  have h0 := Z.1 q0 _ he
  show H[a]? = some (vp_cell cA (n, .inl f'))
  rw [← e]
  exact h0
theorem Wd.to (Z : Wd D A s ws H locs) (h : ws = w1) : Wd D A s w1 H locs := h ▸ Z
/-- the top of the stack under another name -/
theorem r_top {x y : Int32} (h : x = y) (kk : W p l e R s m args below meth c H locs cells slots Q (F0 m pc ls (.int y :: rest))) : W p l e R s m args below meth c H locs cells slots Q (F0 m pc ls (.int x :: rest)) := h ▸ kk
theorem r_top2 {v : Value} {x y : Int32} (h : x = y) (kk : W p l e R s m args below meth c H locs cells slots Q (F0 m pc ls (v :: .int y :: rest))) : W p l e R s m args below meth c H locs cells slots Q (F0 m pc ls (v :: .int x :: rest)) := h ▸ kk
/-! returns -/
theorem r_iret (E : Ev p s m args c cc nL own D cA A) (Z : Wd D A s ws H locs) (hr : meth.sig.returnType = some .int) (hlk : meth.locks = false) {S : Type} {post : Int32 → S → Prop} {w' : S → va_W} {v : Int32} (hdg : decode cc pc = .ok (.ireturn, 1)) (u : S) (hw : ws = w' u) (hp : post v u) : W p l e R s m args below meth c H locs 0 0 (Qi below s args D A post w') (F0 m pc ls [.int v]) := by
  obtain ⟨⟨hx, hb, -, ho, ht⟩, hK, -⟩ := E
  exact W.iret hx hb hr (fun t ht _ => ⟨⟨v, u, rfl, hp, by show va_P D vwCl (w' u) t.heap; rw [ht, ← hw]; exact Z.1⟩, Z.2.2.F ht⟩) Z.2.2.2.2 hdg hlk
theorem r_zret (E : Ev p s m args c cc nL own D cA A) (Z : Wd D A s ws H locs) (hr : meth.sig.returnType = some .boolean) (hlk : meth.locks = false) {S : Type} {post : Int32 → S → Prop} {w' : S → va_W} {v : Int32} (hdg : decode cc pc = .ok (.ireturn, 1)) (hn : narrow .boolean (.int v) = .int v) (u : S) (hw : ws = w' u) (hp : post v u) : W p l e R s m args below meth c H locs 0 0 (Qi below s args D A post w') (F0 m pc ls [.int v]) := by
  obtain ⟨⟨hx, hb, -, ho, ht⟩, hK, -⟩ := E
  exact W.zret hx hb hr hn (fun t ht _ => ⟨⟨v, u, rfl, hp, by show va_P D vwCl (w' u) t.heap; rw [ht, ← hw]; exact Z.1⟩, Z.2.2.F ht⟩) Z.2.2.2.2 hdg hlk
theorem r_lret (E : Ev p s m args c cc nL own D cA A) (Z : Wd D A s ws H locs) (hr : meth.sig.returnType = some .long) (hlk : meth.locks = false) {S : Type} {post : Int64 → S → Prop} {w' : S → va_W} {v : Int64} (hdg : decode cc pc = .ok (.lreturn, 1)) (u : S) (hw : ws = w' u) (hp : post v u) : W p l e R s m args below meth c H locs 0 0 (Ql below s args D A post w') (F0 m pc ls [.long v]) := by
  obtain ⟨⟨hx, hb, -, ho, ht⟩, hK, -⟩ := E
  exact W.lret hx hb hr (fun t ht _ => ⟨⟨v, u, rfl, hp, by show va_P D vwCl (w' u) t.heap; rw [ht, ← hw]; exact Z.1⟩, Z.2.2.F ht⟩) Z.2.2.2.2 hdg hlk
theorem r_vret (E : Ev p s m args c cc nL own D cA A) (Z : Wd D A s ws H locs) (hr : meth.sig.returnType = none) (hlk : meth.locks = false) {S : Type} {post : S → Prop} {w' : S → va_W} (hdg : decode cc pc = .ok (.return_, 1)) (u : S) (hw : ws = w' u) (hp : post u) : W p l e R s m args below meth c H locs 0 0 (Qv below s args D A post w') (F0 m pc ls []) := by
  obtain ⟨⟨hx, hb, -, ho, ht⟩, hK, -⟩ := E
  exact W.vret hx hb hr (fun t ht _ => ⟨⟨u, rfl, hp, by show va_P D vwCl (w' u) t.heap; rw [ht, ← hw]; exact Z.1⟩, Z.2.2.F ht⟩) Z.2.2.2.2 hdg hlk
end Rows
section Calls
variable {p : Program} {l : Launch} {e : Env} {R : Room} {s : State} {m : MethodId} {args : Array Value} {below : List Frame} {meth : Method} {c : Code} {H : Heap} {locs : List Loc} {cells slots : Nat} {Q : State → Prop}
variable {cc : ByteArray} {nL : Nat} {own : String} {D : va_G} {cA : ClassId} {A : Nat → Prop} {ws w : va_W} {pc : Nat} {ls : Array Slot} {st0 rest As : List Value} {b : Nat}
variable {y : MethodName} {bytes : ByteArray} {maxL index : Nat} {rt : Option FieldType} {rm : Room} {S : Type} {w' w2 : S → va_W}
theorem hpre_blind {av : List Value} {sz : Nat} {X : State → Prop} (hX : ∀ (U : State) (g : JFrame) (mk : MethodId) (a : Array Value), X U → X (U.calling g mk a)) : FrameBlind (PcW D cA av w sz X) := fun a U g mk q => by
  obtain ⟨q0, q1, qP, qK, qD, qX⟩ := q
  exact ⟨q0, q1, qP, va_K.moved (u := U) (U := U.calling g mk a) (Vm.Alike.refl U.vm) qK, qD, hX U g mk a qX⟩
theorem hpre_at (E : Ev p s m args c cc nL own D cA A) (Z : Wd D A s ws H locs) {av : List Value} {X : State → Prop} (isC : List Nat) (hnd : va_nd isC = true) (hC : isC.map (fun i => ws[i]?) = w.map some) (hX : ∀ U : State, U.heap = H → s.WarmedH U.vm → X U) : ∀ U : State, U.heap = H → s.WarmedH U.vm → PcW D cA av w H.size X av.toArray U := by
  intro U hU hW
  have hD := Z.2.1.sub isC hnd hC
  have hP : va_P D vwCl w H := by
    intro k q hq
    have h1 : (isC.map (fun i => ws[i]?))[k]? = some (some q) := by rw [hC, List.getElem?_map, hq]; rfl
    rw [List.getElem?_map] at h1
    cases hi : isC[k]? with
    | none => rw [hi] at h1; cases h1
    | some i => rw [hi] at h1; exact Z.1 i q (Option.some.inj h1)
  exact ⟨rfl, by rw [hU], by rw [hU]; exact hP, va_K.moved hW.alike E.2.1, hD.weaken (fun _ _ _ _ => trivial), hX U hU hW⟩
/-- what a call's row needs of the tables -/
theorem cg {big : List Cond} (hc : Cond.code y bytes maxL rt ∈ UW) (hb : ∀ w ∈ UW, w ∈ big) : GoodIn big (wd y bytes maxL rt) := by
  intro w hw
  rcases List.mem_cons.mp hw with e | e
  · subst e; exact ⟨hb _ hc, UW_good _ hc⟩
  · exact ⟨hb _ e, UW_good _ e⟩
theorem cwb {n : Nat} (ht : ∀ w ∈ UW, w.before args s = true) (hc : Cond.code y bytes maxL rt ∈ UW) (hini : Cond.initialized y.cls ∈ UW) (hl : Cond.methodLink own index y ∈ UW) (hrc : rm.cells = 0) (hrs : rm.slots = 0)
    (hd : y.cls ≠ "java/lang/invoke/MethodHandle" ∧ y.cls ≠ "java/lang/invoke/VarHandle" ∧ (parseMethodDescriptor y.desc).map (fun d => d.parameters.length) = some n) (hR : rm.frames + 1 ≤ R.frames ∧ 8 + (maxL + 11) + rm.locals ≤ R.locals) : CallB R s args own index y bytes maxL rt (wd y bytes maxL rt) rm 0 0 n :=
  callB_of (ws' := UW) n ht (cg hc (fun _ h => h)) rfl hrc hrs (ht _ hini) (ht _ hl) hd hR
abbrev Nm (y : MethodName) (n : Nat) : Prop := y.cls ≠ "java/lang/invoke/MethodHandle" ∧ y.cls ≠ "java/lang/invoke/VarHandle" ∧ (parseMethodDescriptor y.desc).map (fun d => d.parameters.length) = some n
/-- the words of a virtual call, of a static one -/
abbrev WV (own : String) (index : Nat) (y : MethodName) (bytes : ByteArray) (maxL : Nat) (rt : Option FieldType) (n : Nat) : Prop := Cond.methodLink own index y ∈ UW ∧ Cond.instanceMethod y ∈ UW ∧ Cond.selects y.cls y y ∈ UW ∧ Cond.initialized y.cls ∈ UW ∧ Cond.code y bytes maxL rt ∈ UW ∧ Nm y n
abbrev WS (own : String) (index : Nat) (y : MethodName) (bytes : ByteArray) (maxL : Nat) (rt : Option FieldType) (n : Nat) : Prop := Cond.methodLink own index y ∈ UW ∧ Cond.static y ∈ UW ∧ Cond.initialized y.cls ∈ UW ∧ Cond.code y bytes maxL rt ∈ UW ∧ Nm y n
abbrev Rm (rm R : Room) (maxL : Nat) : Prop := rm.cells = 0 ∧ rm.slots = 0 ∧ rm.frames + 1 ≤ R.frames ∧ 8 + (maxL + 11) + rm.locals ≤ R.locals
theorem runV {n : Nat} {Qc : Array Value → State → Outcome → State → Prop} {X : State → Prop} (E : Ev p s m args c cc nL own D cA A) (Z : Wd D A s ws H locs) (hM : Met l y (wd y bytes maxL rt) rm (PcW D cA (.ref b :: As) w H.size X) Qc 0 0 (va_A w H.size)) (hX1 : ∀ (U : State) (g : JFrame) (mk : MethodId) (a : Array Value), X U → X (U.calling g mk a)) (hX : ∀ U : State, U.heap = H → s.WarmedH U.vm → X U) (hw : WV own index y bytes maxL rt n) (hR : Rm rm R maxL) (isC : List Nat) (hnd : va_nd isC = true) (hC : isC.map (fun i => ws[i]?) = w.map some) {q0 ci : Nat} {q : vw_C} {fs : List Value} (hq : vwCl[ci]? = some q) (hcl : y.cls = q.1) (hb0 : w[q0]? = some (b, .inr (ci, fs)))
    (hn : As.length = n) (hls : ls.size = nL) (hst : st0 = As.reverse ++ .ref b :: rest) (hro : (rest.map fun v => v.category).sum ≤ 8) (hdg : decode cc pc = .ok (.invokevirtual index, 3)) (hf : cells ≤ R.cells ∧ slots ≤ R.slots) :
    va_Run p l e R s m args below meth c H locs cells slots 0 0 (F0 m pc ls st0) rest (Qc (Value.ref b :: As).toArray) (va_A w H.size) := by
  obtain ⟨h1, h2, h3, h4, h5, h6⟩ := hw
  obtain ⟨r1, r2, r3, r4⟩ := hR
  have ht := E.1.2.2.2.2
  have hpre := hpre_at (av := .ref b :: As) (X := X) E Z isC hnd hC hX
  have hP : va_P D vwCl w H := by
    intro k q hq
    have g1 : (isC.map (fun i => ws[i]?))[k]? = some (some q) := by rw [hC, List.getElem?_map, hq]; rfl
    rw [List.getElem?_map] at g1
    cases hi : isC[k]? with
    | none => rw [hi] at g1; cases g1
    | some i => rw [hi] at g1; exact Z.1 i q (Option.some.inj g1)
  refine va_runV (C := y.cls) (n := n) (bytes := bytes) (maxL := maxL) (ret := rt) (As := As) E.1 hM ⟨cwb ht h5 h4 h1 r1 r2 h6 ⟨r3, r4⟩, ht _ h2, ht _ h3⟩ ⟨hpre_blind hX1, ?_, hpre⟩ rfl hn hls hst (lv_room hro) hdg hf
  have hv := va_recv E.2.1 hP hq hb0
  rw [hcl]
  exact hv
theorem runS {n : Nat} {Qc : Array Value → State → Outcome → State → Prop} {X : State → Prop} (E : Ev p s m args c cc nL own D cA A) (Z : Wd D A s ws H locs) (hM : Met l y (wd y bytes maxL rt) rm (PcW D cA As w H.size X) Qc 0 0 (va_A w H.size)) (hX1 : ∀ (U : State) (g : JFrame) (mk : MethodId) (a : Array Value), X U → X (U.calling g mk a)) (hX : ∀ U : State, U.heap = H → s.WarmedH U.vm → X U) (hw : WS own index y bytes maxL rt n) (hR : Rm rm R maxL) (isC : List Nat) (hnd : va_nd isC = true) (hC : isC.map (fun i => ws[i]?) = w.map some)
    (hn : As.length = n) (hls : ls.size = nL) (hst : st0 = As.reverse ++ rest) (hro : (rest.map fun v => v.category).sum ≤ 8) (hdg : decode cc pc = .ok (.invokestatic index, 3)) (hf : cells ≤ R.cells ∧ slots ≤ R.slots) :
    va_Run p l e R s m args below meth c H locs cells slots 0 0 (F0 m pc ls st0) rest (Qc As.toArray) (va_A w H.size) := by
  obtain ⟨h1, h2, h4, h5, h6⟩ := hw
  obtain ⟨r1, r2, r3, r4⟩ := hR
  have ht := E.1.2.2.2.2
  have hpre := hpre_at (av := As) (X := X) E Z isC hnd hC hX
  exact va_runS (n := n) (bytes := bytes) (maxL := maxL) (ret := rt) (As := As) E.1 hM ⟨cwb ht h5 h4 h1 r1 r2 h6 ⟨r3, r4⟩, ht _ h2⟩ ⟨hpre_blind hX1, hpre⟩ rfl hn hls hst (lv_room hro) hdg hf
theorem behind (E : Ev p s m args c cc nL own D cA A) (Z : Wd D A s ws H locs) (isC : List Nat) (hC : isC.map (fun i => ws[i]?) = w.map some) {w1 w2 : va_W} (hs : w1.map (fun q => q.1) = w.map (fun q => q.1)) (hw2 : wput ws isC w1 = w2) {H1 : Heap} {locs1 : List Loc} (hk : ∀ q : Nat, q < H.size → ¬ va_A w H.size q → H1[q]? = H[q]?) (hP1 : va_P D vwCl w1 H1) (hS : va_S A s.heap H1 locs1) : Wd D A s w2 H1 locs1 := by
  subst hw2
  obtain ⟨h1, h2⟩ := wjoin Z.1 Z.2.1 isC hC hs hk hP1
  exact ⟨h1, h2, hS⟩
/-- a virtual call that answers an int; w: the callee's cells, at the places isC; w2: the caller's world behind it -/
theorem c_Vi {n : Nat} {post : Int32 → S → Prop} (E : Ev p s m args c cc nL own D cA A) (Z : Wd D A s ws H locs) (M : Cti l y bytes maxL rt rm D cA (.ref b :: As) w post w') (hw : WV own index y bytes maxL rt n) (hR : Rm rm R maxL) (isC : List Nat) (hnd : va_nd isC = true) (hC : isC.map (fun i => ws[i]?) = w.map some) {q0 ci : Nat} {q : vw_C} {fs : List Value} (hq : vwCl[ci]? = some q) (hcl : y.cls = q.1) (hb0 : w[q0]? = some (b, .inr (ci, fs)))
    (hs : ∀ u, (w' u).map (fun q => q.1) = w.map (fun q => q.1)) (hw2 : ∀ u, wput ws isC (w' u) = w2 u) (hn : As.length = n) (hls : ls.size = nL) (hst : st0 = As.reverse ++ .ref b :: rest) (hro : (rest.map fun v => v.category).sum ≤ 8) (hdg : decode cc pc = .ok (.invokevirtual index, 3)) (hf : cells ≤ R.cells ∧ slots ≤ R.slots)
    (kk : ∀ (r : Int32) (u : S) (H : Heap) (locs : List Loc), post r u → Wd D A s (w2 u) H locs → W p l e R s m args below meth c H locs cells slots Q (F0 m (pc + 3) ls (.int r :: rest))) : W p l e R s m args below meth c H locs cells slots Q (F0 m pc ls st0) :=
  va_calli (runV E Z (M H.size) (fun _ _ _ _ _ => trivial) (fun _ _ _ => trivial) hw hR isC hnd hC hq hcl hb0 hn hls hst hro hdg hf) Z.2.2 (fun q _ h => va_free Z.2.1 Z.2.2 E.2.2 isC hC q h) (va_free Z.2.1 Z.2.2 E.2.2 isC hC)
    (fun r u t H1 locs1 ht _ hp hB _ hk hS => kk r u H1 locs1 hp (behind E Z isC hC (hs u) (hw2 u) hk (by rw [← ht]; exact hB) hS))
theorem c_Vl {n : Nat} {post : Int64 → S → Prop} (E : Ev p s m args c cc nL own D cA A) (Z : Wd D A s ws H locs) (M : Ctl l y bytes maxL rt rm D cA (.ref b :: As) w post w') (hw : WV own index y bytes maxL rt n) (hR : Rm rm R maxL) (isC : List Nat) (hnd : va_nd isC = true) (hC : isC.map (fun i => ws[i]?) = w.map some) {q0 ci : Nat} {q : vw_C} {fs : List Value} (hq : vwCl[ci]? = some q) (hcl : y.cls = q.1) (hb0 : w[q0]? = some (b, .inr (ci, fs)))
    (hs : ∀ u, (w' u).map (fun q => q.1) = w.map (fun q => q.1)) (hw2 : ∀ u, wput ws isC (w' u) = w2 u) (hn : As.length = n) (hls : ls.size = nL) (hst : st0 = As.reverse ++ .ref b :: rest) (hro : (rest.map fun v => v.category).sum ≤ 8) (hdg : decode cc pc = .ok (.invokevirtual index, 3)) (hf : cells ≤ R.cells ∧ slots ≤ R.slots)
    (kk : ∀ (r : Int64) (u : S) (H : Heap) (locs : List Loc), post r u → Wd D A s (w2 u) H locs → W p l e R s m args below meth c H locs cells slots Q (F0 m (pc + 3) ls (.long r :: rest))) : W p l e R s m args below meth c H locs cells slots Q (F0 m pc ls st0) :=
  va_calll (runV E Z (M H.size) (fun _ _ _ _ _ => trivial) (fun _ _ _ => trivial) hw hR isC hnd hC hq hcl hb0 hn hls hst hro hdg hf) Z.2.2 (fun q _ h => va_free Z.2.1 Z.2.2 E.2.2 isC hC q h) (va_free Z.2.1 Z.2.2 E.2.2 isC hC)
    (fun r u t H1 locs1 ht _ hp hB _ hk hS => kk r u H1 locs1 hp (behind E Z isC hC (hs u) (hw2 u) hk (by rw [← ht]; exact hB) hS))
theorem c_Vv {n : Nat} {post : S → Prop} (E : Ev p s m args c cc nL own D cA A) (Z : Wd D A s ws H locs) (M : Ctv l y bytes maxL rt rm D cA (.ref b :: As) w post w') (hw : WV own index y bytes maxL rt n) (hR : Rm rm R maxL) (isC : List Nat) (hnd : va_nd isC = true) (hC : isC.map (fun i => ws[i]?) = w.map some) {q0 ci : Nat} {q : vw_C} {fs : List Value} (hq : vwCl[ci]? = some q) (hcl : y.cls = q.1) (hb0 : w[q0]? = some (b, .inr (ci, fs)))
    (hs : ∀ u, (w' u).map (fun q => q.1) = w.map (fun q => q.1)) (hw2 : ∀ u, wput ws isC (w' u) = w2 u) (hn : As.length = n) (hls : ls.size = nL) (hst : st0 = As.reverse ++ .ref b :: rest) (hro : (rest.map fun v => v.category).sum ≤ 8) (hdg : decode cc pc = .ok (.invokevirtual index, 3)) (hf : cells ≤ R.cells ∧ slots ≤ R.slots)
    (kk : ∀ (u : S) (H : Heap) (locs : List Loc), post u → Wd D A s (w2 u) H locs → W p l e R s m args below meth c H locs cells slots Q (F0 m (pc + 3) ls rest)) : W p l e R s m args below meth c H locs cells slots Q (F0 m pc ls st0) :=
  va_callv (runV E Z (M H.size) (fun _ _ _ _ _ => trivial) (fun _ _ _ => trivial) hw hR isC hnd hC hq hcl hb0 hn hls hst hro hdg hf) Z.2.2 (fun q _ h => va_free Z.2.1 Z.2.2 E.2.2 isC hC q h) (va_free Z.2.1 Z.2.2 E.2.2 isC hC)
    (fun u t H1 locs1 ht _ hp hB _ hk hS => kk u H1 locs1 hp (behind E Z isC hC (hs u) (hw2 u) hk (by rw [← ht]; exact hB) hS))
theorem c_Si {n : Nat} {post : Int32 → S → Prop} (E : Ev p s m args c cc nL own D cA A) (Z : Wd D A s ws H locs) (M : Cti l y bytes maxL rt rm D cA As w post w') (hw : WS own index y bytes maxL rt n) (hR : Rm rm R maxL) (isC : List Nat) (hnd : va_nd isC = true) (hC : isC.map (fun i => ws[i]?) = w.map some)
    (hs : ∀ u, (w' u).map (fun q => q.1) = w.map (fun q => q.1)) (hw2 : ∀ u, wput ws isC (w' u) = w2 u) (hn : As.length = n) (hls : ls.size = nL) (hst : st0 = As.reverse ++ rest) (hro : (rest.map fun v => v.category).sum ≤ 8) (hdg : decode cc pc = .ok (.invokestatic index, 3)) (hf : cells ≤ R.cells ∧ slots ≤ R.slots)
    (kk : ∀ (r : Int32) (u : S) (H : Heap) (locs : List Loc), post r u → Wd D A s (w2 u) H locs → W p l e R s m args below meth c H locs cells slots Q (F0 m (pc + 3) ls (.int r :: rest))) : W p l e R s m args below meth c H locs cells slots Q (F0 m pc ls st0) :=
  va_calli (runS E Z (M H.size) (fun _ _ _ _ _ => trivial) (fun _ _ _ => trivial) hw hR isC hnd hC hn hls hst hro hdg hf) Z.2.2 (fun q _ h => va_free Z.2.1 Z.2.2 E.2.2 isC hC q h) (va_free Z.2.1 Z.2.2 E.2.2 isC hC)
    (fun r u t H1 locs1 ht _ hp hB _ hk hS => kk r u H1 locs1 hp (behind E Z isC hC (hs u) (hw2 u) hk (by rw [← ht]; exact hB) hS))
theorem c_Sv {n : Nat} {post : S → Prop} (E : Ev p s m args c cc nL own D cA A) (Z : Wd D A s ws H locs) (M : Ctv l y bytes maxL rt rm D cA As w post w') (hw : WS own index y bytes maxL rt n) (hR : Rm rm R maxL) (isC : List Nat) (hnd : va_nd isC = true) (hC : isC.map (fun i => ws[i]?) = w.map some)
    (hs : ∀ u, (w' u).map (fun q => q.1) = w.map (fun q => q.1)) (hw2 : ∀ u, wput ws isC (w' u) = w2 u) (hn : As.length = n) (hls : ls.size = nL) (hst : st0 = As.reverse ++ rest) (hro : (rest.map fun v => v.category).sum ≤ 8) (hdg : decode cc pc = .ok (.invokestatic index, 3)) (hf : cells ≤ R.cells ∧ slots ≤ R.slots)
    (kk : ∀ (u : S) (H : Heap) (locs : List Loc), post u → Wd D A s (w2 u) H locs → W p l e R s m args below meth c H locs cells slots Q (F0 m (pc + 3) ls rest)) : W p l e R s m args below meth c H locs cells slots Q (F0 m pc ls st0) :=
  va_callv (runS E Z (M H.size) (fun _ _ _ _ _ => trivial) (fun _ _ _ => trivial) hw hR isC hnd hC hn hls hst hro hdg hf) Z.2.2 (fun q _ h => va_free Z.2.1 Z.2.2 E.2.2 isC hC q h) (va_free Z.2.1 Z.2.2 E.2.2 isC hC)
    (fun u t H1 locs1 ht _ hp hB _ hk hS => kk u H1 locs1 hp (behind E Z isC hC (hs u) (hw2 u) hk (by rw [← ht]; exact hB) hS))
end Calls
