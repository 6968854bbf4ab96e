/-! the tree: names of heaps -/
def hd (M : Nat) (hp : Nat → Nat) : Prop := ∀ a, a < M → hp a < M ∧ hp (hp a) = hp a
def nh (hp : Nat → Nat) (M : Nat) : Nat := sm (fun j => if hp j = j then 1 else 0) M
section Tree
variable {P : Nat} {sets : Nat → Nat} {ch : Nat} {hp : Nat → Nat}
theorem tb_no {f g a : Nat} {t : TS} : ∀ b, (∀ b', b' < b → ¬ (hp a = f ∧ hp b' = g)) → tb P sets ch hp f g a t b = t := by
  intro b
  induction b with
  | zero => intro _; rfl
  | succ b ih =>
    intro h
    rw [show tb P sets ch hp f g a t (b + 1) = tb P sets ch hp f g a t b from if_neg (h b (Nat.lt_succ_self b))]
    exact ih (fun b' hb => h b' (by omega))
theorem ta_no {f g M : Nat} {t : TS} : ∀ a, (∀ a', a' < a → ∀ b', b' < M → ¬ (hp a' = f ∧ hp b' = g)) → ta P sets ch hp f g M t a = t := by
  intro a
  induction a with
  | zero => intro _; rfl
  | succ a ih =>
    intro h
    show tb P sets ch hp f g a (ta P sets ch hp f g M t a) M = t
    rw [ih (fun a' ha => h a' (by omega)), tb_no M (h a (Nat.lt_succ_self a))]
theorem tso_tmo {M f : Nat} {t : TS} (hh : hd M hp) (hf : f < M) : ∀ o, o ≤ M → tso P sets ch hp M t f o = tmo P sets ch hp M t f o := by
  intro o
  induction o with
  | zero => intro _; rfl
  | succ o ih =>
    intro ho
    have ih := ih (by omega)
    by_cases h : f < o
    · rw [show tmo P sets ch hp M t f (o + 1) = ta P sets ch hp f o M (tmo P sets ch hp M t f o) M from if_pos h]
      by_cases h2 : hp f = f ∧ hp o = o
      · rw [show tso P sets ch hp M t f (o + 1) = ta P sets ch hp f o M (tso P sets ch hp M t f o) M from if_pos ⟨h, h2.1, h2.2⟩, ih]
      · rw [show tso P sets ch hp M t f (o + 1) = tso P sets ch hp M t f o from if_neg (fun q => h2 q.2), ih]
        refine (ta_no M (fun a ha b hb q => h2 ⟨?_, ?_⟩)).symm
        · rw [← q.1]; exact (hh a ha).2
        · rw [← q.2]; exact (hh b hb).2
    · rw [show tmo P sets ch hp M t f (o + 1) = tmo P sets ch hp M t f o from if_neg h, show tso P sets ch hp M t f (o + 1) = tso P sets ch hp M t f o from if_neg (fun q => h q.1)]
      exact ih
theorem tsf_tmf {M : Nat} {t : TS} (hh : hd M hp) : ∀ f, f ≤ M → tsf P sets ch hp M t f = tmf P sets ch hp M t f := by
  intro f
  induction f with
  | zero => intro _; rfl
  | succ f ih =>
    intro hf
    show tso P sets ch hp M (tsf P sets ch hp M t f) f M = tmo P sets ch hp M (tmf P sets ch hp M t f) f M
    rw [ih (by omega), tso_tmo hh (by omega) M (Nat.le_refl _)]
theorem spj_mpj {M : Nat} {t : TS} (hh : hd M hp) : spj P sets ch hp M t = mpj P sets ch hp M t := tsf_tmf hh M (Nat.le_refl _)
/-! the pair that is found: two names, apart -/
def gd (M : Nat) (hp : Nat → Nat) (t : TS) : Prop := t.1 < t.2.1 ∧ t.2.1 < M ∧ hp t.1 = t.1 ∧ hp t.2.1 = t.2.1
def fr (t : TS) : Prop := t.2.2.1 = -1 ∧ t.2.2.2 = nI 1
theorem tcm_gd {M a b : Nat} {t : TS} (hab : hp a < hp b) (hb : hp b < M) (h1 : hp (hp a) = hp a) (h2 : hp (hp b) = hp b) (h : gd M hp t) : gd M hp (tcm P sets ch hp a b t) := by
  unfold tcm
  split
  · exact ⟨hab, hb, h1, h2⟩
  · exact h
theorem eith_le (hP : P ≤ 8) (a b : Nat) : eith P sets ch a b ≤ 8 ∧ 1 ≤ eith P sets ch a b := by
  have hbd : sm (eip sets ch a b) P ≤ P * 1 := sm_bd (fun m _ => by unfold eip; split <;> omega)
  unfold eith
  exact ⟨Nat.max_le.mpr ⟨by omega, by omega⟩, Nat.le_max_right _ _⟩
theorem neg_lt : ∀ e, e < 9 → 1 ≤ e → ∀ b, b < 9 → (-1 : Int32) * nI e < nI b * nI 1 := by decide +kernel
theorem tcm_fr {M a b : Nat} {t : TS} (hP : P ≤ 8) (hab : hp a < hp b) (hb : hp b < M) (h1 : hp (hp a) = hp a) (h2 : hp (hp b) = hp b) (h : fr t) : gd M hp (tcm P sets ch hp a b t) := by
  have he := eith_le (sets := sets) (ch := ch) hP a b
  have hbo : sm (bop sets ch a b) P ≤ P * 1 := sm_bd (fun m _ => by unfold bop; split <;> omega)
  unfold tcm
  rw [if_pos (by rw [h.1, h.2]; exact neg_lt _ (by omega) he.2 _ (by omega))]
  exact ⟨hab, hb, h1, h2⟩
/-- fresh or good stays so -/
def fg (M : Nat) (hp : Nat → Nat) (t : TS) : Prop := fr t ∨ gd M hp t
theorem tcm_fg {M a b : Nat} {t : TS} (hP : P ≤ 8) (hab : hp a < hp b) (hb : hp b < M) (h1 : hp (hp a) = hp a) (h2 : hp (hp b) = hp b) (h : fg M hp t) : gd M hp (tcm P sets ch hp a b t) :=
  h.elim (tcm_fr hP hab hb h1 h2) (tcm_gd hab hb h1 h2)
theorem tb_fg {M f g a : Nat} {t : TS} (hP : P ≤ 8) (hfg : f < g) (hg : g < M) (h1 : hp f = f) (h2 : hp g = g) (h : fg M hp t) : ∀ b, fg M hp (tb P sets ch hp f g a t b) ∧ (gd M hp t → gd M hp (tb P sets ch hp f g a t b)) ∧ ((hp a = f ∧ ∃ b', b' < b ∧ hp b' = g) → gd M hp (tb P sets ch hp f g a t b)) := by
  intro b
  induction b with
  | zero => exact ⟨h, fun q => q, fun q => by obtain ⟨-, b', hb, -⟩ := q; omega⟩
  | succ b ih =>
    by_cases c : hp a = f ∧ hp b = g
    · rw [show tb P sets ch hp f g a t (b + 1) = tcm P sets ch hp a b (tb P sets ch hp f g a t b) from if_pos c]
      have key : gd M hp (tcm P sets ch hp a b (tb P sets ch hp f g a t b)) := tcm_fg hP (by rw [c.1, c.2]; exact hfg) (by rw [c.2]; exact hg) (by rw [c.1]; exact h1) (by rw [c.2]; exact h2) ih.1
      exact ⟨Or.inr key, fun _ => key, fun _ => key⟩
    · rw [show tb P sets ch hp f g a t (b + 1) = tb P sets ch hp f g a t b from if_neg c]
      refine ⟨ih.1, ih.2.1, fun q => ih.2.2 ⟨q.1, ?_⟩⟩
      obtain ⟨q1, b', hb, e⟩ := q
      refine ⟨b', ?_, e⟩
      rcases Nat.lt_succ_iff_lt_or_eq.mp hb with z | z
      · exact z
      · exact absurd ⟨q1, z ▸ e⟩ c
theorem ta_fg {M f g : Nat} {t : TS} (hP : P ≤ 8) (hfg : f < g) (hg : g < M) (h1 : hp f = f) (h2 : hp g = g) (h : fg M hp t) : ∀ a, fg M hp (ta P sets ch hp f g M t a) ∧ (gd M hp t → gd M hp (ta P sets ch hp f g M t a)) ∧ (f < a → gd M hp (ta P sets ch hp f g M t a)) := by
  intro a
  induction a with
  | zero => exact ⟨h, fun q => q, fun q => by omega⟩
  | succ a ih =>
    have k := tb_fg (P := P) (sets := sets) (ch := ch) (a := a) hP hfg hg h1 h2 ih.1 M
    refine ⟨k.1, fun q => k.2.1 (ih.2.1 q), fun q => ?_⟩
    rcases Nat.lt_succ_iff_lt_or_eq.mp q with z | z
    · exact k.2.1 (ih.2.2 z)
    · exact k.2.2 ⟨z ▸ h1, g, hg, h2⟩
theorem tso_fg {M f : Nat} {t : TS} (hP : P ≤ 8) (h : fg M hp t) : ∀ o, o ≤ M → fg M hp (tso P sets ch hp M t f o) ∧ (gd M hp t → gd M hp (tso P sets ch hp M t f o)) ∧ ((∃ o', o' < o ∧ f < o' ∧ hp f = f ∧ hp o' = o') → gd M hp (tso P sets ch hp M t f o)) := by
  intro o
  induction o with
  | zero => intro _; exact ⟨h, fun q => q, fun q => by obtain ⟨o', z, -⟩ := q; omega⟩
  | succ o ih =>
    intro ho
    have ih := ih (by omega)
    by_cases c : f < o ∧ hp f = f ∧ hp o = o
    · rw [show tso P sets ch hp M t f (o + 1) = ta P sets ch hp f o M (tso P sets ch hp M t f o) M from if_pos c]
      have k := ta_fg (P := P) (sets := sets) (ch := ch) hP c.1 (show o < M by omega) c.2.1 c.2.2 ih.1 M
      have kk := k.2.2 (by omega)
      exact ⟨Or.inr kk, fun _ => kk, fun _ => kk⟩
    · rw [show tso P sets ch hp M t f (o + 1) = tso P sets ch hp M t f o from if_neg c]
      refine ⟨ih.1, ih.2.1, fun q => ih.2.2 ?_⟩
      obtain ⟨o', z1, z2, z3, z4⟩ := q
      rcases Nat.lt_succ_iff_lt_or_eq.mp z1 with z | z
      · exact ⟨o', z, z2, z3, z4⟩
      · subst z; exact absurd ⟨z2, z3, z4⟩ c
theorem tsf_fg {M : Nat} {t : TS} (hP : P ≤ 8) (h : fg M hp t) : ∀ f, f ≤ M → fg M hp (tsf P sets ch hp M t f) ∧ ((∃ f' o', f' < f ∧ o' < M ∧ f' < o' ∧ hp f' = f' ∧ hp o' = o') → gd M hp (tsf P sets ch hp M t f)) := by
  intro f
  induction f with
  | zero => intro _; exact ⟨h, fun q => by obtain ⟨f', o', z, -⟩ := q; omega⟩
  | succ f ih =>
    intro hf
    have ih := ih (by omega)
    have k := tso_fg (P := P) (sets := sets) (ch := ch) (f := f) hP ih.1 M (Nat.le_refl _)
    refine ⟨k.1, fun q => ?_⟩
    obtain ⟨f', o', z1, z2, z3, z4, z5⟩ := q
    rcases Nat.lt_succ_iff_lt_or_eq.mp z1 with z | z
    · exact k.2.1 (ih.2 ⟨f', o', z, z2, z3, z4, z5⟩)
    · subst z; exact k.2.2 ⟨o', z2, z3, z4, z5⟩
theorem spj_gd {M : Nat} {t : TS} (hP : P ≤ 8) (h2 : ∃ f o, f < o ∧ o < M ∧ hp f = f ∧ hp o = o) : gd M hp (spj P sets ch hp M t) := by
  obtain ⟨f, o, z1, z2, z3, z4⟩ := h2
  exact (tsf_fg (t := (t.1, t.2.1, (-1), nI 1)) hP (Or.inl ⟨rfl, rfl⟩) M (Nat.le_refl _)).2 ⟨f, o, by omega, z2, z1, z3, z4⟩
end Tree
theorem un_at (fi se : Nat) (hp : Nat → Nat) : ∀ n j, un fi se hp n j = if j < n ∧ hp j = se then fi else hp j := by
  intro n
  induction n with
  | zero => intro j; rw [if_neg (by omega)]; rfl
  | succ n ih =>
    intro j
    show up (un fi se hp n) n _ j = _
    unfold up
    by_cases e : j = n
    · subst e
      rw [if_pos rfl, ih j, if_neg (by omega : ¬ (j < j ∧ hp j = se))]
      by_cases h : hp j = se
      · rw [if_pos h, if_pos ⟨by omega, h⟩]
      · rw [if_neg h, if_neg (fun q => h q.2)]
    · rw [if_neg e, ih j]
      by_cases h : hp j = se
      · by_cases k : j < n
        · rw [if_pos ⟨k, h⟩, if_pos ⟨by omega, h⟩]
        · rw [if_neg (fun q => k q.1), if_neg (fun q => by omega)]
      · rw [if_neg (fun q => h q.2), if_neg (fun q => h q.2)]
theorem un_hd {M fi se : Nat} {hp : Nat → Nat} (hh : hd M hp) (h1 : fi < M) (h2 : hp fi = fi) (h3 : fi ≠ se) : hd M (un fi se hp M) := by
  have ff : un fi se hp M fi = fi := by rw [un_at, if_neg (fun q => h3 (h2.symm.trans q.2)), h2]
  intro a ha
  obtain ⟨k1, k2⟩ := hh a ha
  by_cases h : hp a = se
  · rw [show un fi se hp M a = fi by rw [un_at, if_pos ⟨ha, h⟩]]
    exact ⟨h1, ff⟩
  · rw [show un fi se hp M a = hp a by rw [un_at, if_neg (fun q => h q.2)]]
    refine ⟨k1, ?_⟩
    rw [un_at, if_neg (fun q => h (k2.symm.trans q.2)), k2]
theorem sm_one {f f' : Nat → Nat} {s : Nat} : ∀ n, s < n → (∀ j, j ≠ s → f j = f' j) → f s = f' s + 1 → sm f n = sm f' n + 1 := by
  intro n
  induction n with
  | zero => intro h; omega
  | succ n ih =>
    intro h h1 h2
    show sm f n + f n = sm f' n + f' n + 1
    by_cases e : s = n
    · subst e
      rw [sm_congr (g := f') (fun m hm => h1 m (by omega)), h2]; omega
    · rw [ih (by omega) h1 h2, h1 n (fun q => e q.symm)]; omega
theorem un_nh {M fi se : Nat} {hp : Nat → Nat} (h1 : fi < se) (h2 : se < M) (h3 : hp fi = fi) (h4 : hp se = se) : nh hp M = nh (un fi se hp M) M + 1 := by
  -- heads of the joined one, on the machines there are
  have e : nh (un fi se hp M) M = sm (fun j => if j = se then 0 else if hp j = j then 1 else 0) M := sm_congr fun j hj => by
    by_cases a : hp j = se
    · have hu : un fi se hp M j = fi := by rw [un_at, if_pos ⟨hj, a⟩]
      rw [hu]
      by_cases b : j = se
      · rw [if_pos b, if_neg (by omega)]
      · rw [if_neg b, if_neg (show ¬ hp j = j from fun q => b (q.symm.trans a))]
        by_cases d : fi = j
        · subst d; rw [h3] at a; omega
        · rw [if_neg d]
    · have hu : un fi se hp M j = hp j := by rw [un_at, if_neg (fun q => a q.2)]
      rw [hu]
      by_cases b : j = se
      · subst b; exact absurd h4 a
      · rw [if_neg b]
  rw [e]
  exact sm_one M h2 (fun j hj => by rw [if_neg hj]) (by rw [if_pos h4, if_pos rfl])
theorem two_heads {hp : Nat → Nat} : ∀ M, 2 ≤ nh hp M → ∃ f o, f < o ∧ o < M ∧ hp f = f ∧ hp o = o := by
  have one : ∀ M, 1 ≤ nh hp M → ∃ f, f < M ∧ hp f = f := by
    intro M
    induction M with
    | zero => intro h; exact absurd h (show ¬ 1 ≤ (0 : Nat) by decide)
    | succ M ih =>
      intro h
      by_cases e : hp M = M
      · exact ⟨M, Nat.lt_succ_self M, e⟩
      · have h' : 1 ≤ nh hp M := by
          have : nh hp (M + 1) = nh hp M + (if hp M = M then 1 else 0) := rfl
          rw [this, if_neg e] at h; exact h
        obtain ⟨f, z1, z2⟩ := ih h'
        exact ⟨f, by omega, z2⟩
  intro M
  induction M with
  | zero => intro h; exact absurd h (show ¬ 2 ≤ (0 : Nat) by decide)
  | succ M ih =>
    intro h
    have hs : nh hp (M + 1) = nh hp M + (if hp M = M then 1 else 0) := rfl
    by_cases e : hp M = M
    · rw [hs, if_pos e] at h
      obtain ⟨f, z1, z2⟩ := one M (by omega)
      exact ⟨f, M, z1, Nat.lt_succ_self M, z2, e⟩
    · rw [hs, if_neg e] at h
      obtain ⟨f, o, z1, z2, z3, z4⟩ := ih h
      exact ⟨f, o, z1, by omega, z3, z4⟩
theorem hin_at (hp : Nat → Nat) : ∀ n j, j < n → hin hp n j = j := by
  intro n
  induction n with
  | zero => intro j h; omega
  | succ n ih =>
    intro j h
    by_cases e : j = n
    · subst e; exact up_s _ _ _
    · exact (up_n _ _ e).trans (ih j (by omega))
theorem hin_hd (hp : Nat → Nat) (M : Nat) : hd M (hin hp M) := fun a ha => by
  rw [hin_at hp M a ha, hin_at hp M a ha]; exact ⟨ha, rfl⟩
theorem hin_nh (hp : Nat → Nat) (M : Nat) : nh (hin hp M) M = M := by
  have e : nh (hin hp M) M = sm (fun _ => 1) M := sm_congr fun j hj => by rw [hin_at hp M j hj, if_pos rfl]
  rw [e]
  clear e
  induction M with
  | zero => rfl
  | succ M ih => show sm (fun _ => 1) M + 1 = M + 1; rw [ih]
theorem E_join {P : Nat} {sets : Nat → Nat} {ch M : Nat} {hp : Nat → Nat} {t : TS} (hP : P ≤ 8) : ∀ k, k + 1 ≤ M → (gj P sets ch M (hin hp M) t k = gm P sets ch M (hin hp M) t k ∧ hd M (gj P sets ch M (hin hp M) t k).1 ∧ nh (gj P sets ch M (hin hp M) t k).1 M = M - k) := by
  intro k
  induction k with
  | zero => intro _; exact ⟨rfl, hin_hd hp M, hin_nh hp M⟩
  | succ k ih =>
    intro hk
    obtain ⟨e1, e2, e3⟩ := ih (by omega)
    have es : spj P sets ch (gj P sets ch M (hin hp M) t k).1 M (gj P sets ch M (hin hp M) t k).2 = mpj P sets ch (gj P sets ch M (hin hp M) t k).1 M (gj P sets ch M (hin hp M) t k).2 := spj_mpj e2
    have hg := spj_gd (P := P) (sets := sets) (ch := ch) (t := (gj P sets ch M (hin hp M) t k).2) hP (two_heads M (by omega) : ∃ f o, f < o ∧ o < M ∧ (gj P sets ch M (hin hp M) t k).1 f = f ∧ (gj P sets ch M (hin hp M) t k).1 o = o)
    obtain ⟨g1, g2, g3, g4⟩ := hg
    refine ⟨?_, un_hd e2 (by omega) g3 (by omega), ?_⟩
    · show (un (spj P sets ch (gj P sets ch M (hin hp M) t k).1 M (gj P sets ch M (hin hp M) t k).2).1 (spj P sets ch (gj P sets ch M (hin hp M) t k).1 M (gj P sets ch M (hin hp M) t k).2).2.1 (gj P sets ch M (hin hp M) t k).1 M, spj P sets ch (gj P sets ch M (hin hp M) t k).1 M (gj P sets ch M (hin hp M) t k).2) = (un (mpj P sets ch (gm P sets ch M (hin hp M) t k).1 M (gm P sets ch M (hin hp M) t k).2).1 (mpj P sets ch (gm P sets ch M (hin hp M) t k).1 M (gm P sets ch M (hin hp M) t k).2).2.1 (gm P sets ch M (hin hp M) t k).1 M, mpj P sets ch (gm P sets ch M (hin hp M) t k).1 M (gm P sets ch M (hin hp M) t k).2)
      rw [es, e1]
    · have hn := un_nh g1 g2 g3 g4
      show nh (un (spj P sets ch (gj P sets ch M (hin hp M) t k).1 M (gj P sets ch M (hin hp M) t k).2).1 (spj P sets ch (gj P sets ch M (hin hp M) t k).1 M (gj P sets ch M (hin hp M) t k).2).2.1 (gj P sets ch M (hin hp M) t k).1 M) M = M - (k + 1)
      omega
