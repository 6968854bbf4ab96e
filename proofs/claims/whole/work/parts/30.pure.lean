/-! the class's words and the reference's are the same -/
theorem nI_n9 {j : Nat} (h : j < 2 ^ 31) : nI j ≠ -9 := by
  intro e
  have h1 := nI_toInt h
  rw [e] at h1
  have h2 : (-9 : Int32).toInt = -9 := by decide
  omega
theorem lrg_wth {M g L : Nat} : lrg M g 4 ≤ L ↔ wth M g L := by
  have e : lrg M g 4 = max (max (max (max 0 (ic M g (2 ^ M - 1) 0)) (ic M g (2 ^ M - 1) 1)) (ic M g (2 ^ M - 1) 2)) (ic M g (2 ^ M - 1) 3) := rfl
  rw [e, Nat.max_le, Nat.max_le, Nat.max_le, Nat.max_le]
  constructor
  · intro h j hj
    rcases (show j = 0 ∨ j = 1 ∨ j = 2 ∨ j = 3 by omega) with rfl | rfl | rfl | rfl
    · exact h.1.1.1.2
    · exact h.1.1.2
    · exact h.1.2
    · exact h.2
  · intro h
    exact ⟨⟨⟨⟨Nat.zero_le _, h 0 (by decide)⟩, h 1 (by decide)⟩, h 2 (by decide)⟩, h 3 (by decide)⟩
theorem plain4 {M g : Nat} (hM : 1 ≤ M) (h : plain M g) : g % 4 = 0 := by
  have h0 := h 0 hM
  have h1 : opn g 0 = 0 := rfl
  have h2 : cl g 0 = g % 4 := by unfold cl; simp
  omega
theorem ic_sum (M g : Nat) : sm (fun d => ic M g (2 ^ M - 1) d) 4 = M := by
  have e : sm (fun d => ic M g (2 ^ M - 1) d) 4 = sm (fun d => sm (fun m => if cl g m = d then 1 else 0) M) 4 := sm_congr fun d _ => ic_full g d
  rw [e, sm_swap]
  have e2 : sm (fun m => sm (fun d => if cl g m = d then 1 else 0) 4) M = sm (fun _ => 1) M := sm_congr fun m _ => by
    have h4 := cl_lt g m
    generalize cl g m = k at h4 ⊢
    exact (by decide : ∀ k, k < 4 → sm (fun d => if k = d then 1 else 0) 4 = 1) k h4
  rw [e2]
  clear e e2
  induction M with
  | zero => rfl
  | succ M ih => show sm (fun _ => 1) M + 1 = M + 1; rw [ih]
theorem wth_no {M g L : Nat} (h : 4 * L < M) : ¬ wth M g L := by
  intro hw
  have h1 := ic_sum M g
  have h2 : sm (fun d => ic M g (2 ^ M - 1) d) 4 ≤ 4 * L := sm_bd (fun d hd => hw d hd)
  omega
def gex (M L : Nat) : Nat := sm (fun m => m / L * 2 ^ (2 * m)) M
theorem gex_lt : ∀ M, M < 8 → ∀ L, L < 8 → 1 ≤ M → M ≤ 4 * L → gex M L < 2 ^ (2 * M) := by decide +kernel
theorem gex_plain : ∀ M, M < 8 → ∀ L, L < 8 → 1 ≤ M → M ≤ 4 * L → ∀ i, i < M → cl (gex M L) i ≤ opn (gex M L) i := by decide +kernel
theorem gex_wth : ∀ M, M < 8 → ∀ L, L < 8 → 1 ≤ M → M ≤ 4 * L → ∀ j, j < 4 → ic M (gex M L) (2 ^ M - 1) j ≤ L := by decide +kernel
section Best
variable {M P : Nat} {sets amts : Nat → Nat} {ch kd L : Nat}
theorem bm_skip {g : Nat} (h : ¬ plain M g) : bm M P sets amts ch kd L (g + 1) = bm M P sets amts ch kd L g := cnd_f (fun q => h q.1)
/-- found on both sides alike, or on none -/
theorem bm_sgb (hm1 : 1 ≤ M) (hM : M ≤ 7) (hP : P ≤ 8) (ha : ∀ j, amts j < 10) (hk : kd < 3) : ∀ i, i ≤ 2 ^ 20 →
    ((bm M P sets amts ch kd L (4 * i)).1 = -9 ∧ (sgb M P sets amts ch kd L i).2 = 1073741824) ∨
    ((bm M P sets amts ch kd L (4 * i)).1 = nI (sgb M P sets amts ch kd L i).1 ∧ (sgb M P sets amts ch kd L i).1 < 4 * i ∧ (bm M P sets amts ch kd L (4 * i)).2 = (sgb M P sets amts ch kd L i).2) := by
  intro i
  induction i with
  | zero => intro _; exact Or.inl ⟨rfl, rfl⟩
  | succ i ih =>
    intro hi
    have ih := ih (by omega)
    have h1 : ¬ plain M (4 * i + 1) := fun h => by have := plain4 hm1 h; omega
    have h2 : ¬ plain M (4 * i + 2) := fun h => by have := plain4 hm1 h; omega
    have h3 : ¬ plain M (4 * i + 3) := fun h => by have := plain4 hm1 h; omega
    have e4 : 4 * (i + 1) = 4 * i + 1 + 1 + 1 + 1 := by omega
    rw [e4, bm_skip h3, bm_skip h2, bm_skip h1]
    have hv : lossM M (4 * i) P sets amts ch kd = lossV M (4 * i) P sets amts ch kd := lossM_V hk
    have hl := lossV_le (M := M) (g := 4 * i) (P := P) (sets := sets) (amts := amts) (ch := ch) (kd := kd) hM hP ha
    by_cases hp : plain M (4 * i) ∧ wth M (4 * i) L
    · rcases ih with ⟨q1, q2⟩ | ⟨q1, q2, q3⟩
      · rw [show bm M P sets amts ch kd L (4 * i + 1) = (nI (4 * i), lossM M (4 * i) P sets amts ch kd) from cnd_t ⟨hp.1, hp.2, Or.inl q1⟩,
          show sgb M P sets amts ch kd L (i + 1) = (4 * i, lossV M (4 * i) P sets amts ch kd) from cnd_t ⟨hp.1, lrg_wth.mpr hp.2, by rw [q2]; omega⟩]
        exact Or.inr ⟨rfl, by show 4 * i < 4 * (i + 1); omega, hv⟩
      · have hne : (bm M P sets amts ch kd L (4 * i)).1 ≠ -9 := by rw [q1]; exact nI_n9 (by omega)
        by_cases hlt : lossM M (4 * i) P sets amts ch kd < (bm M P sets amts ch kd L (4 * i)).2
        · rw [show bm M P sets amts ch kd L (4 * i + 1) = (nI (4 * i), lossM M (4 * i) P sets amts ch kd) from cnd_t ⟨hp.1, hp.2, Or.inr hlt⟩,
            show sgb M P sets amts ch kd L (i + 1) = (4 * i, lossV M (4 * i) P sets amts ch kd) from cnd_t ⟨hp.1, lrg_wth.mpr hp.2, by rw [← hv, ← q3]; exact hlt⟩]
          exact Or.inr ⟨rfl, by show 4 * i < 4 * (i + 1); omega, hv⟩
        · rw [show bm M P sets amts ch kd L (4 * i + 1) = bm M P sets amts ch kd L (4 * i) from cnd_f (fun h => h.2.2.elim hne hlt),
            show sgb M P sets amts ch kd L (i + 1) = sgb M P sets amts ch kd L i from cnd_f (fun h => hlt (by rw [hv, q3]; exact h.2.2))]
          exact Or.inr ⟨q1, by omega, q3⟩
    · rw [show bm M P sets amts ch kd L (4 * i + 1) = bm M P sets amts ch kd L (4 * i) from cnd_f (fun h => hp ⟨h.1, h.2.1⟩),
        show sgb M P sets amts ch kd L (i + 1) = sgb M P sets amts ch kd L i from cnd_f (fun h => hp ⟨h.1, lrg_wth.mp h.2.1⟩)]
      rcases ih with q | ⟨q1, q2, q3⟩
      · exact Or.inl q
      · exact Or.inr ⟨q1, by omega, q3⟩
theorem bm_none (h : 4 * L < M) : ∀ g, bm M P sets amts ch kd L g = (-9, 0) := by
  intro g
  induction g with
  | zero => rfl
  | succ g ih => exact (cnd_f (fun q => wth_no h q.2.1)).trans ih
theorem bm_found {g0 : Nat} (hp : plain M g0) (hw : wth M g0 L) : ∀ n, g0 + n < 2 ^ 31 → (bm M P sets amts ch kd L (g0 + 1 + n)).1 ≠ -9 := by
  intro n
  induction n with
  | zero =>
    intro hlt
    by_cases h : (bm M P sets amts ch kd L g0).1 = -9 ∨ lossM M g0 P sets amts ch kd < (bm M P sets amts ch kd L g0).2
    · rw [show bm M P sets amts ch kd L (g0 + 1 + 0) = (nI g0, lossM M g0 P sets amts ch kd) from cnd_t ⟨hp, hw, h⟩]
      exact nI_n9 (by omega)
    · rw [show bm M P sets amts ch kd L (g0 + 1 + 0) = bm M P sets amts ch kd L g0 from cnd_f (fun q => h q.2.2)]
      exact fun q => h (Or.inl q)
  | succ n ih =>
    intro hlt
    have ih := ih (by omega)
    by_cases h : plain M (g0 + 1 + n) ∧ wth M (g0 + 1 + n) L ∧ ((bm M P sets amts ch kd L (g0 + 1 + n)).1 = -9 ∨ lossM M (g0 + 1 + n) P sets amts ch kd < (bm M P sets amts ch kd L (g0 + 1 + n)).2)
    · rw [show bm M P sets amts ch kd L (g0 + 1 + (n + 1)) = (nI (g0 + 1 + n), lossM M (g0 + 1 + n) P sets amts ch kd) from cnd_t h]
      exact nI_n9 (by omega)
    · rw [show bm M P sets amts ch kd L (g0 + 1 + (n + 1)) = bm M P sets amts ch kd L (g0 + 1 + n) from cnd_f h]
      exact ih
theorem E_best (hm1 : 1 ≤ M) (hM : M ≤ 7) (hP : P ≤ 8) (ha : ∀ j, amts j < 10) (hk : kd < 3) (hL : 1 ≤ L ∧ L ≤ 7) (w : Nat) : aBest M P sets amts ch kd L w = aBestM M P sets amts ch kd L w := by
  have e4 : 2 ^ (2 * M) = 4 * 2 ^ (2 * M - 2) := by rw [show 2 * M = 2 + (2 * M - 2) by omega, Nat.pow_add]; simp
  have h14 : 2 ^ (2 * M) ≤ 2 ^ 14 := Nat.pow_le_pow_right (by decide) (by omega)
  unfold aBest aBestM
  by_cases h : 4 * L < M
  · rw [if_pos h, bm_none h]
    exact (cnd_t rfl).symm
  · rw [if_neg h]
    have g1 := gex_lt M (by omega) L (by omega) hm1 (by omega)
    have hf := bm_found (M := M) (P := P) (sets := sets) (amts := amts) (ch := ch) (kd := kd) (L := L) (g0 := gex M L) (gex_plain M (by omega) L (by omega) hm1 (by omega)) (gex_wth M (by omega) L (by omega) hm1 (by omega)) (2 ^ (2 * M) - gex M L - 1) (by omega)
    rw [show gex M L + 1 + (2 ^ (2 * M) - gex M L - 1) = 2 ^ (2 * M) by omega] at hf
    rw [cnd_f hf]
    rw [e4] at hf ⊢
    rcases bm_sgb (M := M) (P := P) (sets := sets) (amts := amts) (ch := ch) (kd := kd) (L := L) hm1 hM hP ha hk (2 ^ (2 * M - 2)) (by omega) with q | ⟨q1, q2, q3⟩
    · exact absurd q.1 hf
    · rw [q1, q3]
end Best
section Routes
variable {M g P : Nat} {sets amts bo : Nat → Nat}
theorem rm_bch (hM : M ≤ 7) (hP : P ≤ 8) (ha : ∀ j, amts j < 10) : ∀ b, b ≤ 2 ^ 20 →
    ((rmm M g P sets amts bo b).1 = -9 ∧ bch M g P sets amts bo b = (-9, 1073741824)) ∨
    (∃ j, j < b ∧ (rmm M g P sets amts bo b).1 = nI j ∧ (rmm M g P sets amts bo b).2 = sm (wdp M g sets amts j) P ∧ bch M g P sets amts bo b = (nI j, sm (wdp M g sets amts j) P)) := by
  intro b
  induction b with
  | zero => intro _; exact Or.inl ⟨rfl, rfl⟩
  | succ b ih =>
    intro hb
    have ih := ih (by omega)
    have hv : sm (fun z => wn M g (setB sets b z) * amts z) P = sm (wdp M g sets amts b) P := wdm_eq M g sets amts b P
    have hl := wds_le (M := M) (g := g) (P := P) (sets := sets) (amts := amts) (ch := b) hM hP ha
    by_cases hr : right M P sets amts bo b
    · rcases ih with ⟨q1, q2⟩ | ⟨j, q0, q1, q2, q3⟩
      · rw [show rmm M g P sets amts bo (b + 1) = (nI b, sm (fun z => wn M g (setB sets b z) * amts z) P) from cnd_t ⟨hr, Or.inl q1⟩,
          show bch M g P sets amts bo (b + 1) = (nI b, sm (wdp M g sets amts b) P) from cnd_t ⟨by rw [q2]; show _ < 1073741824; omega, hr⟩]
        exact Or.inr ⟨b, by omega, rfl, hv, rfl⟩
      · have hne : (rmm M g P sets amts bo b).1 ≠ -9 := by rw [q1]; exact nI_n9 (by omega)
        by_cases hlt : sm (fun z => wn M g (setB sets b z) * amts z) P < (rmm M g P sets amts bo b).2
        · rw [show rmm M g P sets amts bo (b + 1) = (nI b, sm (fun z => wn M g (setB sets b z) * amts z) P) from cnd_t ⟨hr, Or.inr hlt⟩,
            show bch M g P sets amts bo (b + 1) = (nI b, sm (wdp M g sets amts b) P) from cnd_t ⟨by rw [q3, ← hv]; show _ < sm (wdp M g sets amts j) P; rw [← q2]; exact hlt, hr⟩]
          exact Or.inr ⟨b, by omega, rfl, hv, rfl⟩
        · rw [show rmm M g P sets amts bo (b + 1) = rmm M g P sets amts bo b from cnd_f (fun h => h.2.elim hne hlt),
            show bch M g P sets amts bo (b + 1) = bch M g P sets amts bo b from cnd_f (fun h => hlt (by rw [hv, q2]; have h1 := h.1; rw [q3] at h1; exact h1))]
          exact Or.inr ⟨j, by omega, q1, q2, q3⟩
    · rw [show rmm M g P sets amts bo (b + 1) = rmm M g P sets amts bo b from cnd_f (fun h => hr h.1),
        show bch M g P sets amts bo (b + 1) = bch M g P sets amts bo b from cnd_f (fun h => hr h.2)]
      rcases ih with q | ⟨j, q0, q⟩
      · exact Or.inl q
      · exact Or.inr ⟨j, by omega, q⟩
/-- the class finds none and so does the reference; or both the same -/
theorem E_routes (hM : M ≤ 7) (hP : P ≤ 8) (ha : ∀ j, amts j < 10) :
    ((bch M g P sets amts bo (2 ^ P)).1 = -9 ∧ ∀ w, aRoutM M g P sets amts bo w = -2) ∨
    (∃ j, j < 256 ∧ (bch M g P sets amts bo (2 ^ P)).1 = nI j ∧ ∀ w, aRoutM M g P sets amts bo w = nI (if w = 0 then j else sm (wdp M g sets amts j) P)) := by
  have h8 : 2 ^ P ≤ 2 ^ 8 := Nat.pow_le_pow_right (by decide) hP
  rcases rm_bch (g := g) (sets := sets) (bo := bo) hM hP ha (2 ^ P) (by omega) with ⟨q1, q2⟩ | ⟨j, q0, q1, q2, q3⟩
  · exact Or.inl ⟨by rw [q2], fun w => cnd_t q1⟩
  · refine Or.inr ⟨j, by omega, by rw [q3], fun w => ?_⟩
    unfold aRoutM
    rw [cnd_f (by rw [q1]; exact nI_n9 (by omega)), q1, q2]
    split <;> rfl
end Routes
