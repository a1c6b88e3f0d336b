/-! What is kept of a ducking: the reference. -/
/-- a row of four -/
def ro4 (a b c e : Nat) (j : Nat) : Nat := if j = 0 then a else if j = 1 then b else if j = 2 then c else e
/-- a row more; the oldest one goes at 40 -/
def kpA (h b i v : Nat) (K : Nat × (Nat → Nat)) : Nat × (Nat → Nat) :=
  if K.1 = 40 then (40, fun j => if j < 156 then K.2 (j + 4) else ro4 h b i v (j - 156)) else (K.1 + 1, fun j => if j < 4 * K.1 then K.2 j else ro4 h b i v (j - 4 * K.1))
/-- what is kept, in cells from a place on -/
def KpR (f : Nat → Int32) (o : Nat) (K : Nat × (Nat → Nat)) : Prop := ∀ j, j < 4 * K.1 → f (o + j) = nI (K.2 j)
theorem KpR.add {f g : Nat → Int32} {o h b i v : Nat} {K : Nat × (Nat → Nat)} (hk : K.1 ≤ 40) (hf : KpR f o K)
    (hg : ∀ j, j < 4 * (kpA h b i v K).1 - 4 → g (o + j) = f (o + j + (if K.1 = 40 then 4 else 0))) (h0 : g (o + (4 * (kpA h b i v K).1 - 4)) = nI h) (h1 : g (o + (4 * (kpA h b i v K).1 - 4) + 1) = nI b) (h2 : g (o + (4 * (kpA h b i v K).1 - 4) + 2) = nI i) (h3 : g (o + (4 * (kpA h b i v K).1 - 4) + 3) = nI v) : KpR g o (kpA h b i v K) := by
  intro j hj
  unfold kpA at hj hg h0 h1 h2 h3 ⊢
  by_cases hc : K.1 = 40
  · simp only [if_pos hc] at hj hg h0 h1 h2 h3 ⊢
    by_cases hj2 : j < 156
    · rw [if_pos hj2, hg j (by omega), show o + j + 4 = o + (j + 4) by omega]
      exact hf (j + 4) (by omega)
    · rw [if_neg hj2]
      unfold ro4
      rcases (by omega : j = 156 ∨ j = 157 ∨ j = 158 ∨ j = 159) with rfl | rfl | rfl | rfl
      · exact h0
      · exact h1
      · exact h2
      · exact h3
  · simp only [if_neg hc] at hj hg h0 h1 h2 h3 ⊢
    rw [show 4 * (K.1 + 1) - 4 = 4 * K.1 by omega] at hg h0 h1 h2 h3
    by_cases hj2 : j < 4 * K.1
    · rw [if_pos hj2, hg j hj2]
      exact hf j hj2
    · rw [if_neg hj2]
      unfold ro4
      rcases (by omega : j = 4 * K.1 ∨ j = 4 * K.1 + 1 ∨ j = 4 * K.1 + 2 ∨ j = 4 * K.1 + 3) with rfl | rfl | rfl | rfl
      · rw [Nat.sub_self]; exact h0
      · rw [show 4 * K.1 + 1 - 4 * K.1 = 1 by omega]; exact h1
      · rw [show 4 * K.1 + 2 - 4 * K.1 = 2 by omega]; exact h2
      · rw [show 4 * K.1 + 3 - 4 * K.1 = 3 by omega]; exact h3
section S40
variable {l : Launch} {X : Cx} {ρ : Rf} {σ : St} {S : Str}
theorem m_isKeptNo (d : Nat) {x y : Int32} (h1 : σ.1 326 60 = 1) : T l X d 211 [.ref 326, .int x, .int y] 402 402 ρ σ (fun v ρ' σ' => v = none ∧ ρ' = ρ ∧ σ' = σ) := by
  refine T_of rfl ?_
  refine Ev_aload rfl rfl rfl ?_
  refine Ev_getI rfl (by first | rfl | assumption) ?_
  refine Ev_norm h1 ?_
  refine Ev_if_eq rfl (fun h4 => absurd h4 (by decide)) (fun h4 => ?_)
  exact Ev_return rfl rfl rfl ⟨rfl, rfl, rfl⟩
theorem ik_loop {d : Nat} {x y : Int32} {Q : Po} (hρ : RF ρ) (f0 : Nat → Int32) (hQ : ∀ f, (∀ j, f j = if 82 ≤ j ∧ j < 238 then f0 (j + 4) else f0 j) → Ev l X (d + 1) 211 50 [.ref 326, .int x, .int y, .int (nI 238)] [] 402 402 402 ρ (sI σ 365 f) Q) :
    ∀ (m k : Nat) (f : Nat → Int32), k + m = 238 → 82 ≤ k → (∀ j, f j = if 82 ≤ j ∧ j < k then f0 (j + 4) else f0 j) → Ev l X (d + 1) 211 23 [.ref 326, .int x, .int y, .int (nI k)] [] 402 402 402 ρ (sI σ 365 f) Q := by
  intro m
  induction m with
  | zero =>
    intro k f hk hk2 hf
    have hk : k = 238 := by omega
    subst hk
    refine Ev_iload rfl rfl ?_
    refine Ev_const rfl ?_
    refine Ev_icmp_ge rfl (fun h27 => ?_) (fun h27 => absurd (by decide) h27)
    exact hQ f hf
  | succ m ih =>
    intro k f hk hk2 hf
    refine Ev_iload rfl rfl ?_
    refine Ev_const rfl ?_
    refine Ev_icmp_ge rfl (fun h27 => absurd h27 (nI_ge (b := 238) (by omega) (by decide))) (fun h27 => ?_)
    refine Ev_aload rfl rfl rfl ?_
    refine Ev_getR rfl (by first | rfl | assumption) (hρ _ _ _ rfl) ?_
    refine Ev_iload rfl rfl ?_
    refine Ev_aload rfl rfl rfl ?_
    refine Ev_getR rfl (by first | rfl | assumption) (hρ _ _ _ rfl) ?_
    refine Ev_iload rfl rfl ?_
    refine Ev_const rfl ?_
    refine Ev_iadd rfl ?_
    refine Ev_norm (nI_add k 4) ?_
    refine Ev_iald rfl (by first | rfl | assumption) (vp_in_nI (n := k + 4) (show k + 4 < 242 by omega) (by decide)) ?_
    refine Ev_norm (by rw [nI_clamp (by omega), sR_0, hf (k + 4), if_neg (by omega)] : _ = f0 (k + 4)) ?_
    refine Ev_iast rfl (by first | rfl | assumption) (vp_in_nI (n := k) (show k < 242 by omega) (by decide)) ?_
    refine Ev_iincE rfl rfl (nI_1 k) ?_
    refine Ev_goto rfl ?_
    rw [nI_clamp (by omega), sI_sI, sR_0]
    refine ih (k + 1) _ (by omega) (by omega) (fun j => ?_)
    by_cases hj : j = k
    · subst hj; rw [pk_us, if_pos (by omega)]
    · rw [pk_un hj, hf j]
      by_cases hj2 : 82 ≤ j ∧ j < k
      · rw [if_pos hj2, if_pos (by omega)]
      · rw [if_neg hj2, if_neg (by omega)]
theorem ik_tail {d b i h : Nat} {K : Nat × (Nat → Nat)} {f0 f : Nat → Int32} {w : Value} (hρ : RF ρ) (hS : MStr (sI σ 365 f) S) (hb : b < 6) (hi : i < 8) (hh : f 0 = nI h) (hk : K.1 ≤ 40) (hK : KpR f0 82 K) (h81 : f 81 = nI (kpA h b i (S b i) K).1)
    (hf : ∀ j, j < 4 * (kpA h b i (S b i) K).1 - 4 → f (82 + j) = f0 (82 + j + (if K.1 = 40 then 4 else 0))) (hlo : ∀ j, j < 81 → f j = f0 j) :
    Ev l X (d + 1) 211 64 [.ref 326, .int (nI b), .int (nI i), w] [] 402 402 402 ρ (sI σ 365 f) (fun v ρ' σ' => v = none ∧ ρ' = ρ ∧ ∃ g, σ' = sI σ 365 g ∧ (∀ j, j < 81 → g j = f0 j) ∧ g 81 = nI (kpA h b i (S b i) K).1 ∧ KpR g 82 (kpA h b i (S b i) K)) := by
  have hc1 : 1 ≤ (kpA h b i (S b i) K).1 ∧ (kpA h b i (S b i) K).1 ≤ 40 := by
    unfold kpA
    by_cases hc : K.1 = 40
    · rw [if_pos hc]; exact ⟨(by decide : 1 ≤ 40), Nat.le_refl 40⟩
    · rw [if_neg hc]; exact ⟨by show 1 ≤ K.1 + 1; omega, by show K.1 + 1 ≤ 40; omega⟩
  generalize hcc : (kpA h b i (S b i) K).1 = c at *
  refine Ev_const rfl ?_
  refine Ev_const rfl ?_
  refine Ev_aload rfl rfl rfl ?_
  refine Ev_getR rfl (by first | rfl | assumption) (hρ _ _ _ rfl) ?_
  refine Ev_const rfl ?_
  refine Ev_iald rfl (by first | rfl | assumption) (vp_in_nI (n := 81) (by decide) (by decide)) ?_
  refine Ev_norm h81 ?_
  refine Ev_imul rfl ?_
  refine Ev_norm (pk_mul 4 c) ?_
  refine Ev_iadd rfl ?_
  refine Ev_norm (nI_add 82 (4 * c)) ?_
  refine Ev_const rfl ?_
  refine Ev_isub rfl ?_
  refine Ev_norm (pk_sub (a := 82 + 4 * c) (b := 4) (by omega) : _ = nI (82 + 4 * c - 4)) ?_
  refine Ev_istore rfl ?_
  refine Ev_aload rfl rfl rfl ?_
  refine Ev_getR rfl (by first | rfl | assumption) (hρ _ _ _ rfl) ?_
  refine Ev_iload rfl rfl ?_
  refine Ev_aload rfl rfl rfl ?_
  refine Ev_getR rfl (by first | rfl | assumption) (hρ _ _ _ rfl) ?_
  refine Ev_const rfl ?_
  refine Ev_iald rfl (by first | rfl | assumption) (vp_in_nI (n := 0) (by decide) (by decide)) ?_
  refine Ev_norm hh ?_
  refine Ev_iast rfl (by first | rfl | assumption) (vp_in_nI (n := 82 + 4 * c - 4) (show 82 + 4 * c - 4 < 242 by omega) (by decide)) ?_
  refine Ev_aload rfl rfl rfl ?_
  refine Ev_getR rfl (by first | rfl | assumption) (hρ _ _ _ rfl) ?_
  refine Ev_iload rfl rfl ?_
  refine Ev_const rfl ?_
  refine Ev_iadd rfl ?_
  refine Ev_norm (nI_1 (82 + 4 * c - 4)) ?_
  refine Ev_iload rfl rfl ?_
  refine Ev_iast rfl (by first | rfl | assumption) (vp_in_nI (n := 82 + 4 * c - 4 + 1) (show 82 + 4 * c - 4 + 1 < 242 by omega) (by decide)) ?_
  refine Ev_aload rfl rfl rfl ?_
  refine Ev_getR rfl (by first | rfl | assumption) (hρ _ _ _ rfl) ?_
  refine Ev_iload rfl rfl ?_
  refine Ev_const rfl ?_
  refine Ev_iadd rfl ?_
  refine Ev_norm (nI_add (82 + 4 * c - 4) 2) ?_
  refine Ev_iload rfl rfl ?_
  refine Ev_iast rfl (by first | rfl | assumption) (vp_in_nI (n := 82 + 4 * c - 4 + 2) (show 82 + 4 * c - 4 + 2 < 242 by omega) (by decide)) ?_
  refine Ev_aload rfl rfl rfl ?_
  refine Ev_getR rfl (by first | rfl | assumption) (hρ _ _ _ rfl) ?_
  refine Ev_iload rfl rfl ?_
  refine Ev_const rfl ?_
  refine Ev_iadd rfl ?_
  refine Ev_norm (nI_add (82 + 4 * c - 4) 3) ?_
  refine Ev_aload rfl rfl rfl ?_
  refine Ev_iload rfl rfl ?_
  refine Ev_iload rfl rfl ?_
  refine Ev_callV rfl rfl rfl rfl rfl (same_n 402) (m_strengthOf _ hρ (S := S) (fun b' i' hb' hi' => by rw [sI_sI, sI_sI, sI_sI, sR_0, nI_clamp (by omega), nI_clamp (by omega), nI_clamp (by omega), sR_0, sR_0, sR_0, pk_un (by omega), pk_un (by omega), pk_un (by omega)]; have := hS b' i' hb' hi'; rw [sR_0] at this; exact this) hb hi) ?_
  rintro v119 ρ119 σ119 ⟨rfl, e119, g119⟩
  obtain rfl := e119.symm
  obtain rfl := g119.symm
  refine Ev_iast rfl (by first | rfl | assumption) (vp_in_nI (n := 82 + 4 * c - 4 + 3) (show 82 + 4 * c - 4 + 3 < 242 by omega) (by decide)) ?_
  exact Ev_return rfl rfl rfl ⟨rfl, rfl, upd (upd (upd (upd f (82 + 4 * c - 4) (nI h)) (82 + 4 * c - 4 + 1) (nI b)) (82 + 4 * c - 4 + 2) (nI i)) (82 + 4 * c - 4 + 3) (nI (S b i)), by rw [sI_sI, sI_sI, sI_sI, sI_sI, sR_0, sR_0, sR_0, sR_0, nI_clamp (by omega), nI_clamp (by omega), nI_clamp (by omega), nI_clamp (by omega)], fun j hj => by rw [pk_un (by omega), pk_un (by omega), pk_un (by omega), pk_un (by omega)]; exact hlo j hj, by rw [pk_un (by omega), pk_un (by omega), pk_un (by omega), pk_un (by omega)]; exact h81, by
  refine KpR.add hk hK (fun j hj => ?_) ?_ ?_ ?_ ?_
  · rw [hcc] at hj
    rw [pk_un (by omega), pk_un (by omega), pk_un (by omega), pk_un (by omega)]
    exact hf j hj
  · rw [hcc, show 82 + (4 * c - 4) = 82 + 4 * c - 4 by omega, pk_un (by omega), pk_un (by omega), pk_un (by omega), pk_us]
  · rw [hcc, show 82 + (4 * c - 4) = 82 + 4 * c - 4 by omega, pk_un (by omega), pk_un (by omega), pk_us]
  · rw [hcc, show 82 + (4 * c - 4) = 82 + 4 * c - 4 by omega, pk_un (by omega), pk_us]
  · rw [hcc, show 82 + (4 * c - 4) = 82 + 4 * c - 4 by omega, pk_us]⟩
theorem m_isKept (d : Nat) {b i h : Nat} {K : Nat × (Nat → Nat)} (hρ : RF ρ) (hth : σ.1 326 60 = 0) (hS : MStr σ S) (hb : b < 6) (hi : i < 8) (hh : σ.1 365 0 = nI h) (hk : K.1 ≤ 40) (hK : KpR (σ.1 365) 82 K) (hK2 : σ.1 365 81 = nI K.1) :
    T l X (d + 1) 211 [.ref 326, .int (nI b), .int (nI i)] 402 402 ρ σ (fun v ρ' σ' => v = none ∧ ρ' = ρ ∧ ∃ g, σ' = sI σ 365 g ∧ (∀ j, j < 81 → g j = σ.1 365 j) ∧ g 81 = nI (kpA h b i (S b i) K).1 ∧ KpR g 82 (kpA h b i (S b i) K)) := by
  have hs : σ = sI σ 365 (σ.1 365) := (sI_self σ _).symm
  by_cases hc : K.1 = 40
  · have hkc : (kpA h b i (S b i) K).1 = 40 := by unfold kpA; rw [if_pos hc]
    refine T_of rfl ?_
    refine Ev_aload rfl rfl rfl ?_
    refine Ev_getI rfl (by first | rfl | assumption) ?_
    refine Ev_norm hth ?_
    refine Ev_if_eq rfl (fun h4 => ?_) (fun h4 => absurd rfl h4)
    refine Ev_aload rfl rfl rfl ?_
    refine Ev_getR rfl (by first | rfl | assumption) (hρ _ _ _ rfl) ?_
    refine Ev_const rfl ?_
    refine Ev_iald rfl (by first | rfl | assumption) (vp_in_nI (n := 81) (by decide) (by decide)) ?_
    refine Ev_norm hK2 ?_
    refine Ev_const rfl ?_
    refine Ev_icmp_ne rfl (fun h17 => absurd (by rw [hc]; rfl) h17) (fun h17 => ?_)
    refine Ev_const rfl ?_
    refine Ev_istore rfl ?_
    have := ik_loop (l := l) (X := X) (d := d) (σ := σ) (x := nI b) (y := nI i) (Q := fun v ρ' σ' => v = none ∧ ρ' = ρ ∧ ∃ g, σ' = sI σ 365 g ∧ (∀ j, j < 81 → g j = σ.1 365 j) ∧ g 81 = nI (kpA h b i (S b i) K).1 ∧ KpR g 82 (kpA h b i (S b i) K)) hρ (σ.1 365) (fun f hf => ?_) 156 82 (σ.1 365) (by decide) (Nat.le_refl _) (fun j => by rw [if_neg (by omega)])
    · rw [sI_self] at this; exact this
    refine Ev_goto rfl ?_
    refine ik_tail hρ (fun b' i' hb' hi' => ?_) hb hi ?_ hk hK ?_ (fun j hj => ?_) (fun j hj => ?_)
    · rw [sR_0, hf, if_neg (by omega)]; exact hS b' i' hb' hi'
    · rw [hf, if_neg (by omega)]; exact hh
    · rw [hf, if_neg (by omega), hkc, hK2, hc]
    · rw [hkc] at hj; rw [hf, if_pos (by omega), if_pos hc]
    · rw [hf, if_neg (by omega)]
  · have hkc : (kpA h b i (S b i) K).1 = K.1 + 1 := by unfold kpA; rw [if_neg hc]
    refine T_of rfl ?_
    refine Ev_aload rfl rfl rfl ?_
    refine Ev_getI rfl (by first | rfl | assumption) ?_
    refine Ev_norm hth ?_
    refine Ev_if_eq rfl (fun h4 => ?_) (fun h4 => absurd rfl h4)
    refine Ev_aload rfl rfl rfl ?_
    refine Ev_getR rfl (by first | rfl | assumption) (hρ _ _ _ rfl) ?_
    refine Ev_const rfl ?_
    refine Ev_iald rfl (by first | rfl | assumption) (vp_in_nI (n := 81) (by decide) (by decide)) ?_
    refine Ev_norm hK2 ?_
    refine Ev_const rfl ?_
    refine Ev_icmp_ne rfl (fun h17 => ?_) (fun h17 => absurd ((nI_eq (by omega) (by decide)).mp (Decidable.not_not.mp h17)) hc)
    refine Ev_aload rfl rfl rfl ?_
    refine Ev_getR rfl (by first | rfl | assumption) (hρ _ _ _ rfl) ?_
    refine Ev_const rfl ?_
    refine Ev_dup2 rfl (fun _ q => nomatch q) (fun _ q => nomatch q) ?_
    refine Ev_iald rfl (by first | rfl | assumption) (vp_in_nI (n := 81) (by decide) (by decide)) ?_
    refine Ev_norm hK2 ?_
    refine Ev_const rfl ?_
    refine Ev_iadd rfl ?_
    refine Ev_norm (nI_1 K.1) ?_
    refine Ev_iast rfl (by first | rfl | assumption) (vp_in_nI (n := 81) (by decide) (by decide)) ?_
    refine Ev_st rfl (rfl : _ = sI σ 365 (upd (σ.1 365) 81 (nI (K.1 + 1)))) ?_
    refine ik_tail hρ (fun b' i' hb' hi' => ?_) hb hi ?_ hk hK ?_ (fun j hj => ?_) (fun j hj => ?_)
    · rw [sR_0, pk_un (by omega)]; exact hS b' i' hb' hi'
    · rw [pk_un (by decide)]; exact hh
    · rw [pk_us, hkc]
    · rw [pk_un (by omega), if_neg hc]; rfl
    · rw [pk_un (by omega)]
end S40
