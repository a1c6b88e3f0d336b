/-! Moments stored and taken back: the reference. -/
theorem MMo.of {f g : Nat → Int32} {B : Bh} {N : Mo} (hW : WfN B) (h40 : N.2.2.2.1 ≤ 40) (H : MMo f B N) (h : ∀ j, j < 242 → g j = f j) : MMo g B N := by
  obtain ⟨h1, h2, h3, h4, h5⟩ := H
  have h16 := hW.2.2.2.1
  exact ⟨by rw [h 0 (by decide)]; exact h1, fun b i hb hi => by rw [h _ (by omega)]; exact h2 b i hb hi, fun j hj => by rw [h _ (by omega)]; exact h3 j hj, by rw [h 81 (by decide)]; exact h4, h5.of (fun j hj => h _ (by omega))⟩
/-- the same but for the moments stored -/
def cK (q : Nat) : Bool := Nat.beq q 374
def fK (j : Nat) : Bool := Nat.beq j 74 || Nat.beq j 73
section S52
variable {l : Launch} {X : Cx} {ρ : Rf} {B : Bh}
theorem st_loop {d w : Nat} {σ : St} {Q : Po} (hρ : RF ρ) (hw : w < 20) (hwn : σ.1 326 74 = nI w) (hQ : ∀ f, (∀ j, f j = if 242 * w ≤ j ∧ j < 242 * w + 242 then σ.1 365 (j - 242 * w) else σ.1 374 j) → Ev l X (d + 1) 252 49 [.ref 326, .int (nI 242)] [] 402 402 402 ρ (sI σ 374 f) Q) :
    ∀ (m k : Nat) (f : Nat → Int32), k + m = 242 → (∀ j, f j = if 242 * w ≤ j ∧ j < 242 * w + k then σ.1 365 (j - 242 * w) else σ.1 374 j) → Ev l X (d + 1) 252 15 [.ref 326, .int (nI k)] [] 402 402 402 ρ (sI σ 374 f) Q := by
  intro m
  induction m with
  | zero =>
    intro k f hk hf
    have hk : k = 242 := by omega
    subst hk
    refine Ev_iload rfl rfl ?_
    refine Ev_const rfl ?_
    refine Ev_icmp_ge rfl (fun h19 => ?_) (fun h19 => absurd (by decide) h19)
    exact hQ f hf
  | succ m ih =>
    intro k f hk hf
    refine Ev_iload rfl rfl ?_
    refine Ev_const rfl ?_
    refine Ev_icmp_ge rfl (fun h19 => absurd h19 (nI_ge (b := 242) (by omega) (by decide))) (fun h19 => ?_)
    refine Ev_aload rfl rfl rfl ?_
    refine Ev_getR rfl (by first | rfl | assumption) (hρ _ _ _ rfl) ?_
    refine Ev_const rfl ?_
    refine Ev_aload rfl rfl rfl ?_
    refine Ev_getI rfl (by first | rfl | assumption) ?_
    refine Ev_norm (by rw [sR_1 _ _ (by decide)]; exact hwn : _ = nI w) ?_
    refine Ev_imul rfl ?_
    refine Ev_norm (pk_mul 242 w) ?_
    refine Ev_iload rfl rfl ?_
    refine Ev_iadd rfl ?_
    refine Ev_norm (nI_add (242 * w) k) ?_
    refine Ev_aload rfl rfl rfl ?_
    refine Ev_getR rfl (by first | rfl | assumption) (hρ _ _ _ rfl) ?_
    refine Ev_iload rfl rfl ?_
    refine Ev_iald rfl (by first | rfl | assumption) (vp_in_nI (n := k) (show k < 242 by omega) (by decide)) ?_
    refine Ev_norm (by rw [nI_clamp (by omega), sR_1 _ _ (by decide)] : _ = σ.1 365 k) ?_
    refine Ev_iast rfl (by first | rfl | assumption) (vp_in_nI (n := 242 * w + k) (show 242 * w + k < 4840 by omega) (by decide)) ?_
    refine Ev_iincE rfl rfl (nI_1 k) ?_
    refine Ev_goto rfl ?_
    rw [nI_clamp (by omega), sI_sI, sR_0]
    refine ih (k + 1) _ (by omega) (fun j => ?_)
    by_cases hj : j = 242 * w + k
    · subst hj; rw [pk_us, if_pos (by omega), Nat.add_sub_cancel_left]
    · rw [pk_un hj, hf j]
      by_cases hj2 : 242 * w ≤ j ∧ j < 242 * w + k
      · rw [if_pos hj2, if_pos (by omega)]
      · rw [if_neg hj2, if_neg (by omega)]
theorem m_stores (d : Nat) {σ : St} {N : Mo} {P : Nat × (Nat → Mo)} (hρ : RF ρ) (hW : WfN B) (hN : MMo (σ.1 365) B N) (h40 : N.2.2.2.1 ≤ 40) (hP : MPas σ B P) (h20 : P.1 ≤ 20) (hP40 : ∀ k, k < P.1 → (P.2 k).2.2.2.1 ≤ 40) :
    T l X (d + 1) 252 [.ref 326] 402 402 ρ σ (fun v ρ' σ' => v = none ∧ ρ' = ρ ∧ MPas σ' B (pushP P N) ∧ MF cK fK σ σ') := by
  obtain ⟨p1, w, hw, p2, p3⟩ := hP
  have hr : (w + 1) % 20 < 20 := Nat.mod_lt _ (by decide)
  have hm0 : MF cK fK σ (sI σ 326 (upd (σ.1 326) 74 (nI ((w + 1) % 20)))) := MF.put _ rfl
  refine T_of rfl ?_
  refine Ev_aload rfl rfl rfl ?_
  refine Ev_aload rfl rfl rfl ?_
  refine Ev_getI rfl (by first | rfl | assumption) ?_
  refine Ev_norm p2 ?_
  refine Ev_const rfl ?_
  refine Ev_iadd rfl ?_
  refine Ev_norm (nI_1 w) ?_
  refine Ev_const rfl ?_
  refine Ev_irem rfl (by decide : ¬ (20 : Int32) = 0) ?_
  refine Ev_norm (pk_rem (a := w + 1) (d := 20) (by omega) (by decide) (by decide) : _ = nI ((w + 1) % 20)) ?_
  refine Ev_putI rfl (by first | rfl | assumption) ⟨rfl, rfl⟩ rfl ?_
  refine Ev_const rfl ?_
  refine Ev_istore rfl ?_
  have := st_loop (l := l) (X := X) (d := d) (Q := fun v ρ' σ' => v = none ∧ ρ' = ρ ∧ MPas σ' B (pushP P N) ∧ MF cK fK σ σ') (σ := sI σ 326 (upd (σ.1 326) 74 (nI ((w + 1) % 20)))) hρ hr (by rw [sR_0, pk_us]) (fun f hf => ?_) 242 0 _ (by decide) (fun j => by rw [if_neg (by omega)])
  · rw [sI_self] at this; exact this
  have hnew : MMo (fun j => f (242 * ((w + 1) % 20) + j)) B N := hN.of hW h40 (fun j hj => by show f _ = _; rw [hf, if_pos (by omega), Nat.add_sub_cancel_left, sR_1 _ _ (by decide)])
  have hold : ∀ k, k < P.1 → k < 19 → MMo (fun j => f (242 * ((w + 20 - k) % 20) + j)) B (P.2 k) := fun k hk hk19 => (p3 k hk).of hW (hP40 k hk) (fun j hj => by
    show f _ = σ.1 374 _
    have : (w + 20 - k) % 20 ≠ (w + 1) % 20 := by omega
    rw [hf, if_neg (by omega), sR_1 _ _ (by decide)])
  have hall : ∀ k, k < (pushP P N).1 → MMo (fun j => f (242 * (((w + 1) % 20 + 20 - k) % 20) + j)) B ((pushP P N).2 k) := by
    intro k hk
    unfold pushP at hk ⊢
    by_cases h0 : k = 0
    · subst h0
      simp only [if_true]
      rw [show ((w + 1) % 20 + 20 - 0) % 20 = (w + 1) % 20 by omega]; exact hnew
    · simp only [if_neg h0]
      have hk20 : k < 20 ∧ k - 1 < P.1 := by
        by_cases hc : P.1 < 20
        · simp only [if_pos hc] at hk; omega
        · simp only [if_neg hc] at hk; omega
      rw [show ((w + 1) % 20 + 20 - k) % 20 = (w + 20 - (k - 1)) % 20 by omega]
      exact hold (k - 1) hk20.2 (by omega)
  refine Ev_aload rfl rfl rfl ?_
  refine Ev_getI rfl (by first | rfl | assumption) ?_
  refine Ev_norm (by rw [sR_1 _ _ (by decide), sR_0, pk_un (by decide)]; exact p1 : _ = nI P.1) ?_
  refine Ev_const rfl ?_
  refine Ev_icmp_ge rfl (fun h55 => ?_) (fun h55 => ?_)
  · exact Ev_return rfl rfl rfl ⟨rfl, rfl, ⟨by
    rw [sR_1 _ _ (by decide), sR_0, pk_un (by decide), p1]
    have hlt : ¬ P.1 < 20 := fun q => absurd h55 (nI_ge (a := P.1) (b := 20) q (by decide))
    unfold pushP
    rw [if_neg hlt, show P.1 = 20 by omega], (w + 1) % 20, hr, by rw [sR_1 _ _ (by decide), sR_0, pk_us], fun k hk => by simp only [sR_0]; exact hall k hk⟩, hm0.tr (MF.cell _ (by decide) rfl)⟩
  · refine Ev_aload rfl rfl rfl ?_
    refine Ev_dup rfl (fun _ q => nomatch q) ?_
    refine Ev_getI rfl (by first | rfl | assumption) ?_
    refine Ev_norm (by rw [sR_1 _ _ (by decide), sR_0, pk_un (by decide)]; exact p1 : _ = nI P.1) ?_
    refine Ev_const rfl ?_
    refine Ev_iadd rfl ?_
    refine Ev_norm (nI_1 P.1) ?_
    refine Ev_putI rfl (by first | rfl | assumption) ⟨rfl, rfl⟩ rfl ?_
    exact Ev_return rfl rfl rfl ⟨rfl, rfl, ⟨by
    rw [sR_0, pk_us]
    have hlt : P.1 < 20 := Decidable.byContradiction fun q => h55 (by rw [show P.1 = 20 by omega]; decide)
    unfold pushP
    rw [if_pos hlt], (w + 1) % 20, hr, by rw [sR_0, pk_un (by decide), sR_1 _ _ (by decide), sR_0, pk_us], fun k hk => by simp only [sR_1 _ _ (show 374 ≠ 326 by decide), sR_0]; exact hall k hk⟩, (hm0.tr (MF.cell _ (by decide) rfl)).tr (MF.put _ rfl)⟩
end S52
