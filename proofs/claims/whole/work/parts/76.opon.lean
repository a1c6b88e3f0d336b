/-! An image taken as the state. -/
theorem idx_inj {n b i b' i' : Nat} (hi : i < n) (hi' : i' < n) (h : b' * n + i' = b * n + i) : b' = b ∧ i' = i := by
  have h1 : (b' * n + i') / n = b' := by rw [Nat.mul_comm, Nat.mul_add_div (by omega), Nat.div_eq_of_lt hi', Nat.add_zero]
  have h2 : (b * n + i) / n = b := by rw [Nat.mul_comm, Nat.mul_add_div (by omega), Nat.div_eq_of_lt hi, Nat.add_zero]
  rw [h, h2] at h1
  subst h1
  exact ⟨rfl, by omega⟩
theorem onS_st {B : Bh} {S : Str} {f : Nat → Nat} {b i b' i' : Nat} (hb : b < nb B) (hi : i < ni B) : onS B S f (b * ni B + i + 1) b' i' = if b' = b ∧ i' = i then f (2 + b * ni B + i) else onS B S f (b * ni B + i) b' i' := by
  unfold onS
  by_cases hq : b' = b ∧ i' = i
  · obtain ⟨rfl, rfl⟩ := hq
    rw [if_pos ⟨hb, hi, by omega⟩, if_pos ⟨rfl, rfl⟩]
  · rw [if_neg hq]
    by_cases h1 : b' < nb B ∧ i' < ni B ∧ b' * ni B + i' < b * ni B + i
    · rw [if_pos h1, if_pos ⟨h1.1, h1.2.1, by omega⟩]
    · rw [if_neg h1, if_neg (fun z => by
        have hne : b' * ni B + i' ≠ b * ni B + i := fun e => hq (idx_inj hi z.2.1 e)
        exact h1 ⟨z.1, z.2.1, by omega⟩)]
def onP (B : Bh) (P : Nat → Nat) (f : Nat → Nat) (c : Nat) (j : Nat) : Nat := if j < c then f (pl0 B + j) else P j
def nO (B : Bh) (N : Mo) (f : Nat → Nat) : Mo := (256 * f 0 + f 1, onS B N.2.1 f (nb B * ni B), onP B N.2.2.1 f (2 * np B), (0, N.2.2.2.2))
theorem WfA.on {A : Ab} (h : WfA A) {n : Nat} {f : Nat → Nat} (ho : onB (aB A) n f = true) : WfA (sP (sN (sT A (0, (aT A).2)) (nO (aB A) (aN A) f)) (0, (aP A).2)) := by
  obtain ⟨h1, h2, h3, h4, h5, h6, h7⟩ := h
  simp only [onB, Bool.and_eq_true, decide_eq_true_eq] at ho
  obtain ⟨o1, o2, o3, o4, o5⟩ := ho
  refine ⟨h1, ⟨o2, fun b i => ?_, fun k hk => ?_, Nat.zero_le _⟩, ⟨Nat.zero_le _, fun k hk => absurd hk (Nat.not_lt_zero k)⟩, h4, h5, ⟨Nat.zero_le _, h6.2⟩, h7⟩
  · show onS (aB A) (aN A).2.1 f (nb (aB A) * ni (aB A)) b i ≤ 99 ∧ (nb (aB A) ≤ b ∨ ni (aB A) ≤ i → onS (aB A) (aN A).2.1 f (nb (aB A) * ni (aB A)) b i = 0)
    unfold onS
    by_cases hq : b < nb (aB A) ∧ i < ni (aB A) ∧ b * ni (aB A) + i < nb (aB A) * ni (aB A)
    · rw [if_pos hq]
      refine ⟨?_, fun z => by omega⟩
      have := of_decide_eq_true (allK_at o3 _ hq.2.2)
      rw [Nat.add_assoc]; exact this
    · rw [if_neg hq]
      exact h2.2.1 b i
  · have hk : k < np (aB A) := hk
    have := allK_at o4 k hk
    simp only [okP, Bool.and_eq_true, decide_eq_true_eq] at this
    show onP (aB A) (aN A).2.2.1 f (2 * np (aB A)) (2 * k) < nb (aB A) ∧ onP (aB A) (aN A).2.2.1 f (2 * np (aB A)) (2 * k + 1) < ni (aB A)
    unfold onP
    rw [if_pos (by omega), if_pos (by omega)]
    exact this
section S76
variable {l : Launch} {X : Cx} {ρ : Rf} {B : Bh} {q : Nat}
/-- the class, its rows being put -/
def OnI (τ σ : St) (B : Bh) (S : Str) (P : Nat → Nat) (f : Nat → Nat) (c k : Nat) : Prop := CF (fun k _ => (Nat.ble 34 k && Nat.ble k 41)) τ σ ∧ CStr σ (onS B S f c) ∧ ∀ j, j < np B → σ.1 40 j = nI (onP B P f (2 * k) (2 * j)) ∧ σ.1 41 j = nI (onP B P f (2 * k) (2 * j + 1))
theorem cO_f {k : Nat} (h : k < 34 ∨ 41 < k) : (Nat.ble 34 k && Nat.ble k 41) = false := by
  rcases h with q | q
  · cases hq : Nat.ble 34 k
    · rfl
    · rw [Nat.ble_eq] at hq; omega
  · cases hq : Nat.ble k 41
    · cases Nat.ble 34 k <;> rfl
    · rw [Nat.ble_eq] at hq; omega
theorem cO_t {k : Nat} (h1 : 34 ≤ k) (h2 : k ≤ 41) : (Nat.ble 34 k && Nat.ble k 41) = true := by rw [Nat.ble_eq.mpr h1, Nat.ble_eq.mpr h2]; rfl
theorem oi_loop {d n b : Nat} {τ : St} {S : Str} {P f : Nat → Nat} {Q : Po} (hb0 : ρ 0 2 = some q) (hR : CRd ρ τ q B) (hW : WfN B) (hn : n = imM B + 1) (hf : ∀ j, j < n → τ.1 1 j = sb (f j)) (h256 : ∀ j, f j < 256) (hb : b < nb B)
    (hQ : ∀ σ, OnI τ σ B S P f ((b + 1) * ni B) 0 → Ev l X (d + 2) 144 99 [.ref 0, .int (nI n), .int (nI (2 + (b + 1) * ni B)), .int (nI b), .int (nI (ni B))] [] 402 402 402 ρ σ Q) :
    ∀ (m i : Nat) (σ : St), i + m = ni B → OnI τ σ B S P f (b * ni B + i) 0 → Ev l X (d + 2) 144 61 [.ref 0, .int (nI n), .int (nI (2 + b * ni B + i)), .int (nI b), .int (nI i)] [] 402 402 402 ρ σ Q := by
  have hρ := hR.1
  have n8 := hW.1
  have n6 := hW.2.1
  have h82 := imM_le hW
  have hM := imM_pl B
  have hp : pl0 B = 2 + nb B * ni B := rfl
  have hq0 := hR.2.1
  intro m
  induction m with
  | zero =>
    intro i σ hi ho
    have hi : i = ni B := by omega
    subst hi
    refine Ev_iload rfl rfl ?_
    refine Ev_aload rfl rfl rfl ?_
    refine Ev_getR rfl (by first | rfl | assumption) hb0 ?_
    refine Ev_getI rfl (by rcases hR.2.1 with rfl | rfl <;> rfl) ?_
    refine Ev_norm (by rw [ho.1.1 q _ (cO_f (by omega))]; exact hR.2.2.2.1.1 : _ = nI (ni B)) ?_
    refine Ev_icmp_ge rfl (fun h70 => ?_) (fun h70 => absurd (nI_le (Nat.le_refl _) (by omega)) h70)
    have e : b * ni B + ni B = (b + 1) * ni B := (Nat.succ_mul _ _).symm
    have := hQ σ (by rw [← e]; exact ho)
    rw [← e, ← Nat.add_assoc] at this
    exact this
  | succ m ih =>
    intro i σ hi ho
    have hi2 : i < ni B := by omega
    have h1 : (b + 1) * ni B ≤ nb B * ni B := Nat.mul_le_mul_right _ hb
    rw [Nat.succ_mul] at h1
    have hbt := h256 (2 + b * ni B + i)
    refine Ev_iload rfl rfl ?_
    refine Ev_aload rfl rfl rfl ?_
    refine Ev_getR rfl (by first | rfl | assumption) hb0 ?_
    refine Ev_getI rfl (by rcases hR.2.1 with rfl | rfl <;> rfl) ?_
    refine Ev_norm (by rw [ho.1.1 q _ (cO_f (by omega))]; exact hR.2.2.2.1.1 : _ = nI (ni B)) ?_
    refine Ev_icmp_ge rfl (fun h70 => absurd h70 (nI_ge (by omega) (by omega))) (fun h70 => ?_)
    refine Ev_aload rfl rfl rfl ?_
    refine Ev_getR rfl (by first | rfl | assumption) (hρ _ _ _ rfl) ?_
    refine Ev_getR rfl (by first | rfl | assumption) (hρ _ _ _ rfl) ?_
    refine Ev_iload rfl rfl ?_
    refine Ev_aald (t := 4) rfl (Or.inl rfl) (by first | rfl | assumption) (vp_in_nI (n := b) (show b < 6 by omega) (by decide)) (by rw [nI_clamp (by omega)]; exact rf33 hρ (by omega) : _ = some (34 + b)) ?_
    refine Ev_iload rfl rfl ?_
    refine Ev_aload rfl rfl rfl ?_
    refine Ev_iload rfl rfl ?_
    refine Ev_callV rfl rfl rfl rfl rfl (same_n 402) (t_tb _ hρ (k := 2 + b * ni B + i) (by omega) (by rw [ho.1.1 1 _ rfl]; exact hf _ (by omega)) hbt) ?_
    rintro v86 ρ86 σ86 ⟨rfl, e86, g86⟩
    obtain rfl := e86.symm
    obtain rfl := g86.symm
    refine Ev_iast rfl ((rowN (show b < 6 by omega)).1) (by rw [(rowN (show b < 6 by omega)).2.1]; exact vp_in_nI (n := i) (show i < 8 by omega) (by decide)) ?_
    rw [nI_clamp (show i < 2 ^ 31 by omega)]
    refine Ev_iincE rfl rfl (nI_1 _) ?_
    refine Ev_iincE rfl rfl (nI_1 i) ?_
    refine Ev_goto rfl ?_
    refine ih (i + 1) _ (by omega) ⟨ho.1.tr (CF.put _ _ (cO_t (by omega) (by omega))), fun b' hb' i' hi' => ?_, fun j hj => by rw [sR_1 _ _ (by omega), sR_1 _ _ (by omega)]; exact ho.2.2 j hj⟩
    rw [show b * ni B + (i + 1) = b * ni B + i + 1 from rfl, onS_st hb hi2]
    by_cases hbb : b' = b
    · rw [hbb, sR_0]
      by_cases hii : i' = i
      · rw [hii, pk_us, if_pos ⟨rfl, rfl⟩]
      · rw [pk_un hii, if_neg (fun z => hii z.2)]; exact ho.2.1 b (by omega) i' hi'
    · rw [sR_1 _ _ (by omega), if_neg (fun z => hbb z.1)]; exact ho.2.1 b' hb' i' hi'
theorem ob_loop {d n : Nat} {τ : St} {S : Str} {P f : Nat → Nat} {Q : Po} (hb0 : ρ 0 2 = some q) (hR : CRd ρ τ q B) (hW : WfN B) (hn : n = imM B + 1) (hf : ∀ j, j < n → τ.1 1 j = sb (f j)) (h256 : ∀ j, f j < 256)
    (hQ : ∀ σ w, OnI τ σ B S P f (nb B * ni B) 0 → Ev l X (d + 2) 144 105 [.ref 0, .int (nI n), .int (nI (pl0 B)), .int (nI (nb B)), w] [] 402 402 402 ρ σ Q) :
    ∀ (m b : Nat) (σ : St) (w : Value), b + m = nb B → OnI τ σ B S P f (b * ni B) 0 → Ev l X (d + 2) 144 47 [.ref 0, .int (nI n), .int (nI (2 + b * ni B)), .int (nI b), w] [] 402 402 402 ρ σ Q := by
  have n8 := hW.1
  have n6 := hW.2.1
  have hq0 := hR.2.1
  intro m
  induction m with
  | zero =>
    intro b σ w hb ho
    have hb : b = nb B := by omega
    subst hb
    refine Ev_iload rfl rfl ?_
    refine Ev_aload rfl rfl rfl ?_
    refine Ev_getR rfl (by first | rfl | assumption) hb0 ?_
    refine Ev_getI rfl (by rcases hR.2.1 with rfl | rfl <;> rfl) ?_
    refine Ev_norm (by rw [ho.1.1 q _ (cO_f (by omega))]; exact hR.2.2.2.1.2.2.1 : _ = nI (nb B)) ?_
    refine Ev_icmp_ge rfl (fun h55 => ?_) (fun h55 => absurd (nI_le (Nat.le_refl _) (by omega)) h55)
    exact hQ σ w ho
  | succ m ih =>
    intro b σ w hb ho
    refine Ev_iload rfl rfl ?_
    refine Ev_aload rfl rfl rfl ?_
    refine Ev_getR rfl (by first | rfl | assumption) hb0 ?_
    refine Ev_getI rfl (by rcases hR.2.1 with rfl | rfl <;> rfl) ?_
    refine Ev_norm (by rw [ho.1.1 q _ (cO_f (by omega))]; exact hR.2.2.2.1.2.2.1 : _ = nI (nb B)) ?_
    refine Ev_icmp_ge rfl (fun h55 => absurd h55 (nI_ge (by omega) (by omega))) (fun h55 => ?_)
    refine Ev_const rfl ?_
    refine Ev_istore rfl ?_
    refine oi_loop hb0 hR hW hn hf h256 (by omega) (fun σ2 ho2 => ?_) (ni B) 0 σ (by omega) ho
    refine Ev_iincE rfl rfl (nI_1 b) ?_
    refine Ev_goto rfl ?_
    exact ih (b + 1) σ2 _ (by omega) ho2
theorem ok_loop {d n : Nat} {τ : St} {S : Str} {P f : Nat → Nat} {Q : Po} (hρ : RF ρ) (hW : WfN B) (hrows : τ.1 32 2 = nI (np B)) (hn : n = imM B + 1) (hf : ∀ j, j < n → τ.1 1 j = sb (f j)) (h256 : ∀ j, f j < 256)
    (hQ : ∀ σ a w, OnI τ σ B S P f (nb B * ni B) (np B) → Ev l X (d + 2) 144 157 [.ref 0, .int (nI n), .int a, .int (nI (np B)), w] [] 402 402 402 ρ σ Q) :
    ∀ (m k : Nat) (σ : St) (w : Value), k + m = np B → OnI τ σ B S P f (nb B * ni B) k → Ev l X (d + 2) 144 107 [.ref 0, .int (nI n), .int (nI (pl0 B + 2 * k)), .int (nI k), w] [] 402 402 402 ρ σ Q := by
  have h82 := imM_le hW
  have hM := imM_pl B
  have n16 := hW.2.2.2.1
  intro m
  induction m with
  | zero =>
    intro k σ w hk ho
    have hk : k = np B := by omega
    subst hk
    refine Ev_iload rfl rfl ?_
    refine Ev_aload rfl rfl rfl ?_
    refine Ev_getR rfl (by first | rfl | assumption) (hρ _ _ _ rfl) ?_
    refine Ev_getI rfl (by first | rfl | assumption) ?_
    refine Ev_norm (by rw [ho.1.1 32 _ rfl]; exact hrows : _ = nI (np B)) ?_
    refine Ev_icmp_ge rfl (fun h115 => ?_) (fun h115 => absurd (nI_le (Nat.le_refl _) (by omega)) h115)
    exact hQ σ _ w ho
  | succ m ih =>
    intro k σ w hk ho
    have b0 := h256 (pl0 B + 2 * k)
    have b1 := h256 (pl0 B + 2 * k + 1)
    refine Ev_iload rfl rfl ?_
    refine Ev_aload rfl rfl rfl ?_
    refine Ev_getR rfl (by first | rfl | assumption) (hρ _ _ _ rfl) ?_
    refine Ev_getI rfl (by first | rfl | assumption) ?_
    refine Ev_norm (by rw [ho.1.1 32 _ rfl]; exact hrows : _ = nI (np B)) ?_
    refine Ev_icmp_ge rfl (fun h115 => absurd h115 (nI_ge (by omega) (by omega))) (fun h115 => ?_)
    refine Ev_aload rfl rfl rfl ?_
    refine Ev_getR rfl (by first | rfl | assumption) (hρ _ _ _ rfl) ?_
    refine Ev_getR rfl (by first | rfl | assumption) (hρ _ _ _ rfl) ?_
    refine Ev_iload rfl rfl ?_
    refine Ev_aload rfl rfl rfl ?_
    refine Ev_iload rfl rfl ?_
    refine Ev_callV rfl rfl rfl rfl rfl (same_n 402) (t_tb _ hρ (k := pl0 B + 2 * k) (by omega) (by rw [ho.1.1 1 _ rfl]; exact hf _ (by omega)) b0) ?_
    rintro v128 ρ128 σ128 ⟨rfl, e128, g128⟩
    obtain rfl := e128.symm
    obtain rfl := g128.symm
    refine Ev_iast rfl (by first | rfl | assumption) (vp_in_nI (n := k) (show k < 16 by omega) (by decide)) ?_
    rw [nI_clamp (show k < 2 ^ 31 by omega)]
    refine Ev_aload rfl rfl rfl ?_
    refine Ev_getR rfl (by first | rfl | assumption) (hρ _ _ _ rfl) ?_
    refine Ev_getR rfl (by first | rfl | assumption) (hρ _ _ _ rfl) ?_
    refine Ev_iload rfl rfl ?_
    refine Ev_aload rfl rfl rfl ?_
    refine Ev_iload rfl rfl ?_
    refine Ev_const rfl ?_
    refine Ev_iadd rfl ?_
    refine Ev_norm (nI_1 _) ?_
    refine Ev_callV rfl rfl rfl rfl rfl (same_n 402) (t_tb _ hρ (k := pl0 B + 2 * k + 1) (by omega) (by rw [sR_1 _ _ (by decide), ho.1.1 1 _ rfl]; exact hf _ (by omega)) b1) ?_
    rintro v144 ρ144 σ144 ⟨rfl, e144, g144⟩
    obtain rfl := e144.symm
    obtain rfl := g144.symm
    refine Ev_iast rfl (by first | rfl | assumption) (vp_in_nI (n := k) (show k < 16 by omega) (by decide)) ?_
    rw [nI_clamp (show k < 2 ^ 31 by omega), sR_1 _ _ (show (41 : Nat) ≠ 40 by decide)]
    refine Ev_iincE rfl rfl (nI_add _ 2 : _ = nI (pl0 B + 2 * k + 2)) ?_
    refine Ev_iincE rfl rfl (nI_1 k) ?_
    refine Ev_goto rfl ?_
    have c2 := ((ho.1.tr (CF.put _ (k := 40) (j := k) (nI (f (pl0 B + 2 * k))) rfl)).tr (CF.put _ (k := 41) (j := k) (nI (f (pl0 B + 2 * k + 1))) rfl))
    rw [sR_1 _ _ (show (41 : Nat) ≠ 40 by decide)] at c2
    refine ih (k + 1) _ _ (by omega) ⟨c2, fun b hb i hi => by rw [sR_1 _ _ (by omega), sR_1 _ _ (by omega)]; exact ho.2.1 b hb i hi, fun j hj => ?_⟩
    rw [sR_1 _ _ (show (40 : Nat) ≠ 41 by decide), sR_0, sR_0]
    have := ho.2.2 j hj
    unfold onP at this ⊢
    by_cases hjk : j = k
    · rw [hjk, pk_us, pk_us, if_pos (by omega), if_pos (by omega)]; exact ⟨rfl, rfl⟩
    · rw [pk_un hjk, pk_un hjk]
      by_cases hlt : j < k
      · rw [if_pos (by omega), if_pos (by omega)] at this ⊢; exact this
      · rw [if_neg (by omega), if_neg (by omega)] at this ⊢; exact this
theorem t_clear (d : Nat) {σ : St} : T l X d 75 [.ref 43] 402 402 ρ σ (fun v ρ' σ' => v = none ∧ ρ' = ρ ∧ σ' = sI σ 43 (upd (upd (σ.1 43) 1 0) 2 0)) := by
  refine T_of rfl ?_
  refine Ev_aload rfl rfl rfl ?_
  refine Ev_const rfl ?_
  refine Ev_putI rfl (by first | rfl | assumption) ⟨rfl, rfl⟩ rfl ?_
  refine Ev_aload rfl rfl rfl ?_
  refine Ev_const rfl ?_
  refine Ev_putI rfl (by first | rfl | assumption) ⟨rfl, rfl⟩ rfl ?_
  exact Ev_return rfl rfl rfl ⟨rfl, rfl, by rw [sI_sI, sR_0]⟩
end S76
