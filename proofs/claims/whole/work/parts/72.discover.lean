/-! What is found, told by the tape. -/
def allK : Nat → (Nat → Bool) → Bool
  | 0, _ => true
  | m + 1, p => allK m p && p m
theorem allK_at {p : Nat → Bool} : ∀ {m : Nat}, allK m p = true → ∀ k, k < m → p k = true := by
  intro m
  induction m with
  | zero => intro _ k hk; exact absurd hk (Nat.not_lt_zero k)
  | succ m ih =>
    intro h k hk
    have h : (allK m p && p m) = true := h
    obtain ⟨h1, h2⟩ := Bool.and_eq_true_iff.mp h
    by_cases hq : k = m
    · rw [hq]; exact h2
    · exact ih h1 k (by omega)
theorem allK_of {p : Nat → Bool} : ∀ {m : Nat}, (∀ k, k < m → p k = true) → allK m p = true := by
  intro m
  induction m with
  | zero => intro _; rfl
  | succ m ih => intro h; exact Bool.and_eq_true_iff.mpr ⟨ih (fun k hk => h k (by omega)), h m (by omega)⟩
theorem allK_no {p : Nat → Bool} {m k : Nat} (hk : k < m) (h : p k = false) : allK m p = false := by
  cases hq : allK m p
  · rfl
  · rw [allK_at hq k hk] at h; cases h
def okR (B : Bh) (f : Nat → Nat) (k : Nat) : Bool := decide (f (4 * k) ≤ 30) && ((decide (f (4 * k + 1) < nb B) && decide (f (4 * k + 2) < ni B)) && decide (f (4 * k + 3) ≤ 99))
def dsB (B : Bh) (n : Nat) (f : Nat → Nat) : Bool := decide (1 ≤ n / 4 ∧ n / 4 ≤ 16 ∧ n % 4 = 0) && allK (n / 4) (okR B f)
theorem hasF_by {n v : Nat} (hn : n < 2 ^ 31) (hv : v < 256) : hasF n (nI v) = decide (v < n) := by
  unfold hasF
  rw [nI_toInt (by omega)]
  exact decide_eq_decide.mpr (by omega)
section S72
variable {l : Launch} {X : Cx} {ρ : Rf} {B : Bh} {q : Nat}
theorem t_tb (d : Nat) {σ : St} {f : Nat → Nat} {k : Nat} (hρ : RF ρ) (hk : k < 1600) (hf : σ.1 1 k = sb (f k)) (h256 : f k < 256) : T l X d 149 [.ref 0, .int (nI k)] 402 402 ρ σ (Rs (.int (nI (f k))) ρ σ) := by
  have := t_tapeByte (l := l) (X := X) (σ := σ) d hρ hk
  rw [hf, sb_and _ h256] at this
  exact this
theorem t_canBeFound (d : Nat) {σ : St} {f : Nat → Nat} {k : Nat} (hb : ρ 0 2 = some q) (hR : CRd ρ σ q B) (hW : WfN B) (hk : 4 * k + 3 < 1600) (hf : ∀ j, j < 4 * k + 4 → σ.1 1 j = sb (f j)) (h256 : ∀ j, f j < 256) :
    T l X (d + 2) 128 [.ref 0, .int (nI (4 * k))] 402 402 ρ σ (Rs (.int (bI (okR B f k))) ρ σ) := by
  have hρ := hR.1
  have n8 := hW.1
  have n6 := hW.2.1
  have b0 := h256 (4 * k)
  have b1 := h256 (4 * k + 1)
  have b2 := h256 (4 * k + 2)
  have b3 := h256 (4 * k + 3)
  refine T_of rfl ?_
  refine Ev_aload rfl rfl rfl ?_
  refine Ev_iload rfl rfl ?_
  refine Ev_callV rfl rfl rfl rfl rfl (same_n 402) (t_tb _ hρ (by omega) (hf _ (by omega)) b0) ?_
  rintro v2 ρ2 σ2 ⟨rfl, e2, g2⟩
  obtain rfl := e2.symm
  obtain rfl := g2.symm
  refine Ev_const rfl ?_
  refine Ev_icmp_gt rfl (fun h7 => ?_) (fun h7 => ?_)
  · refine Ev_const rfl ?_
    exact Ev_ireturn rfl rfl rfl rfl ⟨by
    unfold okR
    rw [decide_eq_false (fun z => (nI_nlt (a := 30) z (by decide)) h7)]; rfl, rfl, rfl⟩
  · refine Ev_aload rfl rfl rfl ?_
    refine Ev_aload rfl rfl rfl ?_
    refine Ev_iload rfl rfl ?_
    refine Ev_const rfl ?_
    refine Ev_iadd rfl ?_
    refine Ev_norm (nI_1 (4 * k)) ?_
    refine Ev_callV rfl rfl rfl rfl rfl (same_n 402) (t_tb _ hρ (by omega) (hf _ (by omega)) b1) ?_
    rintro v15 ρ15 σ15 ⟨rfl, e15, g15⟩
    obtain rfl := e15.symm
    obtain rfl := g15.symm
    refine Ev_aload rfl rfl rfl ?_
    refine Ev_iload rfl rfl ?_
    refine Ev_const rfl ?_
    refine Ev_iadd rfl ?_
    refine Ev_norm (nI_add (4 * k) 2) ?_
    refine Ev_callV rfl rfl rfl rfl rfl (same_n 402) (t_tb _ hρ (by omega) (hf _ (by omega)) b2) ?_
    rintro v22 ρ22 σ22 ⟨rfl, e22, g22⟩
    obtain rfl := e22.symm
    obtain rfl := g22.symm
    refine Ev_callV rfl rfl rfl rfl rfl (same_n 402) (t_hasBoth _ _ _ hb hR hW) ?_
    rintro v25 ρ25 σ25 ⟨rfl, e25, g25⟩
    obtain rfl := e25.symm
    obtain rfl := g25.symm
    refine Ev_norm (show _ = bI (decide (f (4 * k + 1) < nb B) && decide (f (4 * k + 2) < ni B)) by rw [hasF_by (by omega) b1, hasF_by (by omega) b2]) ?_
    refine Ev_if_eq rfl (fun h28 => ?_) (fun h28 => ?_)
    · refine Ev_const rfl ?_
      exact Ev_ireturn rfl rfl rfl rfl ⟨by
      unfold okR
      rw [ff_of h28, Bool.false_and, Bool.and_false]; rfl, rfl, rfl⟩
    · refine Ev_aload rfl rfl rfl ?_
      refine Ev_iload rfl rfl ?_
      refine Ev_const rfl ?_
      refine Ev_iadd rfl ?_
      refine Ev_norm (nI_add (4 * k) 3) ?_
      refine Ev_callV rfl rfl rfl rfl rfl (same_n 402) (t_tb _ hρ (by omega) (hf _ (by omega)) b3) ?_
      rintro v35 ρ35 σ35 ⟨rfl, e35, g35⟩
      obtain rfl := e35.symm
      obtain rfl := g35.symm
      refine Ev_const rfl ?_
      refine Ev_icmp_gt rfl (fun h40 => ?_) (fun h40 => ?_)
      · refine Ev_const rfl ?_
        exact Ev_ireturn rfl rfl rfl rfl ⟨by
        unfold okR
        rw [decide_eq_false (p := f (4 * k + 3) ≤ 99) (fun z => (nI_nlt (a := 99) z (by decide)) h40), Bool.and_false, Bool.and_false]; rfl, rfl, rfl⟩
      · refine Ev_const rfl ?_
        refine Ev_goto rfl ?_
        exact Ev_ireturn rfl rfl rfl rfl ⟨by
        unfold okR
        rw [rt_of h28, decide_eq_true (p := f (4 * k) ≤ 30) (Decidable.byContradiction fun z => h7 (nI_lt (a := 30) (by omega) (by omega))), decide_eq_true (p := f (4 * k + 3) ≤ 99) (Decidable.byContradiction fun z => h40 (nI_lt (a := 99) (by omega) (by omega)))]; rfl, rfl, rfl⟩
theorem dc_loop {d n : Nat} {σ : St} {f : Nat → Nat} {Q : Po} (hb : ρ 0 2 = some q) (hR : CRd ρ σ q B) (hW : WfN B) (hn : n ≤ 1600) (hf : ∀ j, j < n → σ.1 1 j = sb (f j)) (h256 : ∀ j, f j < 256)
    (hQ : (allK (n / 4) (okR B f) = true → Ev l X (d + 3) 127 61 [.ref 0, .int (nI n), .int (nI (n / 4)), .int (nI (n / 4))] [] 402 402 402 ρ σ Q)) (hQ2 : (allK (n / 4) (okR B f) = false → Q (some (.int (-1))) ρ (bump σ 325 1))) :
    ∀ (m k : Nat), k + m = n / 4 → (∀ j, j < k → okR B f j = true) → Ev l X (d + 3) 127 34 [.ref 0, .int (nI n), .int (nI (n / 4)), .int (nI k)] [] 402 402 402 ρ σ Q := by
  have hρ := hR.1
  intro m
  induction m with
  | zero =>
    intro k hk ha
    have hk : k = n / 4 := by omega
    subst hk
    refine Ev_iload rfl rfl ?_
    refine Ev_iload rfl rfl ?_
    refine Ev_icmp_ge rfl (fun h36 => ?_) (fun h36 => absurd (nI_le (Nat.le_refl _) (by omega)) h36)
    exact hQ (allK_of ha)
  | succ m ih =>
    intro k hk ha
    refine Ev_iload rfl rfl ?_
    refine Ev_iload rfl rfl ?_
    refine Ev_icmp_ge rfl (fun h36 => absurd h36 (nI_ge (by omega) (by omega))) (fun h36 => ?_)
    refine Ev_aload rfl rfl rfl ?_
    refine Ev_const rfl ?_
    refine Ev_iload rfl rfl ?_
    refine Ev_imul rfl ?_
    refine Ev_norm (pk_mul 4 k : _ = nI (4 * k)) ?_
    refine Ev_callV rfl rfl rfl rfl rfl (same_n 402) (t_canBeFound _ hb hR hW (by omega) (fun j hj => hf j (by omega)) h256) ?_
    rintro v43 ρ43 σ43 ⟨rfl, e43, g43⟩
    obtain rfl := e43.symm
    obtain rfl := g43.symm
    refine Ev_if_ne rfl (fun h46 => ?_) (fun h46 => ?_)
    · refine Ev_iincE rfl rfl (nI_1 k) ?_
      refine Ev_goto rfl ?_
      exact ih (k + 1) (by omega) (fun j hj => by
      by_cases hq : j = k
      · rw [hq]; exact rt_of h46
      · exact ha j (by omega))
    · refine Ev_aload rfl rfl rfl ?_
      refine Ev_const rfl ?_
      refine Ev_callV rfl rfl rfl rfl rfl (same_n 402) (t_refuse _ hρ (w := 1) (by decide)) ?_
      rintro v51 ρ51 σ51 ⟨rfl, e51, g51⟩
      obtain rfl := e51.symm
      obtain rfl := g51.symm
      exact Ev_ireturn rfl rfl rfl rfl (hQ2 (allK_no (k := k) (by omega) (ff_of (Decidable.not_not.mp h46))))
theorem dp_loop {d n r : Nat} {σ : St} {f : Nat → Nat} {Q : Po} (hρ : RF ρ) (hn : n ≤ 64) (hf : ∀ j, j < n → σ.1 1 j = sb (f j)) (h256 : ∀ j, f j < 256)
    (hQ : ∀ g, (∀ j, j < n → g j = nI (f j)) → Ev l X (d + 3) 127 88 [.ref 0, .int (nI n), .int (nI r), .int (nI n)] [] 402 402 402 ρ (sI σ 315 g) Q) :
    ∀ (m k : Nat) (g : Nat → Int32), k + m = n → (∀ j, j < k → g j = nI (f j)) → Ev l X (d + 3) 127 63 [.ref 0, .int (nI n), .int (nI r), .int (nI k)] [] 402 402 402 ρ (sI σ 315 g) Q := by
  intro m
  induction m with
  | zero =>
    intro k g hk hg
    have hk : k = n := by omega
    subst hk
    refine Ev_iload rfl rfl ?_
    refine Ev_iload rfl rfl ?_
    refine Ev_icmp_ge rfl (fun h65 => ?_) (fun h65 => absurd (nI_le (Nat.le_refl _) (by omega)) h65)
    exact hQ g hg
  | succ m ih =>
    intro k g hk hg
    refine Ev_iload rfl rfl ?_
    refine Ev_iload rfl rfl ?_
    refine Ev_icmp_ge rfl (fun h65 => absurd h65 (nI_ge (by omega) (by omega))) (fun h65 => ?_)
    refine Ev_aload rfl rfl rfl ?_
    refine Ev_getR rfl (by first | rfl | assumption) (hρ _ _ _ rfl) ?_
    refine Ev_getR rfl (by first | rfl | assumption) (hρ _ _ _ rfl) ?_
    refine Ev_iload rfl rfl ?_
    refine Ev_aload rfl rfl rfl ?_
    refine Ev_iload rfl rfl ?_
    refine Ev_callV rfl rfl rfl rfl rfl (same_n 402) (t_tb _ hρ (k := k) (by omega) (by rw [sR_1 _ _ (by decide)]; exact hf k (by omega)) (h256 k)) ?_
    rintro v78 ρ78 σ78 ⟨rfl, e78, g78⟩
    obtain rfl := e78.symm
    obtain rfl := g78.symm
    refine Ev_iast rfl (by first | rfl | assumption) (vp_in_nI (n := k) (show k < 64 by omega) (by decide)) ?_
    refine Ev_iincE rfl rfl (nI_1 k) ?_
    refine Ev_goto rfl ?_
    rw [nI_clamp (by omega), sI_sI, sR_0]
    refine ih (k + 1) _ (by omega) (fun j hj => ?_)
    by_cases hq : j = k
    · rw [hq, pk_us]
    · rw [pk_un hq]; exact hg j (by omega)
/-! the reference -/
theorem md_loop {d n : Nat} {σ : St} {f : Nat → Nat} {Q : Po} (hρ : RF ρ) (hN : MNum σ B) (hW : WfN B) (hn : n ≤ 64) (hn4 : n % 4 = 0) (hf : ∀ j, j < n → σ.1 327 j = nI (f j)) (h256 : ∀ j, f j < 256)
    (hQ : ∀ w, Ev l X (d + 3) 246 112 [.ref 326, .int (nI n), .int (bI (allK (n / 4) (okR B f))), w] [] 402 402 402 ρ σ Q) :
    ∀ (m k : Nat), k + m = n / 4 → (∀ j, j < k → okR B f j = true) → Ev l X (d + 3) 246 36 [.ref 326, .int (nI n), .int (bI true), .int (nI (4 * k))] [] 402 402 402 ρ σ Q := by
  have n8 := hW.1
  have n6 := hW.2.1
  intro m
  induction m with
  | zero =>
    intro k hk ha
    have hk : k = n / 4 := by omega
    subst hk
    have e : allK (n / 4) (okR B f) = true := allK_of ha
    rw [e] at hQ
    refine Ev_iload rfl rfl ?_
    refine Ev_iload rfl rfl ?_
    refine Ev_icmp_ge rfl (fun h38 => ?_) (fun h38 => absurd (nI_le (by omega) (by omega)) h38)
    exact hQ _
  | succ m ih =>
    intro k hk ha
    have b0 := h256 (4 * k)
    have b1 := h256 (4 * k + 1)
    have b2 := h256 (4 * k + 2)
    have b3 := h256 (4 * k + 3)
    have done : okR B f k = false → Ev l X (d + 3) 246 105 [.ref 326, .int (nI n), .int (bI true), .int (nI (4 * k))] [.int 0] 402 402 402 ρ σ Q := by
      intro hf0
      have e : allK (n / 4) (okR B f) = false := allK_no (k := k) (by omega) hf0
      rw [e] at hQ
      refine Ev_istore rfl ?_
      refine Ev_iincE rfl rfl (nI_add (4 * k) 4 : _ = nI (4 * k + 4)) ?_
      refine Ev_goto rfl ?_
      refine Ev_iload rfl rfl ?_
      refine Ev_iload rfl rfl ?_
      refine Ev_icmp_ge rfl (fun h38 => ?_) (fun h38 => ?_)
      · exact hQ _
      · refine Ev_iload rfl rfl ?_
        refine Ev_if_eq rfl (fun h42 => ?_) (fun h42 => absurd rfl h42)
        exact hQ _
    refine Ev_iload rfl rfl ?_
    refine Ev_iload rfl rfl ?_
    refine Ev_icmp_ge rfl (fun h38 => absurd h38 (nI_ge (by omega) (by omega))) (fun h38 => ?_)
    refine Ev_iload rfl rfl ?_
    refine Ev_if_eq rfl (fun h42 => absurd h42 (by decide)) (fun h42 => ?_)
    refine Ev_aload rfl rfl rfl ?_
    refine Ev_getR rfl (by first | rfl | assumption) (hρ _ _ _ rfl) ?_
    refine Ev_iload rfl rfl ?_
    refine Ev_iald rfl (by first | rfl | assumption) (vp_in_nI (n := 4 * k) (show 4 * k < 1600 by omega) (by decide)) ?_
    refine Ev_norm (by rw [nI_clamp (by omega)]; exact hf _ (by omega) : _ = nI (f (4 * k))) ?_
    refine Ev_const rfl ?_
    refine Ev_icmp_gt rfl (fun h53 => ?_) (fun h53 => ?_)
    · refine Ev_const rfl ?_
      exact done (by unfold okR; rw [decide_eq_false (fun z => (nI_nlt (a := 30) z (by decide)) h53)]; rfl)
    · refine Ev_aload rfl rfl rfl ?_
      refine Ev_aload rfl rfl rfl ?_
      refine Ev_getR rfl (by first | rfl | assumption) (hρ _ _ _ rfl) ?_
      refine Ev_iload rfl rfl ?_
      refine Ev_const rfl ?_
      refine Ev_iadd rfl ?_
      refine Ev_norm (nI_1 (4 * k)) ?_
      refine Ev_iald rfl (by first | rfl | assumption) (vp_in_nI (n := 4 * k + 1) (show 4 * k + 1 < 1600 by omega) (by decide)) ?_
      refine Ev_norm (by rw [nI_clamp (by omega)]; exact hf _ (by omega) : _ = nI (f (4 * k + 1))) ?_
      refine Ev_callV rfl rfl rfl rfl rfl (same_n 402) (m_isBather _ hρ hN hW _) ?_
      rintro v65 ρ65 σ65 ⟨rfl, e65, g65⟩
      obtain rfl := e65.symm
      obtain rfl := g65.symm
      refine Ev_norm (show _ = bI (decide (f (4 * k + 1) < nb B)) by rw [← hasF_eq, hasF_by (by omega) b1]) ?_
      refine Ev_if_eq rfl (fun h68 => ?_) (fun h68 => ?_)
      · refine Ev_const rfl ?_
        exact done (by unfold okR; rw [ff_of h68, Bool.false_and, Bool.false_and, Bool.and_false])
      · refine Ev_aload rfl rfl rfl ?_
        refine Ev_aload rfl rfl rfl ?_
        refine Ev_getR rfl (by first | rfl | assumption) (hρ _ _ _ rfl) ?_
        refine Ev_iload rfl rfl ?_
        refine Ev_const rfl ?_
        refine Ev_iadd rfl ?_
        refine Ev_norm (nI_add (4 * k) 2) ?_
        refine Ev_iald rfl (by first | rfl | assumption) (vp_in_nI (n := 4 * k + 2) (show 4 * k + 2 < 1600 by omega) (by decide)) ?_
        refine Ev_norm (by rw [nI_clamp (by omega)]; exact hf _ (by omega) : _ = nI (f (4 * k + 2))) ?_
        refine Ev_i2l rfl ?_
        refine Ev_callV rfl rfl rfl rfl rfl (same_n 402) (m_isIdea _ hρ hN hW _) ?_
        rintro v81 ρ81 σ81 ⟨rfl, e81, g81⟩
        obtain rfl := e81.symm
        obtain rfl := g81.symm
        refine Ev_norm (show _ = bI (decide (f (4 * k + 2) < ni B)) by rw [l_of, ← hasF_eq, hasF_by (by omega) b2]) ?_
        refine Ev_if_eq rfl (fun h84 => ?_) (fun h84 => ?_)
        · refine Ev_const rfl ?_
          exact done (by unfold okR; rw [ff_of h84, Bool.and_false, Bool.false_and, Bool.and_false])
        · refine Ev_aload rfl rfl rfl ?_
          refine Ev_getR rfl (by first | rfl | assumption) (hρ _ _ _ rfl) ?_
          refine Ev_iload rfl rfl ?_
          refine Ev_const rfl ?_
          refine Ev_iadd rfl ?_
          refine Ev_norm (nI_add (4 * k) 3) ?_
          refine Ev_iald rfl (by first | rfl | assumption) (vp_in_nI (n := 4 * k + 3) (show 4 * k + 3 < 1600 by omega) (by decide)) ?_
          refine Ev_norm (by rw [nI_clamp (by omega)]; exact hf _ (by omega) : _ = nI (f (4 * k + 3))) ?_
          refine Ev_const rfl ?_
          refine Ev_icmp_gt rfl (fun h97 => ?_) (fun h97 => ?_)
          · refine Ev_const rfl ?_
            exact done (by unfold okR; rw [decide_eq_false (p := f (4 * k + 3) ≤ 99) (fun z => (nI_nlt (a := 99) z (by decide)) h97), Bool.and_false, Bool.and_false])
          · refine Ev_const rfl ?_
            refine Ev_goto rfl ?_
            refine Ev_istore rfl ?_
            refine Ev_iincE rfl rfl (show nI (4 * k) + 4 = nI (4 * (k + 1)) from nI_add (4 * k) 4) ?_
            refine Ev_goto rfl ?_
            refine ih (k + 1) (by omega) (fun j hj => ?_)
            by_cases hq : j = k
            · rw [hq]
              unfold okR
              rw [rt_of h68, rt_of h84, decide_eq_true (p := f (4 * k) ≤ 30) (Decidable.byContradiction fun z => h53 (nI_lt (a := 30) (by omega) (by omega))), decide_eq_true (p := f (4 * k + 3) ≤ 99) (Decidable.byContradiction fun z => h97 (nI_lt (a := 99) (by omega) (by omega)))]; rfl
            · exact ha j (by omega)
theorem mdp_loop {d n : Nat} {σ : St} {f : Nat → Nat} {Q : Po} {w : Int32} (hρ : RF ρ) (hn : n ≤ 64) (hf : ∀ j, j < n → σ.1 327 j = nI (f j))
    (hQ : ∀ g, (∀ j, j < n → g j = nI (f j)) → Ev l X (d + 3) 246 147 [.ref 326, .int (nI n), .int w, .int (nI n)] [] 402 402 402 ρ (sI σ 372 g) Q) :
    ∀ (m k : Nat) (g : Nat → Int32), k + m = n → (∀ j, j < k → g j = nI (f j)) → Ev l X (d + 3) 246 124 [.ref 326, .int (nI n), .int w, .int (nI k)] [] 402 402 402 ρ (sI σ 372 g) Q := by
  intro m
  induction m with
  | zero =>
    intro k g hk hg
    have hk : k = n := by omega
    subst hk
    refine Ev_iload rfl rfl ?_
    refine Ev_iload rfl rfl ?_
    refine Ev_icmp_ge rfl (fun h126 => ?_) (fun h126 => absurd (nI_le (Nat.le_refl _) (by omega)) h126)
    exact hQ g hg
  | succ m ih =>
    intro k g hk hg
    refine Ev_iload rfl rfl ?_
    refine Ev_iload rfl rfl ?_
    refine Ev_icmp_ge rfl (fun h126 => absurd h126 (nI_ge (by omega) (by omega))) (fun h126 => ?_)
    refine Ev_aload rfl rfl rfl ?_
    refine Ev_getR rfl (by first | rfl | assumption) (hρ _ _ _ rfl) ?_
    refine Ev_iload rfl rfl ?_
    refine Ev_aload rfl rfl rfl ?_
    refine Ev_getR rfl (by first | rfl | assumption) (hρ _ _ _ rfl) ?_
    refine Ev_iload rfl rfl ?_
    refine Ev_iald rfl (by first | rfl | assumption) (vp_in_nI (n := k) (show k < 1600 by omega) (by decide)) ?_
    refine Ev_norm (by rw [nI_clamp (by omega), sR_1 _ _ (by decide)]; exact hf k (by omega) : _ = nI (f k)) ?_
    refine Ev_iast rfl (by first | rfl | assumption) (vp_in_nI (n := k) (show k < 64 by omega) (by decide)) ?_
    refine Ev_iincE rfl rfl (nI_1 k) ?_
    refine Ev_goto rfl ?_
    rw [nI_clamp (by omega), sI_sI, sR_0]
    refine ih (k + 1) _ (by omega) (fun j hj => ?_)
    by_cases hq : j = k
    · rw [hq, pk_us]
    · rw [pk_un hq]; exact hg j (by omega)
theorem WfA.disc {A : Ab} (h : WfA A) {n : Nat} {f : Nat → Nat} (hd : dsB (aB A) n f = true) : WfA (sF (sT A (0, (aT A).2)) (n / 4, f)) := by
  obtain ⟨h1, h2, h3, h4, h5, h6, h7⟩ := h
  obtain ⟨d1, d2⟩ := Bool.and_eq_true_iff.mp hd
  have d1 := of_decide_eq_true d1
  refine ⟨h1, h2, h3, ⟨d1.2.1, fun k hk => ?_⟩, h5, ⟨Nat.zero_le _, h6.2⟩, h7⟩
  have hk : k < n / 4 := hk
  have := allK_at d2 k hk
  unfold okR at this
  simp only [Bool.and_eq_true, decide_eq_true_eq] at this
  exact ⟨this.1, this.2.1.1, this.2.1.2, this.2.2⟩
theorem WfA.tape0 {A : Ab} (h : WfA A) : WfA (sT A (0, (aT A).2)) := h.tape (Nat.zero_le _)
/-- what is found, put -/
theorem RC.fnd {q : Nat} {ρ : Rf} {σ : St} {A : Ab} (H : RC q ρ σ A) {g : Nat → Int32} {r : Nat} {f : Nat → Nat} (hg : ∀ j, j < 4 * r → g j = nI (f j)) : RC q ρ (sI (sI σ 315 g) 267 (upd (σ.1 267) 12 (nI r))) (sF A (r, f)) := by
  have hs : CF (fun k j => Nat.beq k 315 || (Nat.beq k 267 && Nat.beq j 12)) σ (sI (sI σ 315 g) 267 (upd (σ.1 267) 12 (nI r))) := by
    have c1 := CF.cell (C := fun k j => Nat.beq k 315 || (Nat.beq k 267 && Nat.beq j 12)) σ (k := 315) g (fun _ => rfl)
    have c2 := c1.tr (CF.put (C := fun k j => Nat.beq k 315 || (Nat.beq k 267 && Nat.beq j 12)) _ (k := 267) (j := 12) (nI r) rfl)
    rw [sR_1 _ _ (by decide)] at c2
    exact c2
  have hne : ∀ k j : Nat, k ≠ 315 → k ≠ 267 → (fun k j => Nat.beq k 315 || (Nat.beq k 267 && Nat.beq j 12)) k j = false := fun k j q1 q2 => by
    show (Nat.beq k 315 || (Nat.beq k 267 && Nat.beq j 12)) = false
    rw [nbeq q1, nbeq q2]; rfl
  have H' := H
  obtain ⟨h1, h2, h3, h4, h5, h6, h7, h8, h9, h10, h11⟩ := H
  refine H'.chg hs (fun k j hk => hne k j (by omega) (by omega)) (sF A (r, f)) rfl (h4.cf hs (fun k j k1 k2 => hne k j (by omega) (by omega))) (h5.cf hs (fun k j k1 k2 => hne k j (by omega) (by omega))) ⟨?_, fun j hj => ?_⟩ ?_ (h8.cf hs rfl (fun _ => rfl)) (fun j hj => ?_) ?_ (h11.cf hs rfl (fun _ => rfl))
  · rw [sR_0, pk_us]; rfl
  · rw [sR_1 _ _ (by decide), sR_0]; exact hg j hj
  · rw [hs.1 0 _ rfl]; exact h7
  · rw [hs.1 325 j rfl]; exact h9 j hj
  · rw [hs.1 0 _ rfl, hs.1 0 _ rfl]; exact h10
theorem RM.fnd {ρ : Rf} {σ : St} {A : Ab} (H : RM ρ σ A) {g : Nat → Int32} {r : Nat} {f : Nat → Nat} (hg : ∀ j, j < 4 * r → g j = nI (f j)) : RM ρ (sI (sI σ 372 g) 326 (upd (σ.1 326) 69 (nI r))) (sF A (r, f)) := by
  have hs : MF (fun q => Nat.beq q 372) (fun j => Nat.beq j 69) σ (sI (sI σ 372 g) 326 (upd (σ.1 326) 69 (nI r))) := by
    have c1 : MF (fun q => Nat.beq q 372) (fun j => Nat.beq j 69) σ (sI σ 372 g) := MF.cell g (by decide) rfl
    have c2 := c1.tr (MF.put (C := fun q => Nat.beq q 372) (Fd := fun j => Nat.beq j 69) (f := 69) (nI r) rfl)
    rw [sR_1 _ _ (by decide)] at c2
    exact c2
  have H' := H
  obtain ⟨h0, h1, h5, h6, h7, h8, h9, h10, h11, h12, h13⟩ := H
  refine H'.chg hs rfl (sF A (r, f)) rfl ?_ ?_ (h7.mf hs rfl rfl) ⟨?_, fun j hj => ?_⟩ ?_ (h10.mf hs rfl rfl) (fun j hj => ?_) ?_ (h13.mf hs rfl rfl)
  · rw [hs.2.2 _ rfl, hs.2.2 _ rfl]; exact h5
  · rw [hs.1 365 (by decide) rfl]; exact h6
  · rw [sR_0, pk_us]; rfl
  · rw [sR_1 _ _ (by decide), sR_0]; exact hg j hj
  · rw [hs.2.1 326 (by decide)]; exact h9
  · rw [hs.1 328 (by decide) rfl]; exact h11 j hj
  · rw [hs.2.2 _ rfl, hs.2.2 _ rfl]; exact h12
theorem op_discover : OpI l X InvA 127 246 [] := by
  refine op_of (fun A q ρ σ hA hC hρ => ?_)
  have hW := hA.1.1
  have hl := hA.2.2.2.2.2.1.1
  have h256 := hA.2.2.2.2.2.1.2
  have hT := hC.2.2.2.2.2.2.2.1
  obtain ⟨n, hn⟩ : ∃ n, n = (aT A).1 := ⟨_, rfl⟩
  have hn16 : n ≤ 1600 := by omega
  have hC0 := hC.tape (Nat.zero_le _)
  have hf0 : ∀ j, j < n → (sI σ 0 (upd (σ.1 0) 1 (nI 0))).1 1 j = sb ((aT A).2 j) := fun j hj => by rw [sR_1 _ _ (by decide)]; exact hT.2 j (by omega)
  by_cases h : dsB (aB A) n (aT A).2 = true
  · have hds := of_decide_eq_true (Bool.and_eq_true_iff.mp h).1
    have hal := (Bool.and_eq_true_iff.mp h).2
    refine ⟨nI (n / 4), sF (sT A (0, (aT A).2)) (n / 4, (aT A).2), hA.disc h, ?_, fun ρ σ hM => ?_⟩
    · refine T_of rfl ?_
      refine Ev_aload rfl rfl rfl ?_
      refine Ev_callV rfl rfl rfl rfl rfl (same_n 402) (t_takeTape _) ?_
      rintro v1 ρ1 σ1 ⟨rfl, e1, g1⟩
      obtain rfl := e1.symm
      obtain rfl := g1.symm
      refine Ev_norm (by rw [hT.1, hn] : _ = nI n) ?_
      refine Ev_istore rfl ?_
      refine Ev_iload rfl rfl ?_
      refine Ev_const rfl ?_
      refine Ev_idiv rfl (by decide : ¬ (4 : Int32) = 0) ?_
      refine Ev_norm (pk_div (a := n) (d := 4) (by omega) (by decide) (by decide) : _ = nI (n / 4)) ?_
      refine Ev_istore rfl ?_
      refine Ev_iload rfl rfl ?_
      refine Ev_const rfl ?_
      refine Ev_icmp_lt rfl (fun h11 => absurd h11 (nI_nlt (b := 1) (by omega) (by omega))) (fun h11 => ?_)
      refine Ev_iload rfl rfl ?_
      refine Ev_const rfl ?_
      refine Ev_icmp_gt rfl (fun h17 => absurd h17 (nI_nlt (a := 16) (by omega) (by decide))) (fun h17 => ?_)
      refine Ev_iload rfl rfl ?_
      refine Ev_const rfl ?_
      refine Ev_irem rfl (by decide : ¬ (4 : Int32) = 0) ?_
      refine Ev_norm (pk_rem (a := n) (d := 4) (by omega) (by decide) (by decide) : _ = nI (n % 4)) ?_
      refine Ev_if_eq rfl (fun h23 => ?_) (fun h23 => absurd (by rw [hds.2.2]; rfl) h23)
      refine Ev_const rfl ?_
      refine Ev_istore rfl ?_
      refine dc_loop (B := aB A) (d := 97) (f := (aT A).2) hC0.1.1 hC0.2.1 hW hn16 hf0 h256 (fun _ => ?_) (fun z => by rw [hal] at z; cases z) (n / 4) 0 (by omega) (fun j hj => absurd hj (Nat.not_lt_zero j))
      refine Ev_const rfl ?_
      refine Ev_istore rfl ?_
      have := dp_loop (l := l) (X := X) (d := 97) (n := n) (r := n / 4) (σ := sI σ 0 (upd (σ.1 0) 1 (nI 0))) (f := (aT A).2) (Q := fun v ρ' σ' => v = some (.int (nI (n / 4))) ∧ RF ρ' ∧ upM σ σ' ∧ ∃ q', RC q' ρ' σ' (sF (sT A (0, (aT A).2)) (n / 4, (aT A).2))) hρ (by omega) hf0 h256 (fun g hg => ?_) n 0 ((sI σ 0 (upd (σ.1 0) 1 (nI 0))).1 315) (by omega) (fun j hj => absurd hj (Nat.not_lt_zero j))
      · rw [sI_self] at this; exact this
      refine Ev_aload rfl rfl rfl ?_
      refine Ev_getR rfl (by first | rfl | assumption) (hρ _ _ _ rfl) ?_
      refine Ev_iload rfl rfl ?_
      refine Ev_putI rfl (by first | rfl | assumption) ⟨rfl, rfl⟩ rfl ?_
      refine Ev_iload rfl rfl ?_
      exact Ev_ireturn rfl rfl rfl rfl (by
      have hx := hC0.fnd (g := g) (r := n / 4) (f := (aT A).2) (fun j hj => hg j (by omega))
      exact ⟨rfl, hρ, ((upM.put _ _ (by decide)).tr (upM.put _ _ (by decide))).tr (upM.put _ _ (by decide)), q, hx⟩)
    · have hρ := hM.1
      have hTm := hM.2.2.2.2.2.2.2.1
      have hM0 := hM.tape (Nat.zero_le _)
      have hf1 : ∀ j, j < n → (sI σ 326 (upd (σ.1 326) 1 (nI 0))).1 327 j = nI ((aT A).2 j) := fun j hj => by rw [sR_1 _ _ (by decide)]; exact hTm.2 j (by omega)
      refine T_of rfl ?_
      refine Ev_aload rfl rfl rfl ?_
      refine Ev_getI rfl (by first | rfl | assumption) ?_
      refine Ev_norm (by rw [hTm.1, hn] : _ = nI n) ?_
      refine Ev_istore rfl ?_
      refine Ev_aload rfl rfl rfl ?_
      refine Ev_const rfl ?_
      refine Ev_putI rfl (by first | rfl | assumption) ⟨rfl, rfl⟩ rfl ?_
      refine Ev_iload rfl rfl ?_
      refine Ev_if_le rfl (fun h11 => absurd h11 (nI_nle (by omega) (by omega))) (fun h11 => ?_)
      refine Ev_iload rfl rfl ?_
      refine Ev_const rfl ?_
      refine Ev_irem rfl (by decide : ¬ (4 : Int32) = 0) ?_
      refine Ev_norm (pk_rem (a := n) (d := 4) (by omega) (by decide) (by decide) : _ = nI (n % 4)) ?_
      refine Ev_if_ne rfl (fun h17 => absurd (by rw [hds.2.2]; rfl) h17) (fun h17 => ?_)
      refine Ev_iload rfl rfl ?_
      refine Ev_const rfl ?_
      refine Ev_idiv rfl (by decide : ¬ (4 : Int32) = 0) ?_
      refine Ev_norm (pk_div (a := n) (d := 4) (by omega) (by decide) (by decide) : _ = nI (n / 4)) ?_
      refine Ev_const rfl ?_
      refine Ev_icmp_gt rfl (fun h25 => absurd h25 (nI_nlt (a := 16) (by omega) (by decide))) (fun h25 => ?_)
      refine Ev_const rfl ?_
      refine Ev_goto rfl ?_
      refine Ev_istore rfl ?_
      refine Ev_const rfl ?_
      refine Ev_istore rfl ?_
      refine md_loop (B := aB A) (d := 97) (f := (aT A).2) hρ hM0.2.1.1 hW (by omega) hds.2.2 hf1 h256 (fun w => ?_) (n / 4) 0 (by omega) (fun j hj => absurd hj (Nat.not_lt_zero j))
      rw [hal]
      refine Ev_iload rfl rfl ?_
      refine Ev_if_ne rfl (fun h113 => ?_) (fun h113 => absurd (by decide) h113)
      refine Ev_const rfl ?_
      refine Ev_istore rfl ?_
      have := mdp_loop (l := l) (X := X) (d := 97) (n := n) (w := bI true) (σ := sI σ 326 (upd (σ.1 326) 1 (nI 0))) (f := (aT A).2) (Q := fun v ρ' σ' => v = some (.int (nI (n / 4))) ∧ ρ' = ρ ∧ upC σ σ' ∧ RM ρ' σ' (sF (sT A (0, (aT A).2)) (n / 4, (aT A).2))) hρ (by omega) hf1 (fun g hg => ?_) n 0 ((sI σ 326 (upd (σ.1 326) 1 (nI 0))).1 372) (by omega) (fun j hj => absurd hj (Nat.not_lt_zero j))
      · rw [sI_self] at this; exact this
      refine Ev_aload rfl rfl rfl ?_
      refine Ev_iload rfl rfl ?_
      refine Ev_const rfl ?_
      refine Ev_idiv rfl (by decide : ¬ (4 : Int32) = 0) ?_
      refine Ev_norm (pk_div (a := n) (d := 4) (by omega) (by decide) (by decide) : _ = nI (n / 4)) ?_
      refine Ev_putI rfl (by first | rfl | assumption) ⟨rfl, rfl⟩ rfl ?_
      refine Ev_aload rfl rfl rfl ?_
      refine Ev_getI rfl (by first | rfl | assumption) ?_
      refine Ev_norm (by rw [sR_0]; exact pk_us : _ = nI (n / 4)) ?_
      exact Ev_ireturn rfl rfl rfl rfl (by
      have hx := hM0.fnd (g := g) (r := n / 4) (f := (aT A).2) (fun j hj => hg j (by omega))
      exact ⟨rfl, rfl, ((upC.put _ _ (by decide)).tr (upC.put _ _ (by decide))).tr (upC.put _ _ (by decide)), hx⟩)
  · refine ⟨-1, sU (sT A (0, (aT A).2)) 1, hA.tape0.refu 1, ?_, fun ρ σ hM => ?_⟩
    · have no : ∀ {v : Option Value}, v = some (.int (-1)) → (v = some (.int (-1)) ∧ RF ρ ∧ upM σ (bump (sI σ 0 (upd (σ.1 0) 1 (nI 0))) 325 1) ∧ ∃ q', RC q' ρ (bump (sI σ 0 (upd (σ.1 0) 1 (nI 0))) 325 1) (sU (sT A (0, (aT A).2)) 1)) := fun hv => ⟨hv, hρ, (upM.put _ _ (by decide)).tr (upM.bump _), q, hC0.refu (by decide)⟩
      refine T_of rfl ?_
      refine Ev_aload rfl rfl rfl ?_
      refine Ev_callV rfl rfl rfl rfl rfl (same_n 402) (t_takeTape _) ?_
      rintro v1 ρ1 σ1 ⟨rfl, e1, g1⟩
      obtain rfl := e1.symm
      obtain rfl := g1.symm
      refine Ev_norm (by rw [hT.1, hn] : _ = nI n) ?_
      refine Ev_istore rfl ?_
      refine Ev_iload rfl rfl ?_
      refine Ev_const rfl ?_
      refine Ev_idiv rfl (by decide : ¬ (4 : Int32) = 0) ?_
      refine Ev_norm (pk_div (a := n) (d := 4) (by omega) (by decide) (by decide) : _ = nI (n / 4)) ?_
      refine Ev_istore rfl ?_
      refine Ev_iload rfl rfl ?_
      refine Ev_const rfl ?_
      refine Ev_icmp_lt rfl (fun h11 => ?_) (fun h11 => ?_)
      · refine Ev_aload rfl rfl rfl ?_
        refine Ev_const rfl ?_
        refine Ev_callV rfl rfl rfl rfl rfl (same_n 402) (t_refuse _ hρ (w := 1) (by decide)) ?_
        rintro v28 ρ28 σ28 ⟨rfl, e28, g28⟩
        obtain rfl := e28.symm
        obtain rfl := g28.symm
        exact Ev_ireturn rfl rfl rfl rfl (no rfl)
      · refine Ev_iload rfl rfl ?_
        refine Ev_const rfl ?_
        refine Ev_icmp_gt rfl (fun h17 => ?_) (fun h17 => ?_)
        · refine Ev_aload rfl rfl rfl ?_
          refine Ev_const rfl ?_
          refine Ev_callV rfl rfl rfl rfl rfl (same_n 402) (t_refuse _ hρ (w := 1) (by decide)) ?_
          rintro v28 ρ28 σ28 ⟨rfl, e28, g28⟩
          obtain rfl := e28.symm
          obtain rfl := g28.symm
          exact Ev_ireturn rfl rfl rfl rfl (no rfl)
        · refine Ev_iload rfl rfl ?_
          refine Ev_const rfl ?_
          refine Ev_irem rfl (by decide : ¬ (4 : Int32) = 0) ?_
          refine Ev_norm (pk_rem (a := n) (d := 4) (by omega) (by decide) (by decide) : _ = nI (n % 4)) ?_
          refine Ev_if_eq rfl (fun h23 => ?_) (fun h23 => ?_)
          · refine Ev_const rfl ?_
            refine Ev_istore rfl ?_
            have g1 : 1 ≤ n / 4 := Decidable.byContradiction fun z => h11 (nI_lt (b := 1) (by omega) (by decide))
            have g2 : n / 4 ≤ 16 := Decidable.byContradiction fun z => h17 (nI_lt (a := 16) (by omega) (by omega))
            have g3 : n % 4 = 0 := (nI_lit (z := 0) (n := 0) rfl (by omega) (by decide)).mp h23
            have hal : allK (n / 4) (okR (aB A) (aT A).2) = false := by
              cases hq : allK (n / 4) (okR (aB A) (aT A).2)
              · rfl
              · exact absurd (Bool.and_eq_true_iff.mpr ⟨decide_eq_true ⟨g1, g2, g3⟩, hq⟩) h
            exact dc_loop (B := aB A) (d := 97) (f := (aT A).2) hC0.1.1 hC0.2.1 hW hn16 hf0 h256 (fun z => by rw [hal] at z; cases z) (fun _ => no rfl) (n / 4) 0 (by omega) (fun j hj => absurd hj (Nat.not_lt_zero j))
          · refine Ev_aload rfl rfl rfl ?_
            refine Ev_const rfl ?_
            refine Ev_callV rfl rfl rfl rfl rfl (same_n 402) (t_refuse _ hρ (w := 1) (by decide)) ?_
            rintro v28 ρ28 σ28 ⟨rfl, e28, g28⟩
            obtain rfl := e28.symm
            obtain rfl := g28.symm
            exact Ev_ireturn rfl rfl rfl rfl (no rfl)
    · have hρ := hM.1
      have hTm := hM.2.2.2.2.2.2.2.1
      have hM0 := hM.tape (Nat.zero_le _)
      have hf1 : ∀ j, j < n → (sI σ 326 (upd (σ.1 326) 1 (nI 0))).1 327 j = nI ((aT A).2 j) := fun j hj => by rw [sR_1 _ _ (by decide)]; exact hTm.2 j (by omega)
      have fin : ∀ w, Ev l X 100 246 112 [.ref 326, .int (nI n), .int (bI false), w] [] 402 402 402 ρ (sI σ 326 (upd (σ.1 326) 1 (nI 0))) (fun v ρ' σ' => v = some (.int (-1)) ∧ ρ' = ρ ∧ upC σ σ' ∧ RM ρ' σ' (sU (sT A (0, (aT A).2)) 1)) := by
        intro w
        refine Ev_iload rfl rfl ?_
        refine Ev_if_ne rfl (fun h113 => absurd rfl h113) (fun h113 => ?_)
        refine Ev_aload rfl rfl rfl ?_
        refine Ev_const rfl ?_
        refine Ev_callV rfl rfl rfl rfl rfl (same_n 402) (m_refuses _ hρ (w := 1) (by decide)) ?_
        rintro v118 ρ118 σ118 ⟨rfl, e118, g118⟩
        obtain rfl := e118.symm
        obtain rfl := g118.symm
        exact Ev_ireturn rfl rfl rfl rfl ⟨rfl, rfl, (upC.put _ _ (by decide)).tr (upC.bump _), hM0.refu (by decide)⟩
      have bad : Ev l X 100 246 33 [.ref 326, .int (nI n), .float 0, .float 0] [.int 0] 402 402 402 ρ (sI σ 326 (upd (σ.1 326) 1 (nI 0))) (fun v ρ' σ' => v = some (.int (-1)) ∧ ρ' = ρ ∧ upC σ σ' ∧ RM ρ' σ' (sU (sT A (0, (aT A).2)) 1)) := by
        refine Ev_istore rfl ?_
        refine Ev_const rfl ?_
        refine Ev_istore rfl ?_
        refine Ev_iload rfl rfl ?_
        refine Ev_iload rfl rfl ?_
        refine Ev_icmp_ge rfl (fun h38 => ?_) (fun h38 => ?_)
        · exact fin _
        · refine Ev_iload rfl rfl ?_
          refine Ev_if_eq rfl (fun h42 => ?_) (fun h42 => absurd rfl h42)
          exact fin _
      refine T_of rfl ?_
      refine Ev_aload rfl rfl rfl ?_
      refine Ev_getI rfl (by first | rfl | assumption) ?_
      refine Ev_norm (by rw [hTm.1, hn] : _ = nI n) ?_
      refine Ev_istore rfl ?_
      refine Ev_aload rfl rfl rfl ?_
      refine Ev_const rfl ?_
      refine Ev_putI rfl (by first | rfl | assumption) ⟨rfl, rfl⟩ rfl ?_
      refine Ev_iload rfl rfl ?_
      refine Ev_if_le rfl (fun h11 => ?_) (fun h11 => ?_)
      · refine Ev_const rfl ?_
        exact bad
      · refine Ev_iload rfl rfl ?_
        refine Ev_const rfl ?_
        refine Ev_irem rfl (by decide : ¬ (4 : Int32) = 0) ?_
        refine Ev_norm (pk_rem (a := n) (d := 4) (by omega) (by decide) (by decide) : _ = nI (n % 4)) ?_
        refine Ev_if_ne rfl (fun h17 => ?_) (fun h17 => ?_)
        · refine Ev_const rfl ?_
          exact bad
        · refine Ev_iload rfl rfl ?_
          refine Ev_const rfl ?_
          refine Ev_idiv rfl (by decide : ¬ (4 : Int32) = 0) ?_
          refine Ev_norm (pk_div (a := n) (d := 4) (by omega) (by decide) (by decide) : _ = nI (n / 4)) ?_
          refine Ev_const rfl ?_
          refine Ev_icmp_gt rfl (fun h25 => ?_) (fun h25 => ?_)
          · refine Ev_const rfl ?_
            exact bad
          · refine Ev_const rfl ?_
            refine Ev_goto rfl ?_
            have g3 : n % 4 = 0 := (nI_lit (z := 0) (n := 0) rfl (by omega) (by decide)).mp (Decidable.not_not.mp h17)
            have g0 : 0 < n := Nat.pos_of_ne_zero (fun z => h11 (by rw [z]; decide))
            have g2 : n / 4 ≤ 16 := Decidable.byContradiction fun z => h25 (nI_lt (a := 16) (by omega) (by omega))
            have hal : allK (n / 4) (okR (aB A) (aT A).2) = false := by
              cases hq : allK (n / 4) (okR (aB A) (aT A).2)
              · rfl
              · exact absurd (Bool.and_eq_true_iff.mpr ⟨decide_eq_true ⟨by omega, g2, g3⟩, hq⟩) h
            refine Ev_istore rfl ?_
            refine Ev_const rfl ?_
            refine Ev_istore rfl ?_
            exact md_loop (B := aB A) (d := 97) (f := (aT A).2) hρ hM0.2.1.1 hW (by omega) g3 hf1 h256 (fun w => by rw [hal]; exact fin w) (n / 4) 0 (by omega) (fun j hj => absurd hj (Nat.not_lt_zero j))
end S72
