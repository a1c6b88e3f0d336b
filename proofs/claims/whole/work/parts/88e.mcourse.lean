/-! A course: the reference. -/
def setS (S : Str) (x : Nat) (row : Nat → Nat) : Str := fun b => if b = x then row else S b
theorem setS_x (S : Str) (x : Nat) (row : Nat → Nat) : setS S x row x = row := if_pos rfl
theorem setS_o {S : Str} {x b : Nat} {row : Nat → Nat} (h : b ≠ x) : setS S x row b = S b := if_neg h
theorem setS_id (S : Str) (x : Nat) : setS S x (S x) = S := by
  funext b
  unfold setS
  by_cases h : b = x
  · rw [if_pos h, h]
  · rw [if_neg h]
theorem setS_le {B : Bh} {S : Str} {x : Nat} {row : Nat → Nat} (hS : WfS B S) (hr : Rw8 B row) (b i : Nat) : setS S x row b i ≤ 99 := by
  unfold setS
  by_cases h : b = x
  · rw [if_pos h]; exact hr.1 i
  · rw [if_neg h]; exact (hS b i).1
/-- the choices of a row, hour by hour -/
def evG (B : Bh) (x w : Nat) (g : Nat → Nat) : Nat → Nat → (Nat → Nat) → Nat → Option (Nat → Nat)
  | 0, _, row, _ => some row
  | m + 1, k, row, h => (stC B x w row h (g k)).bind (fun r => evG B x w g m (k + 1) r (h + 1))
theorem evG_s (B : Bh) (x w : Nat) (g : Nat → Nat) (m k : Nat) (row : Nat → Nat) (h : Nat) : evG B x w g (m + 1) k row h = (stC B x w row h (g k)).bind (fun r => evG B x w g m (k + 1) r (h + 1)) := rfl
theorem evG_eq {B : Bh} {x w : Nat} {g g' : Nat → Nat} : ∀ (m k : Nat) (row : Nat → Nat) (h : Nat), (∀ j, k ≤ j → j < k + m → g j = g' j) → evG B x w g m k row h = evG B x w g' m k row h := by
  intro m
  induction m with
  | zero => intro k row h _; rfl
  | succ m ih =>
    intro k row h hg
    rw [evG_s, evG_s, hg k (Nat.le_refl _) (by omega)]
    congr 1
    funext r
    exact ih (k + 1) r (h + 1) (fun j h1 h2 => hg j (by omega) (by omega))
theorem evG_1 {B : Bh} {x w : Nat} {g : Nat → Nat} : ∀ (m k : Nat) (row : Nat → Nat) (h : Nat), evG B x w g (m + 1) k row h = (evG B x w g m k row h).bind (fun r => stC B x w r (h + m) (g (k + m))) := by
  intro m
  induction m with
  | zero =>
    intro k row h
    rw [evG_s]
    show (stC B x w row h (g k)).bind (fun r => some r) = stC B x w row (h + 0) (g (k + 0))
    cases stC B x w row h (g k) <;> rfl
  | succ m ih =>
    intro k row h
    rw [evG_s, evG_s]
    cases hs : stC B x w row h (g k) with
    | none => rfl
    | some r =>
      show evG B x w g (m + 1) (k + 1) r (h + 1) = (evG B x w g m (k + 1) r (h + 1)).bind (fun r => stC B x w r (h + (m + 1)) (g (k + (m + 1))))
      rw [ih (k + 1) r (h + 1), show h + 1 + m = h + (m + 1) by omega, show k + 1 + m = k + (m + 1) by omega]
def okG (y : Nat) : Option (Nat → Nat) → Bool
  | none => false
  | some r => decide (0 < r y)
/-- from a prefix's end on -/
def cO (B : Bh) (x w y m h : Nat) : Option (Nat → Nat) → Option (List Nat)
  | none => none
  | some r => cR B x w y m r h
theorem fsC_cg {f g : Nat → Option (List Nat)} (h : ∀ e, f e = g e) (c e : Nat) : fsC f c e = fsC g c e := by
  have : f = g := funext h
  rw [this]
theorem cO_s (B : Bh) (x w y m h : Nat) (st : Option (Nat → Nat)) : cO B x w y (m + 1) h st = fsC (fun e => cO B x w y m (h + 1) (st.bind (fun r => stC B x w r h e))) (ni B + 1) 0 := by
  cases st with
  | none => exact (fsC_no _ _ (fun _ _ _ => rfl)).symm
  | some r =>
    show cR B x w y (m + 1) r h = _
    rw [cR_s]
    refine fsC_cg (fun e => ?_) _ _
    show (stC B x w r h e).bind _ = cO B x w y m (h + 1) (stC B x w r h e)
    cases stC B x w r h e <;> rfl
theorem cO_0 (B : Bh) (x w y h : Nat) (st : Option (Nat → Nat)) : cO B x w y 0 h st = bif okG y st then some [] else none := by
  cases st with
  | none => rfl
  | some r =>
    show (if 0 < r y then some [] else none) = bif decide (0 < r y) then some [] else none
    by_cases hq : 0 < r y
    · rw [if_pos hq, decide_eq_true hq]; rfl
    · rw [if_neg hq, decide_eq_false hq]; rfl
theorem stC_w {B : Bh} {x w h e : Nat} {row r : Nat → Nat} (hr : Rw8 B row) (he : e ≤ ni B) (hs : stC B x w row h e = some r) : Rw8 B r := by
  cases e with
  | zero =>
    cases hs
    exact ⟨fun j => hrB_le hr.1 j, fun i hi => hrB_0 (hr.2 i hi) (fun j q => by cases q)⟩
  | succ i =>
    have hs : (bif rdM B row x w h (tdM B h) i then some (hrB B row x w h (tdM B h) (some i)) else none) = some r := hs
    cases hq : rdM B row x w h (tdM B h) i with
    | false => rw [hq] at hs; cases hs
    | true =>
      rw [hq] at hs
      cases hs
      exact ⟨fun j => hrB_le hr.1 j, fun j hj => hrB_0 (hr.2 j hj) (fun k q => by cases q; omega)⟩
theorem dgV_eq {a b : Nat} (ha : a < 1000) (hb : b < 1000) : dgV a = dgV b ↔ a = b := by
  constructor
  · intro h
    have h : nI a - 1 = nI b - 1 := h
    have h2 : nI a = nI b := by
      have := congrArg (· + 1) h
      simp only [Int32.sub_add_cancel] at this
      exact this
    exact (nI_eq (by omega) (by omega)).mp h2
  · intro h; rw [h]
section S88e
variable {l : Launch} {X : Cx} {ρ : Rf}
theorem MTh.hr1 {σ0 σ : St} {B : Bh} {S : Str} {W : Nat → Nat} {h x : Nat} {P : Nat → Nat} (hW : WfN B) (hx : x < nb B) (H : MTh σ0 B S W h P σ) : MTh σ0 B S W (h + 1) P (sI σ 365 (upd (σ.1 365) 0 (nI (h + 1)))) :=
  H.fd hW hx (MF.rf _ _ _) (fun i hi => H.2.1.2.2.1 x i (by have := hW.2.1; omega) (by have := hW.1; omega)) (fun _ _ => rfl) (fun _ _ => rfl) (fun _ _ => rfl)
theorem MTh.dk {σ0 σ : St} {B : Bh} {S : Str} {W : Nat → Nat} {h x i v : Nat} {P : Nat → Nat} (hW : WfN B) (hx : x < nb B) (hi : i < ni B) (H : MTh σ0 B S W h P σ) : MTh σ0 B (setS S x (updN (S x) i v)) W h P (sI σ 365 (upd (σ.1 365) (1 + 8 * x + i) (nI v))) := by
  obtain ⟨h1, h2, h3, h4, h5, h6, h7⟩ := H
  have n8 := hW.1
  have n6 := hW.2.1
  have n16 := hW.2.2.2.1
  have m1 : MF (fun q => Nat.beq q 365) cN0 σ (sI σ 365 (upd (σ.1 365) (1 + 8 * x + i) (nI v))) := MF.cell _ (by decide) rfl
  have m2 : MF cTi fTi σ (sI σ 365 (upd (σ.1 365) (1 + 8 * x + i) (nI v))) := MF.cell _ (by decide) rfl
  exact ⟨h1.tr m2, h2.mfn m1 rfl rfl (mk_put h2.2.2.1 (by omega) (by omega)) (by rw [sR_0, pk_un (by omega)]; exact h2.2.2.2.2), fun j hj => by rw [sR_0, pk_un (by omega)]; exact h3 j hj, by rw [sR_1 _ _ (by decide)]; exact h4, fun j hj => by rw [sR_0, pk_un (by omega)]; exact h5 j hj, fun j hj => by rw [sR_1 _ _ (by decide)]; exact h6 j hj, h7.ti m2⟩
/-- the end: what is so of the last row, all as it was -/
theorem mic_end {d x y n k : Nat} {A : Ab} {σ0 σ : St} {S : Str} {h : Nat} {P : Nat → Nat} {b : Bool} {w6 : Value} {row : Nat → Nat} (hM : RM ρ σ0 A) (hA : WfA A) (hx : x < nb (aB A)) (hy : y < ni (aB A)) (H : MTh σ0 (aB A) S (wit (aB A)) h P σ) (hb : b = true → S x = row) (h99 : row y ≤ 99) :
    Ev l X (d + 7) 234 113 [.ref 326, .int (nI x), .int (nI y), .int (nI n), .int (bI b), .int (nI k), w6] [] 402 402 402 ρ σ (fun v ρ' σ' => v = some (.int (bI (b && decide (0 < row y)))) ∧ ρ' = ρ ∧ MTh σ0 (aB A) (aN A).2.1 (wit (aB A)) (aN A).1 (aN A).2.2.1 σ' ∧ σ'.1 369 = σ.1 369) := by
  have hW := hA.1.1
  have n8 := hW.1
  have n6 := hW.2.1
  have hρ := hM.1
  have fin : ∀ z : Bool, Ev l X (d + 7) 234 132 [.ref 326, .int (nI x), .int (nI y), .int (nI n), .int (bI b), .int (nI k), w6] [.int (bI z)] 402 402 402 ρ σ (fun v ρ' σ' => v = some (.int (bI z)) ∧ ρ' = ρ ∧ MTh σ0 (aB A) (aN A).2.1 (wit (aB A)) (aN A).1 (aN A).2.2.1 σ' ∧ σ'.1 369 = σ.1 369) := by
    intro z
    refine Ev_istore rfl ?_
    refine Ev_aload rfl rfl rfl ?_
    refine Ev_callV rfl rfl rfl rfl rfl (same_n 402) (m_thAnewF _ hM hW H) ?_
    rintro v135 ρ135 σ135 ⟨rfl, e135, t135, f135, -⟩
    obtain rfl := e135.symm
    refine Ev_iload rfl rfl ?_
    exact Ev_ireturn rfl rfl (narZ _) rfl ⟨rfl, rfl, t135, f135 _ (by decide)⟩
  refine Ev_iload rfl rfl ?_
  refine Ev_if_eq rfl (fun h115 => ?_) (fun h115 => ?_)
  · refine Ev_const rfl ?_
    rw [ff_of h115]
    have := fin false
    rw [ff_of h115] at this
    exact this
  · refine Ev_aload rfl rfl rfl ?_
    refine Ev_iload rfl rfl ?_
    refine Ev_iload rfl rfl ?_
    refine Ev_callV rfl rfl rfl rfl rfl (same_n 402) (m_strengthOf _ hρ H.2.1.2.2.1 (by omega) (by omega)) ?_
    rintro v121 ρ121 σ121 ⟨rfl, e121, g121⟩
    obtain rfl := e121.symm
    obtain rfl := g121.symm
    refine Ev_if_le rfl (fun h124 => ?_) (fun h124 => ?_)
    · refine Ev_const rfl ?_
      have hbt := rt_of h115
      have e := hb hbt
      have hz : ¬ 0 < row y := fun z => absurd h124 (by rw [e]; exact nI_nle z (by omega))
      have := fin false
      rw [hbt] at this ⊢
      rw [decide_eq_false hz]
      exact this
    · refine Ev_const rfl ?_
      refine Ev_goto rfl ?_
      have hbt := rt_of h115
      have e := hb hbt
      have hz : 0 < row y := Nat.pos_of_ne_zero (fun z => h124 (by rw [e, z]; decide))
      have := fin true
      rw [hbt] at this ⊢
      rw [decide_eq_true hz]
      exact this
theorem m_isCourse (d : Nat) {x y n : Nat} {A : Ab} {σ0 σ : St} {g : Nat → Nat} (hM : RM ρ σ0 A) (hA : WfA A) (hx : x < nb (aB A)) (hy : y < ni (aB A)) (hn : n ≤ 4) (H : MTh σ0 (aB A) (aN A).2.1 (wit (aB A)) (aN A).1 (aN A).2.2.1 σ) (hg : ∀ k, k < n → σ.1 369 k = dgV (g k) ∧ g k ≤ ni (aB A)) :
    T l X (d + 7) 234 [.ref 326, .int (nI x), .int (nI y), .int (nI n)] 402 402 ρ σ (fun v ρ' σ' => v = some (.int (bI (okG y (evG (aB A) x (wit (aB A) x) g n 0 ((aN A).2.1 x) (aN A).1)))) ∧ ρ' = ρ ∧ MTh σ0 (aB A) (aN A).2.1 (wit (aB A)) (aN A).1 (aN A).2.2.1 σ' ∧ σ'.1 369 = σ.1 369) := by
  have hW := hA.1.1
  have hWt := hA.1.2.1
  have hWf := hA.1.2.2.1
  have n8 := hW.1
  have n6 := hW.2.1
  have nh := hA.2.1.1
  have hρ := hM.1
  have hSw := hA.2.1.2.1
  have loop : ∀ (m k : Nat) (σ1 : St) (row : Nat → Nat) (w6 : Value), k + m = n → Rw8 (aB A) row → MTh σ0 (aB A) (setS (aN A).2.1 x row) (wit (aB A)) ((aN A).1 + k) (aN A).2.2.1 σ1 → σ1.1 369 = σ.1 369 →
      Ev l X (d + 7) 234 6 [.ref 326, .int (nI x), .int (nI y), .int (nI n), .int (bI true), .int (nI k), w6] [] 402 402 402 ρ σ1 (fun v ρ' σ' => v = some (.int (bI (okG y (evG (aB A) x (wit (aB A) x) g m k row ((aN A).1 + k))))) ∧ ρ' = ρ ∧ MTh σ0 (aB A) (aN A).2.1 (wit (aB A)) (aN A).1 (aN A).2.2.1 σ' ∧ σ'.1 369 = σ.1 369) := by
    intro m
    induction m with
    | zero =>
      intro k σ1 row w6 hk hr hT h0
      have hk : k = n := by omega
      subst hk
      refine Ev_iload rfl rfl ?_
      refine Ev_iload rfl rfl ?_
      refine Ev_icmp_ge rfl (fun h9 => ?_) (fun h9 => absurd (nI_le (Nat.le_refl _) (by omega)) h9)
      have := mic_end (l := l) (X := X) (d := d) (n := k) (k := k) (w6 := w6) (b := true) hM hA hx hy hT (fun _ => setS_x _ _ _) (hr.1 y)
      rw [h0] at this
      exact this
    | succ m ih =>
      intro k σ1 row w6 hk hr hT h0
      have hgk := hg k (by omega)
      have hle := setS_le (x := x) hSw hr
      have hT0 := hT.2.1
      rw [evG_s]
      -- behind a good choice: fading, the hour
      have good : ∀ (σ2 : St) (row2 : Nat → Nat) (i : Int32) (r : Nat → Nat), MTh σ0 (aB A) (setS (aN A).2.1 x row2) (wit (aB A)) ((aN A).1 + k) (aN A).2.2.1 σ2 → Rw8 (aB A) row2 → σ2.1 369 = σ.1 369 → stC (aB A) x (wit (aB A) x) row ((aN A).1 + k) (g k) = some r → (∀ j, r j = fadR (aB A) row2 x (wit (aB A) x) ((aN A).1 + k) i j) →
          Ev l X (d + 7) 234 85 [.ref 326, .int (nI x), .int (nI y), .int (nI n), .int (bI true), .int (nI k), .int i] [] 402 402 402 ρ σ2 (fun v ρ' σ' => v = some (.int (bI (okG y ((stC (aB A) x (wit (aB A) x) row ((aN A).1 + k) (g k)).bind (fun r => evG (aB A) x (wit (aB A) x) g m (k + 1) r ((aN A).1 + k + 1)))))) ∧ ρ' = ρ ∧ MTh σ0 (aB A) (aN A).2.1 (wit (aB A)) (aN A).1 (aN A).2.2.1 σ' ∧ σ'.1 369 = σ.1 369) := by
        intro σ2 row2 i r hT2 hr2 h2 hst hri
        have hle2 := setS_le (x := x) hSw hr2
        have hrw := stC_w hr hgk.2 hst
        refine Ev_iload rfl rfl ?_
        refine Ev_if_eq rfl (fun h87 => absurd h87 (by decide)) (fun h87 => ?_)
        refine Ev_aload rfl rfl rfl ?_
        refine Ev_iload rfl rfl ?_
        refine Ev_iload rfl rfl ?_
        refine Ev_callV rfl rfl rfl rfl rfl (same_n 402) (m_fade _ hρ hT2.2.1 hT2.2.2.2.2.2.2 hW hWt hWf hle2 (wf9 hA) (by omega) hx) ?_
        rintro v94 ρ94 σ94 ⟨rfl, e94, f1, f2, f3⟩
        obtain rfl := e94.symm
        refine Ev_aload rfl rfl rfl ?_
        refine Ev_getR rfl (by first | rfl | assumption) (hρ _ _ _ rfl) ?_
        refine Ev_const rfl ?_
        refine Ev_dup2 rfl (fun _ q => nomatch q) (fun _ q => nomatch q) ?_
        refine Ev_iald rfl (by first | rfl | assumption) (vp_in_nI (n := 0) (by decide) (by decide)) ?_
        refine Ev_norm (by rw [f3 _ (by show ¬ (1 + 8 * x ≤ 0 ∧ _); omega)]; exact hT2.2.1.2.2.2.2 : _ = nI ((aN A).1 + k)) ?_
        refine Ev_const rfl ?_
        refine Ev_iadd rfl ?_
        refine Ev_norm (nI_1 _) ?_
        refine Ev_iast rfl (by first | rfl | assumption) (vp_in_nI (n := 0) (by decide) (by decide)) ?_
        have hT3 := hT2.fd (S' := setS (aN A).2.1 x r) hW hx f1 (fun j hj => by rw [f2 j hj, setS_x, setS_x, hri j]) f3 (fun b hb => by rw [setS_o hb, setS_o hb]) (fun j hj => by rw [setS_x, setS_x, hr2.2 j hj]; exact hrw.2 j hj)
        refine Ev_iincE rfl rfl (nI_1 k) ?_
        refine Ev_goto rfl ?_
        rw [hst]
        exact ih (k + 1) _ r (.int i) (by omega) hrw hT3 (by rw [sR_1 _ _ (by decide), f1.1 369 (by decide) rfl]; exact h2)
      refine Ev_iload rfl rfl ?_
      refine Ev_iload rfl rfl ?_
      refine Ev_icmp_ge rfl (fun h9 => absurd h9 (nI_ge (by omega) (by omega))) (fun h9 => ?_)
      refine Ev_iload rfl rfl ?_
      refine Ev_if_eq rfl (fun h14 => absurd h14 (by decide)) (fun h14 => ?_)
      refine Ev_aload rfl rfl rfl ?_
      refine Ev_callV rfl rfl rfl rfl rfl (same_n 402) (m_laysTide _ hρ hT0 hT.2.2.2.2.2.2 hW hWt hWf hle (wf9 hA) (by omega)) ?_
      rintro v18 ρ18 σ18 ⟨rfl, e18, t18⟩
      obtain rfl := e18.symm
      have hTt := hT.mtd t18
      refine Ev_aload rfl rfl rfl ?_
      refine Ev_getR rfl (by first | rfl | assumption) (hρ _ _ _ rfl) ?_
      refine Ev_iload rfl rfl ?_
      refine Ev_iald rfl (by first | rfl | assumption) (vp_in_nI (n := k) (show k < 4 by omega) (by decide)) ?_
      refine Ev_norm (by rw [nI_clamp (by omega), t18.1 369 (by decide), h0]; exact hgk.1 : _ = dgV (g k)) ?_
      refine Ev_istore rfl ?_
      have h018 : σ18.1 369 = σ.1 369 := by rw [t18.1 369 (by decide)]; exact h0
      cases hgq : g k with
      | zero =>
        rw [dgV_0]
        have gd := good σ18 row (-1) (hrB (aB A) row x (wit (aB A) x) ((aN A).1 + k) (tdM (aB A) ((aN A).1 + k)) none) hTt hr h018 (by rw [hgq]; rfl) (fun j => by rw [hrB_n])
        rw [hgq] at gd
        refine Ev_iload rfl rfl ?_
        refine Ev_const rfl ?_
        refine Ev_icmp_eq rfl (fun h33 => ?_) (fun h33 => absurd rfl h33)
        refine Ev_const rfl ?_
        refine Ev_goto rfl ?_
        refine Ev_istore rfl ?_
        refine Ev_iload rfl rfl ?_
        refine Ev_if_eq rfl (fun h55 => absurd h55 (by decide)) (fun h55 => ?_)
        refine Ev_iload rfl rfl ?_
        refine Ev_const rfl ?_
        refine Ev_icmp_eq rfl (fun h61 => ?_) (fun h61 => absurd rfl h61)
        exact gd
      | succ i =>
        have hi : i < ni (aB A) := by have := hgk.2; omega
        rw [dgV_s]
        refine Ev_iload rfl rfl ?_
        refine Ev_const rfl ?_
        refine Ev_icmp_eq rfl (fun h33 => absurd h33 (nI_m1 (by omega))) (fun h33 => ?_)
        refine Ev_aload rfl rfl rfl ?_
        refine Ev_iload rfl rfl ?_
        refine Ev_iload rfl rfl ?_
        refine Ev_callV rfl rfl rfl rfl rfl (same_n 402) (m_isReady _ hρ hTt.2.1 hTt.2.2.2.2.2.2 hW hWt hWf hle (wf9 hA) (by omega) t18.2.2.2 (tdM_le _ _) hx hi) ?_
        rintro v40 ρ40 σ40 ⟨rfl, e40, s40⟩
        obtain rfl := e40.symm
        refine Ev_if_eq rfl (fun h43 => ?_) (fun h43 => ?_)
        · refine Ev_const rfl ?_
          refine Ev_istore rfl ?_
          refine Ev_iload rfl rfl ?_
          refine Ev_if_eq rfl (fun h55 => ?_) (fun h55 => absurd rfl h55)
          have hrd : rdM (aB A) row x (wit (aB A) x) ((aN A).1 + k) (tdM (aB A) ((aN A).1 + k)) i = false := by have := ff_of h43; rwa [setS_x] at this
          have hst : stC (aB A) x (wit (aB A) x) row ((aN A).1 + k) (i + 1) = none := by show (bif _ then _ else _) = _; rw [hrd]; rfl
          rw [hst]
          have hT4 := (hTt.msc s40).hr1 hW hx
          refine Ev_iload rfl rfl ?_
          refine Ev_if_eq rfl (fun h87 => ?_) (fun h87 => absurd rfl h87)
          refine Ev_aload rfl rfl rfl ?_
          refine Ev_getR rfl (by first | rfl | assumption) (hρ _ _ _ rfl) ?_
          refine Ev_const rfl ?_
          refine Ev_dup2 rfl (fun _ q => nomatch q) (fun _ q => nomatch q) ?_
          refine Ev_iald rfl (by first | rfl | assumption) (vp_in_nI (n := 0) (by decide) (by decide)) ?_
          refine Ev_norm ((hTt.msc s40).2.1.2.2.2.2 : _ = nI ((aN A).1 + k)) ?_
          refine Ev_const rfl ?_
          refine Ev_iadd rfl ?_
          refine Ev_norm (nI_1 _) ?_
          refine Ev_iast rfl (by first | rfl | assumption) (vp_in_nI (n := 0) (by decide) (by decide)) ?_
          refine Ev_iincE rfl rfl (nI_1 k) ?_
          refine Ev_goto rfl ?_
          refine Ev_iload rfl rfl ?_
          refine Ev_iload rfl rfl ?_
          refine Ev_icmp_ge rfl (fun h9 => ?_) (fun h9 => ?_)
          · have := mic_end (l := l) (X := X) (d := d) (n := n) (k := k + 1) (w6 := .int (nI i)) (b := false) (row := row) hM hA hx hy hT4 (fun z => by cases z) (hr.1 y)
            rw [show ((sI σ40 365 (upd (σ40.1 365) 0 (nI ((aN A).1 + k + 1)))).1 369) = σ.1 369 by rw [sR_1 _ _ (by decide), s40.1 369 (by decide)]; exact h018] at this
            exact this
          · refine Ev_iload rfl rfl ?_
            refine Ev_if_eq rfl (fun h14 => ?_) (fun h14 => absurd rfl h14)
            have := mic_end (l := l) (X := X) (d := d) (n := n) (k := k + 1) (w6 := .int (nI i)) (b := false) (row := row) hM hA hx hy hT4 (fun z => by cases z) (hr.1 y)
            rw [show ((sI σ40 365 (upd (σ40.1 365) 0 (nI ((aN A).1 + k + 1)))).1 369) = σ.1 369 by rw [sR_1 _ _ (by decide), s40.1 369 (by decide)]; exact h018] at this
            exact this
        · refine Ev_const rfl ?_
          refine Ev_goto rfl ?_
          refine Ev_istore rfl ?_
          refine Ev_iload rfl rfl ?_
          refine Ev_if_eq rfl (fun h55 => absurd h55 (by decide)) (fun h55 => ?_)
          refine Ev_iload rfl rfl ?_
          refine Ev_const rfl ?_
          refine Ev_icmp_eq rfl (fun h61 => absurd h61 (nI_m1 (by omega))) (fun h61 => ?_)
          refine Ev_aload rfl rfl rfl ?_
          refine Ev_getR rfl (by first | rfl | assumption) (hρ _ _ _ rfl) ?_
          refine Ev_const rfl ?_
          refine Ev_const rfl ?_
          refine Ev_iload rfl rfl ?_
          refine Ev_imul rfl ?_
          refine Ev_norm (pk_mul 8 x) ?_
          refine Ev_iadd rfl ?_
          refine Ev_norm (nI_add 1 (8 * x)) ?_
          refine Ev_iload rfl rfl ?_
          refine Ev_iadd rfl ?_
          refine Ev_norm (nI_add (1 + 8 * x) i) ?_
          refine Ev_aload rfl rfl rfl ?_
          refine Ev_iload rfl rfl ?_
          refine Ev_iload rfl rfl ?_
          refine Ev_callV rfl rfl rfl rfl rfl (same_n 402) (m_keptOf _ hρ (hTt.msc s40).2.1 (hTt.msc s40).2.2.2.2.2.2 hW hWt hWf hle (wf9 hA) (by omega) (by rw [s40.2.2 58 rfl]; exact t18.2.2.2) (tdM_le _ _) hx hi) ?_
          rintro v81 ρ81 σ81 ⟨rfl, e81, s81⟩
          refine Ev_norm (by rw [setS_x] : _ = nI (kpM (aB A) row x (wit (aB A) x) ((aN A).1 + k) (tdM (aB A) ((aN A).1 + k)) i)) ?_
          obtain rfl := e81.symm
          refine Ev_iast rfl (by first | rfl | assumption) (vp_in_nI (n := 1 + 8 * x + i) (show 1 + 8 * x + i < 242 by omega) (by decide)) ?_
          rw [nI_clamp (show 1 + 8 * x + i < 2 ^ 31 by omega)]
          have hrd : rdM (aB A) row x (wit (aB A) x) ((aN A).1 + k) (tdM (aB A) ((aN A).1 + k)) i = true := by have := rt_of h43; rwa [setS_x] at this
          have hdk := ((hTt.msc s40).msc s81).dk (v := kpM (aB A) row x (wit (aB A) x) ((aN A).1 + k) (tdM (aB A) ((aN A).1 + k)) i) hW hx hi
          have hse : setS (setS (aN A).2.1 x row) x (updN (setS (aN A).2.1 x row x) i (kpM (aB A) row x (wit (aB A) x) ((aN A).1 + k) (tdM (aB A) ((aN A).1 + k)) i)) = setS (aN A).2.1 x (updN row i (kpM (aB A) row x (wit (aB A) x) ((aN A).1 + k) (tdM (aB A) ((aN A).1 + k)) i)) := by
            funext b
            by_cases hb : b = x
            · subst hb; rw [setS_x, setS_x, setS_x]
            · rw [setS_o hb, setS_o hb, setS_o hb]
          rw [hse] at hdk
          have gd := good _ _ (nI i) (hrB (aB A) row x (wit (aB A) x) ((aN A).1 + k) (tdM (aB A) ((aN A).1 + k)) (some i)) hdk (hr.upd hi (kpM_le _ _ _ _ _ _ _).2) (by rw [sR_1 _ _ (by decide), s81.1 369 (by decide), s40.1 369 (by decide)]; exact h018) (by rw [hgq]; show (bif _ then _ else _) = _; rw [hrd]; rfl) (fun j => by rw [hrB_s, hrd]; rfl)
          rw [hgq] at gd
          exact gd
  refine T_of rfl ?_
  refine Ev_const rfl ?_
  refine Ev_istore rfl ?_
  refine Ev_const rfl ?_
  refine Ev_istore rfl ?_
  exact loop n 0 σ ((aN A).2.1 x) (.float 0) (by omega) (hSw.row x) (by rw [setS_id]; exact H) rfl
end S88e
