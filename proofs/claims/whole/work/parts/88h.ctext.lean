/-! A text read: the class looks, takes marks, fails. -/
def TxW (U : Tx) : Prop := U.1 ≤ 1600 ∧ ∀ j, U.2 j < 256
def CRs (σ : St) (U : Tx) : Rdg → Prop
  | .inl e => σ.1 316 5 = nI e.1 ∧ σ.1 316 6 = nI e.2 ∧ (0 < e.1 ∧ e.1 < 10) ∧ ∃ a, a ≤ U.1 ∧ σ.1 316 2 = nI a
  | .inr p => p.1 ≤ U.1 ∧ p.2 ≤ 2 ∧ σ.1 316 2 = nI p.1 ∧ σ.1 316 3 = nI p.2 ∧ σ.1 316 5 = 0 ∧ σ.1 316 6 = -1
/-- the class's text, as far as it is read -/
def CTt (σ : St) (U : Tx) (s : Rdg) : Prop := σ.1 316 1 = nI U.1 ∧ (∀ j, j < U.1 → σ.1 1 j = sb (U.2 j)) ∧ CRs σ U s
def cTt (k j : Nat) : Bool := Nat.beq k 316 && !(Nat.beq j 1 || Nat.beq j 4)
theorem cTt_f {k j : Nat} (h : k ≠ 316) : cTt k j = false := by unfold cTt; rw [nbeq h]; rfl
def rpos : Rdg → Nat
  | .inl _ => 0
  | .inr p => p.1
theorem flA_P (w k : Nat) (s : Rdg) : flA w k s = flP w (rpos s + k) s := by cases s <;> rfl
def ltI (x : Int32) : Bool := decide (97 ≤ x.toInt ∧ x.toInt ≤ 122)
def dgI (x : Int32) : Bool := decide (48 ≤ x.toInt ∧ x.toInt ≤ 57)
theorem ltI_sb : ∀ v, v < 256 → ltI (sb v) = ltB v := by decide +kernel
theorem dgI_sb : ∀ v, v < 256 → dgI (sb v) = dgB v := by decide +kernel
theorem ltI_n : ∀ v, v < 256 → ltI (nI v) = ltB v := by decide +kernel
theorem dgI_n : ∀ v, v < 256 → dgI (nI v) = dgB v := by decide +kernel
theorem sb_10 : ∀ v, v < 256 → (sb v = 10 ↔ v = 10) := by decide +kernel
theorem sb_32 : ∀ v, v < 256 → (sb v = 32 ↔ v = 32) := by decide +kernel
theorem bI_d {b : Bool} {p : Prop} [Decidable p] (h : b = decide p) : (¬ bI b = 0) ↔ p := by
  subst h
  rw [bI_0]
  exact Decidable.not_not
theorem lk_r {U : Tx} (p : Nat × Nat) : (U.1 ≤ skp U p.1 → lkS U (.inr p) = .inr (skp U p.1, tcN U p.1 p.2) ∧ lkC U (.inr p) = none) ∧
    (skp U p.1 < U.1 → cfl U (skp U p.1) (tcN U p.1 p.2) = true → lkS U (.inr p) = .inl (1, skp U p.1) ∧ lkC U (.inr p) = none) ∧
    (skp U p.1 < U.1 → cfl U (skp U p.1) (tcN U p.1 p.2) = false → lkS U (.inr p) = .inr (skp U p.1, tcN U p.1 p.2) ∧ lkC U (.inr p) = some (U.2 (skp U p.1))) := by
  unfold lkS lkC
  refine ⟨fun h => ⟨if_pos h, if_pos h⟩, fun h hc => ?_, fun h hc => ?_⟩
  · show (if _ then _ else _) = _ ∧ (if _ then _ else _) = _
    rw [if_neg (by omega), if_neg (by omega), hc]
    exact ⟨rfl, rfl⟩
  · show (if _ then _ else _) = _ ∧ (if _ then _ else _) = _
    rw [if_neg (by omega), if_neg (by omega), hc]
    exact ⟨rfl, rfl⟩
section S88h
variable {l : Launch} {X : Cx} {ρ : Rf} {U : Tx}
theorem t_isLetter (d : Nat) {σ : St} (x : Int32) : T l X d 95 [.int x] 400 400 ρ σ (Rs (.int (bI (ltI x))) ρ σ) := by
  have e1 : (97 : Int32).toInt = 97 := rfl
  have e2 : (122 : Int32).toInt = 122 := rfl
  refine T_of rfl ?_
  refine Ev_iload rfl rfl ?_
  refine Ev_const rfl ?_
  refine Ev_icmp_lt rfl (fun h3 => ?_) (fun h3 => ?_)
  · refine Ev_const rfl ?_
    exact Ev_ireturn rfl rfl rfl rfl ⟨by unfold ltI; rw [decide_eq_false (by rw [Int32.lt_iff_toInt_lt] at h3; omega)]; rfl, rfl, rfl⟩
  · refine Ev_iload rfl rfl ?_
    refine Ev_const rfl ?_
    refine Ev_icmp_gt rfl (fun h9 => ?_) (fun h9 => ?_)
    · refine Ev_const rfl ?_
      exact Ev_ireturn rfl rfl rfl rfl ⟨by unfold ltI; rw [decide_eq_false (by rw [Int32.lt_iff_toInt_lt] at h9; omega)]; rfl, rfl, rfl⟩
    · refine Ev_const rfl ?_
      refine Ev_goto rfl ?_
      exact Ev_ireturn rfl rfl rfl rfl ⟨by unfold ltI; rw [decide_eq_true (by rw [Int32.lt_iff_toInt_lt] at h3 h9; omega)]; rfl, rfl, rfl⟩
theorem t_isDigit (d : Nat) {σ : St} (x : Int32) : T l X d 96 [.int x] 400 400 ρ σ (Rs (.int (bI (dgI x))) ρ σ) := by
  have e1 : (48 : Int32).toInt = 48 := rfl
  have e2 : (57 : Int32).toInt = 57 := rfl
  refine T_of rfl ?_
  refine Ev_iload rfl rfl ?_
  refine Ev_const rfl ?_
  refine Ev_icmp_lt rfl (fun h3 => ?_) (fun h3 => ?_)
  · refine Ev_const rfl ?_
    exact Ev_ireturn rfl rfl rfl rfl ⟨by unfold dgI; rw [decide_eq_false (by rw [Int32.lt_iff_toInt_lt] at h3; omega)]; rfl, rfl, rfl⟩
  · refine Ev_iload rfl rfl ?_
    refine Ev_const rfl ?_
    refine Ev_icmp_gt rfl (fun h9 => ?_) (fun h9 => ?_)
    · refine Ev_const rfl ?_
      exact Ev_ireturn rfl rfl rfl rfl ⟨by unfold dgI; rw [decide_eq_false (by rw [Int32.lt_iff_toInt_lt] at h9; omega)]; rfl, rfl, rfl⟩
    · refine Ev_const rfl ?_
      refine Ev_goto rfl ?_
      exact Ev_ireturn rfl rfl rfl rfl ⟨by unfold dgI; rw [decide_eq_true (by rw [Int32.lt_iff_toInt_lt] at h3 h9; omega)]; rfl, rfl, rfl⟩
theorem t_fail (d : Nat) {σ : St} {s : Rdg} {w k : Nat} {x : Int32} (H : CTt σ U s) (hw : 0 < w ∧ w < 10) (hx : ∀ p, s = .inr p → x = nI k) :
    T l X d 94 [.ref 316, .int (nI w), .int x] 400 400 ρ σ (fun v ρ' σ' => v = none ∧ ρ' = ρ ∧ CTt σ' U (flP w k s) ∧ CF cTt σ σ') := by
  cases s with
  | inl e =>
    have g5 := H.2.2.2.2.1
    refine T_of rfl ?_
    refine Ev_aload rfl rfl rfl ?_
    refine Ev_getI rfl (by first | rfl | assumption) ?_
    refine Ev_norm H.2.2.1 ?_
    refine Ev_if_ne rfl (fun h4 => ?_) (fun h4 => absurd (nI_ne0 g5.1 (by omega)) h4)
    exact Ev_return rfl rfl rfl ⟨rfl, rfl, H, CF.rf _ _⟩
  | inr p =>
    obtain ⟨h1, h2, h3, h4, h5, h6, h7, h8⟩ := H
    have hx := hx p rfl
    subst hx
    refine T_of rfl ?_
    refine Ev_aload rfl rfl rfl ?_
    refine Ev_getI rfl (by first | rfl | assumption) ?_
    refine Ev_norm h7 ?_
    refine Ev_if_ne rfl (fun h4 => absurd rfl h4) (fun h4 => ?_)
    refine Ev_aload rfl rfl rfl ?_
    refine Ev_iload rfl rfl ?_
    refine Ev_putI rfl (by first | rfl | assumption) ⟨rfl, rfl⟩ rfl ?_
    refine Ev_aload rfl rfl rfl ?_
    refine Ev_iload rfl rfl ?_
    refine Ev_putI rfl (by first | rfl | assumption) ⟨rfl, rfl⟩ rfl ?_
    exact Ev_return rfl rfl rfl ⟨rfl, rfl, ⟨h1, h2, rfl, rfl, hw, p.1, h3, h5⟩, (CF.put _ _ rfl).tr (CF.put _ _ rfl)⟩
theorem lk_skip {d : Nat} {σ0 : St} {a0 : Nat} {x0 : Int32} {Q : Po} (hρ : RF ρ) (hT : TxW U)
    (hQ : ∀ σ, CF cTt σ0 σ → σ.1 316 5 = σ0.1 316 5 → σ.1 316 6 = σ0.1 316 6 → σ.1 316 2 = nI (skp U a0) → σ.1 316 3 = (if skp U a0 = a0 then x0 else 0) → Ev l X (d + 1) 97 57 [.ref 316, .float 0] [] 400 400 400 ρ σ Q) :
    ∀ (m a : Nat) (σ : St), U.1 - a = m → a ≤ U.1 → a0 ≤ a → skp U a = skp U a0 → σ.1 316 1 = nI U.1 → (∀ j, j < U.1 → σ.1 1 j = sb (U.2 j)) → CF cTt σ0 σ → σ.1 316 5 = σ0.1 316 5 → σ.1 316 6 = σ0.1 316 6 → σ.1 316 2 = nI a → σ.1 316 3 = (if a = a0 then x0 else 0) →
    Ev l X (d + 1) 97 0 [.ref 316, .float 0] [] 400 400 400 ρ σ Q := by
  have h16 := hT.1
  intro m
  induction m with
  | zero =>
    intro a σ hm ha h0 hsk hl hb hc hf hp hat htc
    have ha2 : a = U.1 := by omega
    have e : skp U a0 = a := by rw [← hsk]; exact skp_e (by omega)
    refine Ev_aload rfl rfl rfl ?_
    refine Ev_getI rfl (by first | rfl | assumption) ?_
    refine Ev_norm hat ?_
    refine Ev_aload rfl rfl rfl ?_
    refine Ev_getI rfl (by first | rfl | assumption) ?_
    refine Ev_norm hl ?_
    refine Ev_icmp_ge rfl (fun h8 => ?_) (fun h8 => absurd (nI_le (by omega) (by omega)) h8)
    exact hQ σ hc hf hp (by rw [e]; exact hat) (by rw [e]; exact htc)
  | succ m ih =>
    intro a σ hm ha h0 hsk hl hb hc hf hp hat htc
    have h256 := hT.2 a
    have stop : ¬ (U.2 a = 10 ∨ U.2 a = 32) → Ev l X (d + 1) 97 57 [.ref 316, .float 0] [] 400 400 400 ρ σ Q := fun z => by
      have e : skp U a0 = a := by rw [← hsk]; exact skp_n (by omega) z
      exact hQ σ hc hf hp (by rw [e]; exact hat) (by rw [e]; exact htc)
    have go : U.2 a = 10 ∨ U.2 a = 32 → Ev l X (d + 1) 97 39 [.ref 316, .float 0] [] 400 400 400 ρ σ Q := fun z => by
      refine Ev_aload rfl rfl rfl ?_
      refine Ev_const rfl ?_
      refine Ev_putI rfl (by first | rfl | assumption) ⟨rfl, rfl⟩ rfl ?_
      refine Ev_aload rfl rfl rfl ?_
      refine Ev_dup rfl (fun _ q => nomatch q) ?_
      refine Ev_getI rfl (by first | rfl | assumption) ?_
      refine Ev_norm (by rw [sR_0, pk_un (by decide)]; exact hat : _ = nI a) ?_
      refine Ev_const rfl ?_
      refine Ev_iadd rfl ?_
      refine Ev_norm (nI_1 a) ?_
      refine Ev_putI rfl (by first | rfl | assumption) ⟨rfl, rfl⟩ rfl ?_
      refine Ev_goto rfl ?_
      refine ih (a + 1) _ (by omega) (by omega) (by omega) (by rw [← hsk, skp_b (by omega) z]) ?_ ?_ (hc.tr ((CF.put _ _ rfl).tr (CF.put _ _ rfl))) ?_ ?_ ?_ ?_
      · rw [sR_0, pk_un (by decide), sR_0, pk_un (by decide)]; exact hl
      · intro j hj; rw [sR_1 _ _ (by decide), sR_1 _ _ (by decide)]; exact hb j hj
      · rw [sR_0, pk_un (by decide), sR_0, pk_un (by decide)]; exact hf
      · rw [sR_0, pk_un (by decide), sR_0, pk_un (by decide)]; exact hp
      · rw [sR_0, pk_us]
      · rw [sR_0, pk_un (by decide), sR_0, pk_us, if_neg (by omega)]
    refine Ev_aload rfl rfl rfl ?_
    refine Ev_getI rfl (by first | rfl | assumption) ?_
    refine Ev_norm hat ?_
    refine Ev_aload rfl rfl rfl ?_
    refine Ev_getI rfl (by first | rfl | assumption) ?_
    refine Ev_norm hl ?_
    refine Ev_icmp_ge rfl (fun h8 => absurd h8 (nI_ge (by omega) (by omega))) (fun h8 => ?_)
    refine Ev_aload rfl rfl rfl ?_
    refine Ev_getR rfl (by first | rfl | assumption) (hρ _ _ _ rfl) ?_
    refine Ev_aload rfl rfl rfl ?_
    refine Ev_getI rfl (by first | rfl | assumption) ?_
    refine Ev_norm hat ?_
    refine Ev_bald rfl (by first | rfl | assumption) (vp_in_nI (n := a) (show a < 1600 by omega) (by decide)) ?_
    refine Ev_norm (by rw [nI_clamp (by omega)]; exact hb a (by omega) : _ = sb (U.2 a)) ?_
    refine Ev_const rfl ?_
    refine Ev_icmp_eq rfl (fun h22 => ?_) (fun h22 => ?_)
    · exact go (Or.inl ((sb_10 _ h256).mp h22))
    · refine Ev_aload rfl rfl rfl ?_
      refine Ev_getR rfl (by first | rfl | assumption) (hρ _ _ _ rfl) ?_
      refine Ev_aload rfl rfl rfl ?_
      refine Ev_getI rfl (by first | rfl | assumption) ?_
      refine Ev_norm hat ?_
      refine Ev_bald rfl (by first | rfl | assumption) (vp_in_nI (n := a) (show a < 1600 by omega) (by decide)) ?_
      refine Ev_norm (by rw [nI_clamp (by omega)]; exact hb a (by omega) : _ = sb (U.2 a)) ?_
      refine Ev_const rfl ?_
      refine Ev_icmp_ne rfl (fun h36 => ?_) (fun h36 => ?_)
      · exact stop (fun z => z.elim (fun z => h22 ((sb_10 _ h256).mpr z)) (fun z => h36 ((sb_32 _ h256).mpr z)))
      · exact go (Or.inr ((sb_32 _ h256).mp (Decidable.not_not.mp h36)))
theorem t_look (d : Nat) {σ : St} {s : Rdg} (hρ : RF ρ) (hT : TxW U) (H : CTt σ U s) :
    T l X (d + 1) 97 [.ref 316] 400 400 ρ σ (fun v ρ' σ' => v = some (.int (lkV (lkC U s))) ∧ ρ' = ρ ∧ CTt σ' U (lkS U s) ∧ CF cTt σ σ') := by
  have h16 := hT.1
  cases s with
  | inl e =>
    obtain ⟨h1, h2, h3, h4, h5, a, h6, h7⟩ := H
    refine T_of rfl ?_
    refine lk_skip hρ hT (fun σ1 c1 f1 p1 a1 t1 => ?_) (U.1 - a) a σ rfl h6 (Nat.le_refl _) rfl h1 h2 (CF.rf _ _) rfl rfl h7 (if_pos rfl).symm
    refine Ev_aload rfl rfl rfl ?_
    refine Ev_getI rfl (by first | rfl | assumption) ?_
    refine Ev_norm (by rw [f1]; exact h3 : _ = nI e.1) ?_
    refine Ev_if_ne rfl (fun h61 => ?_) (fun h61 => absurd (nI_ne0 h5.1 (by omega)) h61)
    refine Ev_const rfl ?_
    exact Ev_ireturn rfl rfl rfl rfl ⟨rfl, rfl, ⟨by rw [c1.1 316 _ rfl]; exact h1, fun j hj => by rw [c1.1 1 j (cTt_f (by decide))]; exact h2 j hj, by rw [f1]; exact h3, by rw [p1]; exact h4, h5, _, skp_le h6, a1⟩, c1⟩
  | inr p =>
    obtain ⟨h1, h2, h3, h4, h5, h6, h7, h8⟩ := H
    obtain ⟨r1, r2, r3⟩ := lk_r (U := U) p
    have hle := skp_le h3
    refine T_of rfl ?_
    refine lk_skip hρ hT (fun σ1 c1 f1 p1 a1 t1 => ?_) (U.1 - p.1) p.1 σ rfl h3 (Nat.le_refl _) rfl h1 h2 (CF.rf _ _) rfl rfl h5 (if_pos rfl).symm
    have l1 : σ1.1 316 1 = nI U.1 := by rw [c1.1 316 _ rfl]; exact h1
    have b1 : ∀ j, j < U.1 → σ1.1 1 j = sb (U.2 j) := fun j hj => by rw [c1.1 1 j (cTt_f (by decide))]; exact h2 j hj
    have htc2 : tcN U p.1 p.2 ≤ 2 := by unfold tcN; split <;> omega
    have t2 : σ1.1 316 3 = nI (tcN U p.1 p.2) := by
      rw [t1, h6]
      unfold tcN
      by_cases hq : skp U p.1 = p.1
      · rw [if_pos hq, if_pos hq]
      · rw [if_neg hq, if_neg hq]; rfl
    have st : CTt σ1 U (.inr (skp U p.1, tcN U p.1 p.2)) := ⟨l1, b1, hle, htc2, a1, t2, by rw [f1]; exact h7, by rw [p1]; exact h8⟩
    by_cases hend : U.1 ≤ skp U p.1
    · rw [(r1 hend).1, (r1 hend).2]
      refine Ev_aload rfl rfl rfl ?_
      refine Ev_getI rfl (by first | rfl | assumption) ?_
      refine Ev_norm (by rw [f1]; exact h7 : _ = (0 : Int32)) ?_
      refine Ev_if_ne rfl (fun h61 => absurd rfl h61) (fun h61 => ?_)
      refine Ev_aload rfl rfl rfl ?_
      refine Ev_getI rfl (by first | rfl | assumption) ?_
      refine Ev_norm a1 ?_
      refine Ev_aload rfl rfl rfl ?_
      refine Ev_getI rfl (by first | rfl | assumption) ?_
      refine Ev_norm l1 ?_
      refine Ev_icmp_lt rfl (fun h72 => absurd h72 (nI_nlt hend (by omega))) (fun h72 => ?_)
      refine Ev_const rfl ?_
      exact Ev_ireturn rfl rfl rfl rfl ⟨rfl, rfl, st, c1⟩
    · have hlt : skp U p.1 < U.1 := by omega
      have hv := hT.2 (skp U p.1)
      have no : cfl U (skp U p.1) (tcN U p.1 p.2) = false → Ev l X (d + 1) 97 132 [.ref 316, .int (nI (U.2 (skp U p.1)))] [] 400 400 400 ρ σ1 (fun v ρ' σ' => v = some (.int (lkV (lkC U (.inr p)))) ∧ ρ' = ρ ∧ CTt σ' U (lkS U (.inr p)) ∧ CF cTt σ σ') := fun hc => by
        rw [(r3 hlt hc).1, (r3 hlt hc).2]
        refine Ev_iload rfl rfl ?_
        exact Ev_ireturn rfl rfl rfl rfl ⟨rfl, rfl, st, c1⟩
      have yes : cfl U (skp U p.1) (tcN U p.1 p.2) = true → Ev l X (d + 1) 97 121 [.ref 316, .int (nI (U.2 (skp U p.1)))] [] 400 400 400 ρ σ1 (fun v ρ' σ' => v = some (.int (lkV (lkC U (.inr p)))) ∧ ρ' = ρ ∧ CTt σ' U (lkS U (.inr p)) ∧ CF cTt σ σ') := fun hc => by
        rw [(r2 hlt hc).1, (r2 hlt hc).2]
        refine Ev_aload rfl rfl rfl ?_
        refine Ev_const rfl ?_
        refine Ev_aload rfl rfl rfl ?_
        refine Ev_getI rfl (by first | rfl | assumption) ?_
        refine Ev_norm a1 ?_
        refine Ev_callV rfl rfl rfl rfl rfl (same_n 400) (t_fail _ (w := 1) (k := skp U p.1) st (by decide) (fun _ _ => rfl)) ?_
        rintro v127 ρ127 σ127 ⟨rfl, e127, s127, c127⟩
        obtain rfl := e127.symm
        refine Ev_const rfl ?_
        exact Ev_ireturn rfl rfl rfl rfl ⟨rfl, rfl, s127, c1.tr c127⟩
      have d1 : nI (tcN U p.1 p.2) = 1 → tcN U p.1 p.2 = 1 := fun z => (nI_eq (b := 1) (by omega) (by decide)).mp z
      have d2 : nI (tcN U p.1 p.2) = 2 → tcN U p.1 p.2 = 2 := fun z => (nI_eq (b := 2) (by omega) (by decide)).mp z
      refine Ev_aload rfl rfl rfl ?_
      refine Ev_getI rfl (by first | rfl | assumption) ?_
      refine Ev_norm (by rw [f1]; exact h7 : _ = (0 : Int32)) ?_
      refine Ev_if_ne rfl (fun h61 => absurd rfl h61) (fun h61 => ?_)
      refine Ev_aload rfl rfl rfl ?_
      refine Ev_getI rfl (by first | rfl | assumption) ?_
      refine Ev_norm a1 ?_
      refine Ev_aload rfl rfl rfl ?_
      refine Ev_getI rfl (by first | rfl | assumption) ?_
      refine Ev_norm l1 ?_
      refine Ev_icmp_lt rfl (fun h72 => ?_) (fun h72 => absurd (nI_lt hlt (by omega)) h72)
      refine Ev_aload rfl rfl rfl ?_
      refine Ev_getR rfl (by first | rfl | assumption) (hρ _ _ _ rfl) ?_
      refine Ev_aload rfl rfl rfl ?_
      refine Ev_getI rfl (by first | rfl | assumption) ?_
      refine Ev_norm a1 ?_
      refine Ev_bald rfl (by first | rfl | assumption) (vp_in_nI (n := skp U p.1) (show skp U p.1 < 1600 by omega) (by decide)) ?_
      refine Ev_norm (by rw [nI_clamp (by omega)]; exact b1 _ hlt : _ = sb (U.2 (skp U p.1))) ?_
      refine Ev_const rfl ?_
      refine Ev_iand rfl ?_
      refine Ev_norm (sb_and _ hv) ?_
      refine Ev_istore rfl ?_
      refine Ev_aload rfl rfl rfl ?_
      refine Ev_getI rfl (by first | rfl | assumption) ?_
      refine Ev_norm t2 ?_
      refine Ev_const rfl ?_
      refine Ev_icmp_ne rfl (fun h96 => ?_) (fun h96 => ?_)
      · refine Ev_aload rfl rfl rfl ?_
        refine Ev_getI rfl (by first | rfl | assumption) ?_
        refine Ev_norm t2 ?_
        refine Ev_const rfl ?_
        refine Ev_icmp_ne rfl (fun h111 => ?_) (fun h111 => ?_)
        · exact no (by unfold cfl; rw [nbeq (fun z => h96 (by rw [z]; rfl)), nbeq (fun z => h111 (by rw [z]; rfl))]; rfl)
        · refine Ev_iload rfl rfl ?_
          refine Ev_callS rfl rfl rfl rfl (same_n 400) (t_isLetter _ _) ?_
          rintro v115 ρ115 σ115 ⟨rfl, e115, g115⟩
          obtain rfl := e115.symm
          obtain rfl := g115.symm
          refine Ev_if_eq rfl (fun h118 => ?_) (fun h118 => ?_)
          · exact no (by unfold cfl; rw [nbeq (fun z => h96 (by rw [z]; rfl)), ← ltI_n _ hv, ff_of h118, Bool.and_false]; rfl)
          · exact yes (by unfold cfl; rw [d2 (Decidable.not_not.mp h111), ← ltI_n _ hv, rt_of h118]; rfl)
      · refine Ev_iload rfl rfl ?_
        refine Ev_callS rfl rfl rfl rfl (same_n 400) (t_isDigit _ _) ?_
        rintro v100 ρ100 σ100 ⟨rfl, e100, g100⟩
        obtain rfl := e100.symm
        obtain rfl := g100.symm
        refine Ev_if_ne rfl (fun h103 => ?_) (fun h103 => ?_)
        · exact yes (by unfold cfl; rw [d1 (Decidable.not_not.mp h96), ← dgI_n _ hv, rt_of h103]; rfl)
        · refine Ev_aload rfl rfl rfl ?_
          refine Ev_getI rfl (by first | rfl | assumption) ?_
          refine Ev_norm t2 ?_
          refine Ev_const rfl ?_
          refine Ev_icmp_ne rfl (fun h111 => ?_) (fun h111 => ?_)
          · exact no (by unfold cfl; rw [← dgI_n _ hv, ff_of (Decidable.not_not.mp h103), Bool.and_false, nbeq (fun z => h111 (by rw [z]; rfl))]; rfl)
          · refine Ev_iload rfl rfl ?_
            refine Ev_callS rfl rfl rfl rfl (same_n 400) (t_isLetter _ _) ?_
            rintro v115 ρ115 σ115 ⟨rfl, e115, g115⟩
            obtain rfl := e115.symm
            obtain rfl := g115.symm
            refine Ev_if_eq rfl (fun h118 => ?_) (fun h118 => ?_)
            · have := d1 (Decidable.not_not.mp h96)
              have := d2 (Decidable.not_not.mp h111)
              omega
            · have := d1 (Decidable.not_not.mp h96)
              have := d2 (Decidable.not_not.mp h111)
              omega
theorem t_goOn (d : Nat) {σ : St} {p : Nat × Nat} {k tc : Nat} (H : CTt σ U (.inr p)) (hk : p.1 + k ≤ U.1) (htc : tc ≤ 2) :
    T l X d 98 [.ref 316, .int (nI k), .int (nI tc)] 400 400 ρ σ (fun v ρ' σ' => v = none ∧ ρ' = ρ ∧ CTt σ' U (adv k tc (.inr p)) ∧ CF cTt σ σ') := by
  obtain ⟨h1, h2, h3, h4, h5, h6, h7, h8⟩ := H
  refine T_of rfl ?_
  refine Ev_aload rfl rfl rfl ?_
  refine Ev_dup rfl (fun _ q => nomatch q) ?_
  refine Ev_getI rfl (by first | rfl | assumption) ?_
  refine Ev_norm h5 ?_
  refine Ev_iload rfl rfl ?_
  refine Ev_iadd rfl ?_
  refine Ev_norm (nI_add p.1 k) ?_
  refine Ev_putI rfl (by first | rfl | assumption) ⟨rfl, rfl⟩ rfl ?_
  refine Ev_aload rfl rfl rfl ?_
  refine Ev_iload rfl rfl ?_
  refine Ev_putI rfl (by first | rfl | assumption) ⟨rfl, rfl⟩ rfl ?_
  exact Ev_return rfl rfl rfl ⟨rfl, rfl, ⟨h1, h2, hk, htc, rfl, rfl, h7, h8⟩, (CF.put _ _ rfl).tr (CF.put _ _ rfl)⟩
theorem lkV_eq {o : Option Nat} {c : Nat} (ho : ∀ x, o = some x → x < 256) (hc : c < 256) : lkV o = nI c ↔ o = some c := by
  cases o with
  | none => exact ⟨fun z => absurd z.symm (nI_m1 (by omega)), fun z => by cases z⟩
  | some x =>
    have := ho x rfl
    show nI x = nI c ↔ _
    rw [nI_eq (by omega) (by omega)]
    exact ⟨fun z => by rw [z], fun z => Option.some.inj z⟩
theorem lkC_256 {s : Rdg} (hT : TxW U) : ∀ x, lkC U s = some x → x < 256 := fun x hx => by
  obtain ⟨a, tc, _, _, h, _⟩ := lk_some hx
  rw [← h]; exact hT.2 a
theorem CTt.le {σ : St} {a tc : Nat} (H : CTt σ U (.inr (a, tc))) : a ≤ U.1 := H.2.2.1
theorem t_takeSign (d : Nat) {σ : St} {s : Rdg} {c : Nat} (hρ : RF ρ) (hT : TxW U) (hc : c < 256) (H : CTt σ U s) :
    T l X (d + 2) 99 [.ref 316, .int (nI c)] 400 400 ρ σ (fun v ρ' σ' => v = some (.int (bI (decide (lkC U s = some c)))) ∧ ρ' = ρ ∧ CTt σ' U (tSg U c s) ∧ CF cTt σ σ') := by
  have hev := lkV_eq (lkC_256 (s := s) hT) hc
  unfold tSg
  by_cases hq : lkC U s = some c
  · obtain ⟨a, tc, e1, e2, _⟩ := lk_some hq
    rw [if_pos hq, decide_eq_true hq, e1]
    refine T_of rfl ?_
    refine Ev_aload rfl rfl rfl ?_
    refine Ev_callV rfl rfl rfl rfl rfl (same_n 400) (t_look _ hρ hT H) ?_
    rintro v1 ρ1 σ1 ⟨rfl, e1', s1, c1⟩
    obtain rfl := e1'.symm
    rw [e1] at s1
    refine Ev_iload rfl rfl ?_
    refine Ev_icmp_eq rfl (fun h5 => ?_) (fun h5 => absurd (hev.mpr hq) h5)
    refine Ev_aload rfl rfl rfl ?_
    refine Ev_const rfl ?_
    refine Ev_const rfl ?_
    refine Ev_callV rfl rfl rfl rfl rfl (same_n 400) (t_goOn _ (k := 1) (tc := 0) s1 e2 (by decide)) ?_
    rintro v13 ρ13 σ13 ⟨rfl, e13, s13, c13⟩
    obtain rfl := e13.symm
    refine Ev_const rfl ?_
    exact Ev_ireturn rfl rfl rfl rfl ⟨rfl, rfl, s13, c1.tr c13⟩
  · rw [if_neg hq, decide_eq_false hq]
    refine T_of rfl ?_
    refine Ev_aload rfl rfl rfl ?_
    refine Ev_callV rfl rfl rfl rfl rfl (same_n 400) (t_look _ hρ hT H) ?_
    rintro v1 ρ1 σ1 ⟨rfl, e1', s1, c1⟩
    obtain rfl := e1'.symm
    refine Ev_iload rfl rfl ?_
    refine Ev_icmp_eq rfl (fun h5 => absurd (hev.mp h5) hq) (fun h5 => ?_)
    refine Ev_const rfl ?_
    exact Ev_ireturn rfl rfl rfl rfl ⟨rfl, rfl, s1, c1⟩
theorem atV {σ : St} {s : Rdg} (H : CTt σ U s) : ∀ p, s = .inr p → σ.1 316 2 = nI (rpos s + 0) := fun p hp => by subst hp; exact H.2.2.2.2.1
theorem t_askSign (d : Nat) {σ : St} {s : Rdg} {c : Nat} (hρ : RF ρ) (hT : TxW U) (hc : c < 256) (H : CTt σ U s) :
    T l X (d + 3) 100 [.ref 316, .int (nI c)] 400 400 ρ σ (fun v ρ' σ' => v = none ∧ ρ' = ρ ∧ CTt σ' U (aSg U c s) ∧ CF cTt σ σ') := by
  refine T_of rfl ?_
  refine Ev_aload rfl rfl rfl ?_
  refine Ev_iload rfl rfl ?_
  refine Ev_callV rfl rfl rfl rfl rfl (same_n 400) (t_takeSign _ hρ hT hc H) ?_
  rintro v2 ρ2 σ2 ⟨rfl, e2, s2, c2⟩
  obtain rfl := e2.symm
  refine Ev_if_ne rfl (fun h5 => ?_) (fun h5 => ?_)
  · exact Ev_return rfl rfl rfl ⟨rfl, rfl, by unfold aSg; rw [if_pos (of_decide_eq_true (rt_of h5))]; unfold tSg at s2; rwa [if_pos (of_decide_eq_true (rt_of h5))] at s2, c2⟩
  · refine Ev_aload rfl rfl rfl ?_
    refine Ev_const rfl ?_
    refine Ev_aload rfl rfl rfl ?_
    refine Ev_getI rfl (by first | rfl | assumption) ?_
    refine Ev_callV rfl rfl rfl rfl rfl (same_n 400) (t_fail _ (w := 1) s2 (by decide) (atV s2)) ?_
    rintro v14 ρ14 σ14 ⟨rfl, e14, s14, c14⟩
    obtain rfl := e14.symm
    exact Ev_return rfl rfl rfl ⟨rfl, rfl, by
    have hz := of_decide_eq_false (ff_of (Decidable.not_not.mp h5))
    unfold tSg at s14
    rw [if_neg hz, ← flA_P] at s14
    unfold aSg; rw [if_neg hz]; exact s14, c2.tr c14⟩
theorem t_seesNumber (d : Nat) {σ : St} {s : Rdg} (hρ : RF ρ) (hT : TxW U) (H : CTt σ U s) :
    T l X (d + 2) 105 [.ref 316] 400 400 ρ σ (fun v ρ' σ' => v = some (.int (bI (dgI (lkV (lkC U s))))) ∧ ρ' = ρ ∧ CTt σ' U (lkS U s) ∧ CF cTt σ σ') := by
  refine T_of rfl ?_
  refine Ev_aload rfl rfl rfl ?_
  refine Ev_callV rfl rfl rfl rfl rfl (same_n 400) (t_look _ hρ hT H) ?_
  rintro v1 ρ1 σ1 ⟨rfl, e1, s1, c1⟩
  obtain rfl := e1.symm
  refine Ev_callS rfl rfl rfl rfl (same_n 400) (t_isDigit _ _) ?_
  rintro v4 ρ4 σ4 ⟨rfl, e4, g4⟩
  obtain rfl := e4.symm
  obtain rfl := g4.symm
  exact Ev_ireturn rfl rfl (narZ _) rfl ⟨rfl, rfl, s1, c1⟩
end S88h
