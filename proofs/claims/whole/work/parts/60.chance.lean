/-! Hours by the seed. -/
def nx (x : Nat) : Nat := (1103515245 * x + 12345) % 2147483648
def dr (x m : Nat) : Nat := x / 64 % m
theorem nx_lt (x : Nat) : nx x < 2147483648 := Nat.mod_lt _ (by decide)
theorem lI_n (n : Nat) : lI ((n : Nat) : Int) = lN n := rfl
theorem and_m (n : Nat) : lN n &&& 2147483647 = lN (n % 2147483648) := by
  apply Int64.toBitVec_inj.mp
  apply BitVec.eq_of_toNat_eq
  show (BitVec.ofNat 64 n &&& BitVec.ofNat 64 2147483647).toNat = (BitVec.ofNat 64 (n % 2147483648)).toNat
  rw [BitVec.toNat_and, BitVec.toNat_ofNat, BitVec.toNat_ofNat, BitVec.toNat_ofNat, show (2147483647 % 2 ^ 64 : Nat) = 2 ^ 31 - 1 by decide, Nat.and_two_pow_sub_one_eq_mod]
  omega
theorem nx_C {x : Nat} (h : x < 2147483648) : (((1103515245 : Int64) * (nI x).toInt64 + 12345) &&& 2147483647).toInt32 = nI (nx x) := by
  rw [nI_l (by omega), show (1103515245 : Int64) = lN 1103515245 from rfl, lN_mul, show (12345 : Int64) = lN 12345 from rfl, lN_add, and_m, lN_i]
  rfl
theorem nx_M {x : Nat} (h : x < 2147483648) : (1103515245 : Int64) * lI ((x : Nat) : Int) + 12345 - ((1103515245 : Int64) * lI ((x : Nat) : Int) + 12345) / 2147483648 * 2147483648 = lI ((nx x : Nat) : Int) := by
  rw [lI_n, show (1103515245 : Int64) = lN 1103515245 from rfl, lN_mul, show (12345 : Int64) = lN 12345 from rfl, lN_add, show (2147483648 : Int64) = lN 2147483648 from rfl, pk_lRem (by omega) (by decide) (by decide)]
  rfl
/-- hours by the seed: strengths, what is kept, the seed, how many squalls -/
abbrev Ch : Type := Str × (Nat × (Nat → Nat)) × Nat × Nat
def chT (B : Bh) (h x : Nat) : Nat := if dr (nx x) 100 < sq B then dr (nx (nx x)) 10 else tdM B h
def ch1 (B : Bh) (P : Nat → Nat) (h : Nat) (s : Ch) : Ch := (hrS B P s.1 (wit B) h (chT B h s.2.2.1), kpH B P s.1 (wit B) h (chT B h s.2.2.1) s.2.1, (if dr (nx s.2.2.1) 100 < sq B then nx (nx s.2.2.1) else nx s.2.2.1), (if dr (nx s.2.2.1) 100 < sq B then s.2.2.2 + 1 else s.2.2.2))
def chN (B : Bh) (P : Nat → Nat) (h : Nat) : Nat → Ch → Ch
  | 0, s => s
  | n + 1, s => ch1 B P (h + n) (chN B P h n s)
theorem chT_le (B : Bh) (h x : Nat) : chT B h x ≤ 9 := by
  unfold chT
  by_cases hc : dr (nx x) 100 < sq B
  · rw [if_pos hc]
    have : dr (nx (nx x)) 10 < 10 := Nat.mod_lt _ (by decide)
    omega
  · rw [if_neg hc]; exact tdM_le B h
theorem chN_wf {B : Bh} {P : Nat → Nat} {h : Nat} {s : Ch} (hP : WfP B P) (h1 : WfS B s.1) (h2 : s.2.1.1 ≤ 40) (h3 : s.2.2.1 < 2147483648) (n : Nat) : WfS B (chN B P h n s).1 ∧ (chN B P h n s).2.1.1 ≤ 40 ∧ (chN B P h n s).2.2.1 < 2147483648 ∧ (chN B P h n s).2.2.2 ≤ s.2.2.2 + n := by
  induction n with
  | zero => exact ⟨h1, h2, h3, Nat.le_refl _⟩
  | succ n ih =>
    obtain ⟨i1, i2, i3, i4⟩ := ih
    refine ⟨hrS_wf hP i1, kpH_40 i2, ?_, ?_⟩
    · show (if dr (nx (chN B P h n s).2.2.1) 100 < sq B then nx (nx (chN B P h n s).2.2.1) else nx (chN B P h n s).2.2.1) < 2147483648
      by_cases hc : dr (nx (chN B P h n s).2.2.1) 100 < sq B
      · rw [if_pos hc]; exact nx_lt _
      · rw [if_neg hc]; exact nx_lt _
    · show (if dr (nx (chN B P h n s).2.2.1) 100 < sq B then (chN B P h n s).2.2.2 + 1 else (chN B P h n s).2.2.2) ≤ s.2.2.2 + (n + 1)
      by_cases hc : dr (nx (chN B P h n s).2.2.1) 100 < sq B
      · rw [if_pos hc]; omega
      · rw [if_neg hc]; omega
section S60
variable {l : Launch} {X : Cx}
theorem t_draw (d : Nat) {ρ : Rf} {σ : St} {x m : Nat} (hx : σ.1 0 16 = nI x) (hx2 : x < 2147483648) (hm : 0 < m ∧ m ≤ 1000) : T l X d 136 [.ref 0, .int (nI m)] 402 402 ρ σ (Rs (.int (nI (dr (nx x) m))) ρ (sI σ 0 (upd (σ.1 0) 16 (nI (nx x))))) := by
  have h1 := nx_lt x
  refine T_of rfl ?_
  refine Ev_aload rfl rfl rfl ?_
  refine Ev_constL rfl ?_
  refine Ev_aload rfl rfl rfl ?_
  refine Ev_getI rfl (by first | rfl | assumption) ?_
  refine Ev_norm hx ?_
  refine Ev_i2l rfl ?_
  refine Ev_lmul rfl ?_
  refine Ev_constL rfl ?_
  refine Ev_ladd rfl ?_
  refine Ev_constL rfl ?_
  refine Ev_land rfl ?_
  refine Ev_l2i rfl ?_
  refine Ev_norm (nx_C hx2) ?_
  refine Ev_putI rfl (by first | rfl | assumption) ⟨rfl, rfl⟩ rfl ?_
  refine Ev_iload rfl rfl ?_
  refine Ev_if_le rfl (fun h23 => absurd h23 (nI_nle hm.1 (by omega))) (fun h23 => ?_)
  refine Ev_aload rfl rfl rfl ?_
  refine Ev_getI rfl (by first | rfl | assumption) ?_
  refine Ev_norm (by rw [sR_0]; exact pk_us : _ = nI (nx x)) ?_
  refine Ev_const rfl ?_
  refine Ev_idiv rfl (by decide : ¬ (64 : Int32) = 0) ?_
  refine Ev_norm (pk_div (a := nx x) (d := 64) (by omega) (by decide) (by decide) : _ = nI (nx x / 64)) ?_
  refine Ev_iload rfl rfl ?_
  refine Ev_irem rfl (nI_ne0 hm.1 (by omega)) ?_
  refine Ev_norm (pk_rem (by omega) hm.1 (by omega)) ?_
  refine Ev_goto rfl ?_
  exact Ev_ireturn rfl rfl rfl rfl ⟨rfl, rfl, rfl⟩
theorem m_drawOf (d : Nat) {ρ : Rf} {σ : St} {x m : Nat} (hx : σ.2 326 75 = lI ((x : Nat) : Int)) (hx2 : x < 2147483648) (hm : 0 < m ∧ m ≤ 1000) : T l X d 260 [.ref 326, .int (nI m)] 402 402 ρ σ (Rs (.int (nI (dr (nx x) m))) ρ (sL σ 326 (vp_updL (σ.2 326) 75 (lI ((nx x : Nat) : Int))))) := by
  have h1 := nx_lt x
  refine T_of rfl ?_
  refine Ev_aload rfl rfl rfl ?_
  refine Ev_constL rfl ?_
  refine Ev_aload rfl rfl rfl ?_
  refine Ev_getL rfl (by first | rfl | assumption) ?_
  refine Ev_normL hx ?_
  refine Ev_lmul rfl ?_
  refine Ev_constL rfl ?_
  refine Ev_ladd rfl ?_
  refine Ev_constL rfl ?_
  refine Ev_lrem rfl (by decide : ¬ (2147483648 : Int64) = 0) ?_
  refine Ev_normL (nx_M hx2) ?_
  refine Ev_putL rfl (by first | rfl | assumption) rfl rfl ?_
  refine Ev_aload rfl rfl rfl ?_
  refine Ev_getL rfl (by first | rfl | assumption) ?_
  refine Ev_normL (by rw [sL_2, if_pos rfl]; exact if_pos rfl : _ = lN (nx x)) ?_
  refine Ev_constL rfl ?_
  refine Ev_ldiv rfl (by decide : ¬ (64 : Int64) = 0) ?_
  refine Ev_normL (pk_lDiv (a := nx x) (b := 64) (by omega) (by decide) (by decide) : _ = lN (nx x / 64)) ?_
  refine Ev_iload rfl rfl ?_
  refine Ev_i2l rfl ?_
  refine Ev_normL (nI_l (by omega) : _ = lN m) ?_
  refine Ev_lrem rfl (fun q => by have := (pk_lEQ (a := m) (b := 0) (by omega) (by decide)).mp q; omega) ?_
  refine Ev_normL (pk_lRem (by omega) hm.1 (by omega)) ?_
  refine Ev_l2i rfl ?_
  refine Ev_norm (lN_i _) ?_
  exact Ev_ireturn rfl rfl rfl rfl ⟨rfl, rfl, rfl⟩
/-- the class: its own seed too -/
def cS (k j : Nat) : Bool := cP k j || c0 16 k j
theorem cS_P {k j : Nat} (h : cS k j = false) : cP k j = false := by unfold cS at h; rw [Bool.or_eq_false_iff] at h; exact h.1
theorem cS_0 {k j : Nat} (h : cS k j = false) : c0 16 k j = false := by unfold cS at h; rw [Bool.or_eq_false_iff] at h; exact h.2
theorem CNow.eq0 {σ : St} {B : Bh} {h : Nat} {S : Str} {P : Nat → Nat} {K : Nat × (Nat → Nat)} (H : CNow σ B h S P K) (f : Nat → Int32) : CNow (sI σ 0 f) B h S P K := (CMo.eq H.mo (fun r _ => sR_1 _ _ (by omega))).now
theorem CRd.eq0 {ρ : Rf} {σ : St} {q : Nat} {B : Bh} (H : CRd ρ σ q B) (f : Nat → Int32) : CRd ρ (sI σ 0 f) q B := H.eq (fun k hk => sR_1 _ _ (by omega)) ρ H.1 rfl
theorem ch_loop {d n q : Nat} {ρ : Rf} {B : Bh} {h : Nat} {s : Ch} {P : Nat → Nat} (hb : ρ 0 2 = some q) (hW : WfN B) (hWt : WfT B) (hWf : WfF B) (hP : WfP B P) (h1 : WfS B s.1) (h2 : s.2.1.1 ≤ 40) (h3 : s.2.2.1 < 2147483648) (h4 : s.2.2.2 = 0) (hh : h + n ≤ 2000) (σ0 : St) :
    ∀ (m k : Nat) (σ : St), k + m = n → CF cS σ0 σ → CRd ρ σ q B → CNow σ B (h + k) (chN B P h k s).1 P (chN B P h k s).2.1 → σ.1 0 16 = nI (chN B P h k s).2.2.1 →
    Ev l X (d + 6) 135 32 [.ref 0, .int (nI n), .int (nI (chN B P h k s).2.2.2), .int (nI k)] [] 402 402 402 ρ σ (fun v ρ' σ' => v = some (.int (nI (chN B P h n s).2.2.2)) ∧ ρ' = ρ ∧ CF cS σ0 σ' ∧ CNow σ' B (h + n) (chN B P h n s).1 P (chN B P h n s).2.1 ∧ σ'.1 0 16 = nI (chN B P h n s).2.2.1) := by
  intro m
  induction m with
  | zero =>
    intro k σ hk hs hR hN hx
    have hk : k = n := by omega
    subst hk
    refine Ev_iload rfl rfl ?_
    refine Ev_iload rfl rfl ?_
    refine Ev_icmp_ge rfl (fun h34 => ?_) (fun h34 => absurd (nI_le (Nat.le_refl _) (by omega)) h34)
    refine Ev_iload rfl rfl ?_
    exact Ev_ireturn rfl rfl rfl rfl ⟨rfl, rfl, hs, hN, hx⟩
  | succ m ih =>
    intro k σ hk hs hR hN hx
    have hρ := hR.1
    have n100 := hW.2.2.2.2
    have hsq := hR.2.2.2.1.2.2.2.2
    obtain ⟨w1, w2, w3, w4⟩ := chN_wf (h := h) hP h1 h2 h3 k
    have hd : dr (nx (chN B P h k s).2.2.1) 100 < 100 := Nat.mod_lt _ (by decide)
    refine Ev_iload rfl rfl ?_
    refine Ev_iload rfl rfl ?_
    refine Ev_icmp_ge rfl (fun h34 => absurd h34 (nI_ge (by omega) (by omega))) (fun h34 => ?_)
    refine Ev_aload rfl rfl rfl ?_
    refine Ev_const rfl ?_
    refine Ev_callV rfl rfl rfl rfl rfl (same_n 402) (t_draw _ hx w3 (m := 100) (by decide)) ?_
    rintro v40 ρ40 σ40 ⟨rfl, e40, g40⟩
    obtain rfl := e40.symm
    obtain rfl := g40.symm
    refine Ev_aload rfl rfl rfl ?_
    refine Ev_getR rfl (by first | rfl | assumption) hb ?_
    refine Ev_getI rfl (by rcases hR.2.1 with rfl | rfl <;> rfl) ?_
    refine Ev_norm (by rw [sR_1 _ _ (by have := hR.2.1; omega)]; exact hsq : _ = nI (sq B)) ?_
    refine Ev_icmp_ge rfl (fun h50 => ?_) (fun h50 => ?_)
    · refine Ev_aload rfl rfl rfl ?_
      refine Ev_getR rfl (by first | rfl | assumption) (hρ _ _ _ rfl) ?_
      refine Ev_aload rfl rfl rfl ?_
      refine Ev_getR rfl (by first | rfl | assumption) (hρ _ _ _ rfl) ?_
      refine Ev_aload rfl rfl rfl ?_
      refine Ev_getR rfl (by first | rfl | assumption) (hρ _ _ _ rfl) ?_
      refine Ev_aload rfl rfl rfl ?_
      refine Ev_getR rfl (by first | rfl | assumption) (hρ _ _ _ rfl) ?_
      refine Ev_getI rfl (by first | rfl | assumption) ?_
      refine Ev_norm (by rw [sR_1 _ _ (by decide)]; exact hN.1 : _ = nI (h + k)) ?_
      refine Ev_callV rfl rfl rfl rfl rfl (same_n 402) (t_tideAt _ (hR.eq0 _) hWf (by omega)) ?_
      rintro v96 ρ96 σ96 ⟨rfl, e96, s96, -, -⟩
      obtain rfl := e96.symm
      refine Ev_callV rfl rfl rfl rfl rfl (same_n 402) (t_passAll _ ((hR.eq0 _).cl s96) ((CMo.cf (hN.eq0 _).mo s96 (fun k j k1 k2 => cL_X (cX_f (by omega)))).now) hW hWt hWf w1 hP (by omega) (tdM_le B (h + k))) ?_
      rintro v99 ρ99 σ99 ⟨rfl, e99, s99, n99⟩
      obtain rfl := e99.symm
      refine Ev_pop rfl (fun _ q => nomatch q) ?_
      refine Ev_iincE rfl rfl (nI_1 k) ?_
      refine Ev_goto rfl ?_
      have hc : ¬ dr (nx (chN B P h k s).2.2.1) 100 < sq B := fun q => absurd h50 (nI_ge q (by omega))
      have e : chN B P h (k + 1) s = (hrS B P (chN B P h k s).1 (wit B) (h + k) (tdM B (h + k)), kpH B P (chN B P h k s).1 (wit B) (h + k) (tdM B (h + k)) (chN B P h k s).2.1, nx (chN B P h k s).2.2.1, (chN B P h k s).2.2.2) := by
        show ch1 B P (h + k) (chN B P h k s) = _
        unfold ch1 chT
        rw [if_neg hc, if_neg hc, if_neg hc]
      have := ih (k + 1) σ99 (by omega)
      rw [e] at this
      refine this ((hs.tr (CF.put _ _ rfl)).tr ((s96.wk (fun _ _ h => cL_P (cS_P h))).tr (s99.wk (fun _ _ h => cS_P h)))) (((hR.eq0 _).cl s96).cp s99) n99 ?_
      rw [s99.1 0 _ rfl, s96.1 0 _ rfl, sR_0, pk_us]
    · refine Ev_iincE rfl rfl (nI_1 _) ?_
      refine Ev_aload rfl rfl rfl ?_
      refine Ev_getR rfl (by first | rfl | assumption) (hρ _ _ _ rfl) ?_
      refine Ev_aload rfl rfl rfl ?_
      refine Ev_getR rfl (by first | rfl | assumption) (hρ _ _ _ rfl) ?_
      refine Ev_aload rfl rfl rfl ?_
      refine Ev_const rfl ?_
      refine Ev_callV rfl rfl rfl rfl rfl (same_n 402) (t_draw _ (by rw [sR_0, pk_us]) (nx_lt _) (m := 10) (by decide)) ?_
      rintro v67 ρ67 σ67 ⟨rfl, e67, g67⟩
      obtain rfl := e67.symm
      obtain rfl := g67.symm
      rw [sI_sI, sR_0]
      refine Ev_callV rfl rfl rfl rfl rfl (same_n 402) (t_passAll _ (hR.eq0 _) (hN.eq0 _) hW hWt hWf w1 hP (by omega) (show dr (nx (nx (chN B P h k s).2.2.1)) 10 ≤ 9 from by have : dr (nx (nx (chN B P h k s).2.2.1)) 10 < 10 := Nat.mod_lt _ (by decide); omega)) ?_
      rintro v70 ρ70 σ70 ⟨rfl, e70, s70, n70⟩
      obtain rfl := e70.symm
      refine Ev_pop rfl (fun _ q => nomatch q) ?_
      refine Ev_goto rfl ?_
      refine Ev_iincE rfl rfl (nI_1 k) ?_
      refine Ev_goto rfl ?_
      have hc : dr (nx (chN B P h k s).2.2.1) 100 < sq B := Decidable.byContradiction fun q => h50 (nI_le (by omega) (by omega))
      have e : chN B P h (k + 1) s = (hrS B P (chN B P h k s).1 (wit B) (h + k) (dr (nx (nx (chN B P h k s).2.2.1)) 10), kpH B P (chN B P h k s).1 (wit B) (h + k) (dr (nx (nx (chN B P h k s).2.2.1)) 10) (chN B P h k s).2.1, nx (nx (chN B P h k s).2.2.1), (chN B P h k s).2.2.2 + 1) := by
        show ch1 B P (h + k) (chN B P h k s) = _
        unfold ch1 chT
        rw [if_pos hc, if_pos hc, if_pos hc]
      have := ih (k + 1) σ70 (by omega)
      rw [e] at this
      have c2 := (CF.put (C := cS) σ (k := 0) (j := 16) (nI (nx (chN B P h k s).2.2.1)) rfl).tr (CF.put (C := cS) _ (k := 0) (j := 16) (nI (nx (nx (chN B P h k s).2.2.1))) rfl)
      rw [sI_sI, sR_0] at c2
      refine this (hs.tr (c2.tr (s70.wk (fun _ _ h => cS_P h)))) ((hR.eq0 _).cp s70) n70 ?_
      rw [s70.1 0 _ rfl, sR_0, pk_us]
theorem sX_all {q : Nat} {ρ : Rf} {σ σ' : St} {A : Ab} (H : RC q ρ σ A) (hs : CF (fun k j => cNP k j || c0 16 k j) σ σ') {N : Mo} {P : Nat × (Nat → Mo)} {x : Nat} (hn : CMo σ' 32 (aB A) N) (hp : CPas σ' (aB A) P) (hx : σ'.1 0 16 = nI x) : RC q ρ σ' (sX (sP (sN A N) P) x) := by
  have H' := H
  obtain ⟨h1, h2, h3, h4, h5, h6, h7, h8, h9, h10, h11⟩ := H
  refine H'.chg hs (fun k j hk => by
    show (cNP k j || c0 16 k j) = false
    rw [cNP_f (cX_f (by omega)) (by omega), c0_ne (by omega)]; rfl) (sX (sP (sN A N) P) x) rfl hn hp (h6.cf hs rfl (fun _ => rfl)) hx (h8.cf hs rfl (fun _ => rfl)) (fun j hj => ?_) ?_ (h11.cf hs rfl (fun _ => rfl))
  · rw [hs.1 325 j rfl]; exact h9 j hj
  · rw [hs.1 0 _ rfl, hs.1 0 _ rfl]; exact h10
end S60
