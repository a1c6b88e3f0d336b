/-! A formula's run on the class's pile. -/
section S24
variable {l : Launch} {X : Cx} {ρ : Rf}
theorem stp_len {see : Nat → Int} {k t : Nat} {st : List Int} {ts ts' : List Bool} (h : wt1 k t ts = some ts') (hs : OkS st ts) : (stp see t st).length = ts'.length := by
  rcases wt1_inv h with ⟨h1, _, _, rfl⟩ | ⟨h0, h1, _, _, rfl⟩ | ⟨h1, _, rfl⟩ | ⟨r, h1, rfl, rfl⟩ | ⟨r, h1, _, rfl, rfl⟩ | ⟨r, h1, rfl, rfl⟩ | ⟨r, h1, rfl, rfl⟩ | ⟨r, h1, rfl, rfl⟩
  · unfold stp; rw [if_pos h1]; simp [OkS_len hs]
  · unfold stp; rw [if_neg h0, if_pos h1]; simp [OkS_len hs]
  · unfold stp; rw [if_neg (by omega), if_neg (by omega), if_pos h1]; simp [OkS_len hs]
  · match st, hs with
    | a :: st, hs => unfold stp; rw [if_neg (by omega), if_neg (by omega), if_neg (by omega), if_pos (by omega)]; simp [OkS_len hs.2]
    | [], hs => exact hs.elim
  · match st, hs with
    | a :: st, hs => unfold stp; rw [if_neg (by omega), if_neg (by omega), if_neg (by omega), if_pos (by omega)]; simp [OkS_len hs.2]
    | [], hs => exact hs.elim
  all_goals
    match st, hs with
    | a :: b :: st, hs => unfold stp; rw [if_neg (by omega), if_neg (by omega), if_neg (by omega), if_neg (by omega)]; simp [OkS_len hs.2.2]
    | [a], hs => exact hs.2.elim
    | [], hs => exact hs.elim
theorem Bd_know {see : Nat → Int} {k t : Nat} {a : Int} (hk : k = 4) (hB : k = 4 → ∀ s, 10 ≤ s → s < 18 → Bd (see s)) (ht : t = 34 ∨ t = 35) : Bd (one see t a) := by
  unfold one
  rw [if_neg (by omega)]
  by_cases h : a < 0 ∨ 8 ≤ a
  · rw [if_pos h]; exact ⟨by decide, by decide⟩
  · rw [if_neg h]
    by_cases h2 : t = 34
    · rw [if_pos h2]
      exact hB hk _ (by omega) (by omega)
    · rw [if_neg h2]
      have : (see 9).toNat / 2 ^ a.toNat % 2 < 2 := Nat.mod_lt _ (by decide)
      exact ⟨by omega, by omega⟩
theorem one_not {see : Nat → Int} {a : Int} : one see 33 a = 0 ∨ one see 33 a = 1 := by
  unfold one
  rw [if_pos rfl]
  by_cases h : a = 0
  · rw [if_pos h]; exact Or.inr rfl
  · rw [if_neg h]; exact Or.inl rfl
theorem ite_01 {p : Prop} [Decidable p] : (if p then (1 : Int) else 0) = 0 ∨ (if p then (1 : Int) else 0) = 1 := by
  by_cases h : p
  · rw [if_pos h]; exact Or.inr rfl
  · rw [if_neg h]; exact Or.inl rfl
theorem two_num {t : Nat} {a b : Int} (h : (36 ≤ t ∧ t ≤ 39) ∨ t = 45 ∨ t = 46) (ha : Bd a) (hb : Bd b) : Bd (two t a b) := by
  rcases (by omega : t = 36 ∨ t = 37 ∨ t = 38 ∨ t = 39 ∨ t = 45 ∨ t = 46) with rfl | rfl | rfl | rfl | rfl | rfl
  · rw [show ((36 : Nat) : Int) = 36 from rfl, two36]; exact Bd_clip _
  · rw [show ((37 : Nat) : Int) = 37 from rfl, two37]; exact Bd_clip _
  · rw [show ((38 : Nat) : Int) = 38 from rfl, two38]; exact Bd_clip _
  · rw [show ((39 : Nat) : Int) = 39 from rfl, two39]; exact Bd_flo ha
  · rw [show ((45 : Nat) : Int) = 45 from rfl, two45]
    by_cases h : a < b
    · rw [if_pos h]; exact ha
    · rw [if_neg h]; exact hb
  · rw [show ((46 : Nat) : Int) = 46 from rfl, two46]
    by_cases h : b < a
    · rw [if_pos h]; exact ha
    · rw [if_neg h]; exact hb
theorem two43 (a b : Int) : two 43 a b = a * b := rfl
theorem two44 (a b : Int) : two 44 a b = if 0 < a + b then 1 else 0 := rfl
theorem two_cmp {t : Nat} {a b : Int} (h : 40 ≤ t ∧ t ≤ 42) : two t a b = 0 ∨ two t a b = 1 := by
  rcases (by omega : t = 40 ∨ t = 41 ∨ t = 42) with rfl | rfl | rfl
  · rw [show ((40 : Nat) : Int) = 40 from rfl, two40]; exact ite_01
  · rw [show ((41 : Nat) : Int) = 41 from rfl, two41]; exact ite_01
  · rw [show ((42 : Nat) : Int) = 42 from rfl, two42]; exact ite_01
theorem two_log {t : Nat} {a b : Int} (h : t = 43 ∨ t = 44) (ha : a = 0 ∨ a = 1) (hb : b = 0 ∨ b = 1) : two t a b = 0 ∨ two t a b = 1 := by
  rcases h with rfl | rfl
  · rw [show ((43 : Nat) : Int) = 43 from rfl, two43]
    rcases ha with rfl | rfl <;> rcases hb with rfl | rfl <;> simp
  · rw [show ((44 : Nat) : Int) = 44 from rfl, two44]; exact ite_01
/-- a step keeps the pile well made -/
theorem stp_ok {see : Nat → Int} {k t : Nat} {st : List Int} {ts ts' : List Bool} (h : wt1 k t ts = some ts') (hs : OkS st ts) (hB : ∀ s, s < 9 → sOk k s = true → Bd (see s)) (hB2 : k = 4 → ∀ s, 10 ≤ s → s < 18 → Bd (see s)) : OkS (stp see t st) ts' := by
  rcases wt1_inv h with ⟨h1, h2, _, rfl⟩ | ⟨h0, h1, h2, _, rfl⟩ | ⟨h1, _, rfl⟩ | ⟨r, h1, rfl, rfl⟩ | ⟨r, h1, hk, rfl, rfl⟩ | ⟨r, h1, rfl, rfl⟩ | ⟨r, h1, rfl, rfl⟩ | ⟨r, h1, rfl, rfl⟩
  · unfold stp; rw [if_pos h1]; exact OkS_1 (hB _ h1 h2) (fun q => by cases q) hs
  · unfold stp; rw [if_neg h0, if_pos h1]; exact OkS_1 ⟨by omega, by omega⟩ (fun q => by cases q) hs
  · unfold stp; rw [if_neg (by omega), if_neg (by omega), if_pos h1]; exact OkS_1 ⟨by decide, by decide⟩ (fun _ => Or.inr rfl) hs
  · match st, hs with
    | a :: st, hs => unfold stp; rw [if_neg (by omega), if_neg (by omega), if_neg (by omega), if_pos (by omega), h1]; exact OkS_1 (Bd_01 one_not) (fun _ => one_not) hs.2
    | [], hs => exact hs.elim
  · match st, hs with
    | a :: st, hs => unfold stp; rw [if_neg (by omega), if_neg (by omega), if_neg (by omega), if_pos (by omega)]; exact OkS_1 (Bd_know hk hB2 h1) (fun q => by cases q) hs.2
    | [], hs => exact hs.elim
  · match st, hs with
    | b :: a :: st, hs => unfold stp; rw [if_neg (by omega), if_neg (by omega), if_neg (by omega), if_neg (by omega)]; exact OkS_1 (two_num h1 hs.2.1.1 hs.1.1) (fun q => by cases q) hs.2.2
    | [a], hs => exact hs.2.elim
    | [], hs => exact hs.elim
  · match st, hs with
    | b :: a :: st, hs => unfold stp; rw [if_neg (by omega), if_neg (by omega), if_neg (by omega), if_neg (by omega)]; exact OkS_1 (Bd_01 (two_cmp h1)) (fun _ => two_cmp h1) hs.2.2
    | [a], hs => exact hs.2.elim
    | [], hs => exact hs.elim
  · match st, hs with
    | b :: a :: st, hs => unfold stp; rw [if_neg (by omega), if_neg (by omega), if_neg (by omega), if_neg (by omega)]; exact OkS_1 (Bd_01 (two_log h1 (hs.2.1.2 rfl) (hs.1.2 rfl))) (fun _ => two_log h1 (hs.2.1.2 rfl) (hs.1.2 rfl)) hs.2.2
    | [a], hs => exact hs.2.elim
    | [], hs => exact hs.elim
def mxd : List Bool → Prop := fun ts => ts.length ≤ 64
theorem wt1_len {k t : Nat} {ts ts' : List Bool} (h : wt1 k t ts = some ts') (hl : ts.length ≤ 64) : ts'.length ≤ 64 := by
  rcases wt1_inv h with ⟨_, _, h3, rfl⟩ | ⟨_, _, _, h3, rfl⟩ | ⟨_, h3, rfl⟩ | ⟨r, _, rfl, rfl⟩ | ⟨r, _, _, rfl, rfl⟩ | ⟨r, _, rfl, rfl⟩ | ⟨r, _, rfl, rfl⟩ | ⟨r, _, rfl, rfl⟩ <;> simp only [List.length_cons] at * <;> omega
theorem sR_1 (σ : St) {k q : Nat} (f : Nat → Int32) (h : q ≠ k) : (sI σ k f).1 q = σ.1 q := by rw [sI_1, if_neg h]
theorem sR_0 (σ : St) (k : Nat) (f : Nat → Int32) : (sI σ k f).1 k = f := by rw [sI_1, if_pos rfl]
theorem sI_self (σ : St) (k : Nat) : sI σ k (σ.1 k) = σ := by
  unfold sI
  refine Prod.ext (funext fun q => ?_) rfl
  show (if q = k then σ.1 k else σ.1 q) = σ.1 q
  by_cases h : q = k
  · rw [if_pos h, h]
  · rw [if_neg h]
theorem nI_0' {a : Nat} (h : nI a ≤ 0) (h2 : a < 2 ^ 31) : nI a = 0 := by
  have := (nI_leI (a := a) (b := 0) h2 (by decide)).mp h
  rw [show a = 0 by omega]
  rfl
theorem v_loop {d O b k kk : Nat} {see : Nat → Int} {R : Nat} (hO : OrdO ρ O) (hkk : kk < 5) (hb : b ≤ 1620) (hR : see 9 = (R : Int)) (hR2 : R < 256) (hB : ∀ s, s < 9 → sOk k s = true → Bd (see s)) (hB2 : k = 4 → ∀ s, 10 ≤ s → s < 18 → Bd (see s)) {tf : List Bool} :
    ∀ (cs : List Nat) (j : Nat) (st : List Int) (ts : List Bool) (σ : St) (w : Value), σ.1 (O + 3) kk = nI b → j + cs.length = b → (∀ q, q < cs.length → σ.1 (O + 1) (j + q) = nI (cc (cs.getD q 0))) → wty k cs ts = some tf → ts.length ≤ 64 → OkS st ts → PileR (σ.1 (O + 4)) st → (∀ s, s < 18 → σ.1 266 s = iI (see s)) →
      VL l X d O kk w st.length j ρ σ (ValQ ρ σ O ((evs see cs st).getLastD 0)) := by
  intro cs
  induction cs with
  | nil =>
    intro j st ts σ w hto hj hc ht hl hk hp hs
    simp only [List.length_nil, Nat.add_zero] at hj
    subst hj
    show VL l X d O kk w st.length j ρ σ (ValQ ρ σ O (st.getLastD 0))
    cases st with
    | nil =>
      refine Ev_iload rfl rfl ?_
      refine Ev_aload rfl rfl rfl ?_
      refine Ev_getR rfl hO.1 hO.2.2.2.2.2.2.2.2.2.2.2.2.2 ?_
      refine Ev_iload rfl rfl ?_
      refine Ev_iald rfl hO.2.2.2.2.2.2.2.2.2.2.2.1 (by rw [hO.2.2.2.2.2.2.2.2.2.2.2.2.1]; exact vp_in_nI hkk (by decide)) ?_
      refine Ev_norm (by rw [nI_clamp (by omega)]; exact hto : _ = nI j) ?_
      refine Ev_icmp_ge rfl (fun h22 => ?_) (fun h22 => absurd (nI_le (Nat.le_refl j) (by omega)) h22)
      refine Ev_iload rfl rfl ?_
      refine Ev_if_le rfl (fun h203 => ?_) (fun h203 => absurd (show (0 : Int32) ≤ 0 by decide) h203)
      refine Ev_const rfl ?_
      exact Ev_ireturn rfl rfl rfl rfl ⟨rfl, rfl, σ.1 (O + 4), (sI_self σ _).symm⟩
    | cons a st =>
      have hlen : st.length + 1 ≤ 64 := by have := OkS_len hk; simp only [List.length_cons] at this; omega
      refine Ev_iload rfl rfl ?_
      refine Ev_aload rfl rfl rfl ?_
      refine Ev_getR rfl hO.1 hO.2.2.2.2.2.2.2.2.2.2.2.2.2 ?_
      refine Ev_iload rfl rfl ?_
      refine Ev_iald rfl hO.2.2.2.2.2.2.2.2.2.2.2.1 (by rw [hO.2.2.2.2.2.2.2.2.2.2.2.2.1]; exact vp_in_nI hkk (by decide)) ?_
      refine Ev_norm (by rw [nI_clamp (by omega)]; exact hto : _ = nI j) ?_
      refine Ev_icmp_ge rfl (fun h22 => ?_) (fun h22 => absurd (nI_le (Nat.le_refl j) (by omega)) h22)
      refine Ev_iload rfl rfl ?_
      refine Ev_if_le rfl (fun h203 => absurd h203 (nI_nle (n := st.length + 1) (by omega) (by omega))) (fun h203 => ?_)
      refine Ev_aload rfl rfl rfl ?_
      refine Ev_getR rfl hO.1 hO.2.2.2.2.2.2.2.1 ?_
      refine Ev_const rfl ?_
      refine Ev_iald rfl hO.2.2.2.1 (by rw [hO.2.2.2.2.1]; exact vp_in_nI (n := 0) (by decide) (by decide)) ?_
      refine Ev_goto rfl ?_
      exact Ev_ireturn rfl rfl rfl rfl ⟨by rw [← hp.bot (by rw [List.length_cons]; omega)]; rfl, rfl, σ.1 (O + 4), (sI_self σ _).symm⟩
  | cons t cs ih =>
    intro j st ts σ w hto hj hc ht hl hk hp hs
    rw [List.length_cons] at hj
    unfold wty at ht
    cases hw : wt1 k t ts with
    | none => rw [hw] at ht; cases ht
    | some ts' =>
      rw [hw] at ht
      have hst := stp_ok (see := see) hw hk hB hB2
      have hl' := wt1_len hw hl
      have hlen := OkS_len hk
      have hc0 : σ.1 (O + 1) j = nI (cc t) := hc 0 (by rw [List.length_cons]; omega)
      have hbj : j < b := by omega
      have next : ∀ (v : Int) (r : List Int) (w' : Value) (n : Nat), stp see t st = v :: r → n = r.length → PileR (σ.1 (O + 4)) r → VL l X d O kk w' (r.length + 1) (j + 1) ρ (sI σ (O + 4) (upd (σ.1 (O + 4)) n (iI v))) (ValQ ρ σ O ((evs see (t :: cs) st).getLastD 0)) := by
        intro v r w' n hv hn hr
        subst hn
        have h := ih (j + 1) (v :: r) ts' (sI σ (O + 4) (upd (σ.1 (O + 4)) r.length (iI v))) w' (by rw [sR_1 σ _ (by omega)]; exact hto) (by omega) (fun q hq => by
          rw [sR_1 σ _ (by omega), show j + 1 + q = j + (q + 1) by omega, hc (q + 1) (by rw [List.length_cons]; omega)]
          rfl) ht hl' (hv ▸ hst) (by rw [sR_0]; exact hr.push v) (fun s hs' => by rw [sR_1 σ _ (Ne.symm hO.2.2.2.2.2.1)]; exact hs s hs')
        rw [← hv] at h
        rw [hv] at h
        refine Ev.mono h (fun v' ρ' σ' h2 => ?_)
        have h3 := ValQ_step v' ρ' σ' h2
        show ValQ ρ σ O ((evs see cs (stp see t st)).getLastD 0) v' ρ' σ'
        rw [hv]
        exact h3
      rcases wt1_inv hw with ⟨h1, h2, h3, rfl⟩ | ⟨h0, h1, h2, h3, rfl⟩ | ⟨h1, h3, rfl⟩ | ⟨r, h1, rfl, rfl⟩ | ⟨r, h1, h2, rfl, rfl⟩ | ⟨r, h1, rfl, rfl⟩ | ⟨r, h1, rfl, rfl⟩ | ⟨r, h1, rfl, rfl⟩
      · exact v_sight hO hkk hto hb hbj (by omega) hc0 h1 (hs t (by omega)) (next _ _ _ _ (by unfold stp; rw [if_pos h1]) rfl hp)
      · refine v_number hO hkk hto hb hbj (by omega) hc0 (Or.inl ⟨h1, h2⟩) ?_
        have hcc : cc t = t := if_neg (by omega)
        rw [hcc]
        exact next ((t / 256 : Nat) : Int) _ _ _ (by unfold stp; rw [if_neg h0, if_pos h1]) rfl hp
      · refine v_number hO hkk hto hb hbj (by omega) hc0 (Or.inr h1) ?_
        rw [show nI (cc t / 256) = iI 1 by rw [h1]; decide]
        exact next 1 _ _ _ (by unfold stp; rw [if_neg (by omega), if_neg (by omega), if_pos h1]) rfl hp
      · match st, hk, hp, hlen, next with
        | a :: st, hk, hp, hlen, next =>
          exact v_one hO hkk hto hb hbj (by simp only [List.length_cons] at hlen hl; omega) hc0 (Or.inl h1) hp.top hk.1.1 hs hR hR2 (next _ st _ _ (by unfold stp; rw [if_neg (by omega), if_neg (by omega), if_neg (by omega), if_pos (by omega)]) rfl hp.tail)
        | [], hk, _, _, _ => exact hk.elim
      · match st, hk, hp, hlen, next with
        | a :: st, hk, hp, hlen, next =>
          exact v_one hO hkk hto hb hbj (by simp only [List.length_cons] at hlen hl; omega) hc0 (Or.inr h1) hp.top hk.1.1 hs hR hR2 (next _ st _ _ (by unfold stp; rw [if_neg (by omega), if_neg (by omega), if_neg (by omega), if_pos (by omega)]) rfl hp.tail)
        | [], hk, _, _, _ => exact hk.elim
      · match st, hk, hp, hlen, next with
        | y :: x :: st, hk, hp, hlen, next =>
          exact v_two hO hkk hto hb hbj (by simp only [List.length_cons] at hlen hl; omega) hc0 (by omega) hp.tail.top hp.top hk.2.1.1 hk.1.1 (fun q => absurd q (by omega)) (next _ st _ _ (by unfold stp; rw [if_neg (by omega), if_neg (by omega), if_neg (by omega), if_neg (by omega)]) rfl hp.tail.tail)
        | [a], hk, _, _, _ => exact hk.2.elim
        | [], hk, _, _, _ => exact hk.elim
      · match st, hk, hp, hlen, next with
        | y :: x :: st, hk, hp, hlen, next =>
          exact v_two hO hkk hto hb hbj (by simp only [List.length_cons] at hlen hl; omega) hc0 (by omega) hp.tail.top hp.top hk.2.1.1 hk.1.1 (fun q => absurd q (by omega)) (next _ st _ _ (by unfold stp; rw [if_neg (by omega), if_neg (by omega), if_neg (by omega), if_neg (by omega)]) rfl hp.tail.tail)
        | [a], hk, _, _, _ => exact hk.2.elim
        | [], hk, _, _, _ => exact hk.elim
      · match st, hk, hp, hlen, next with
        | y :: x :: st, hk, hp, hlen, next =>
          exact v_two hO hkk hto hb hbj (by simp only [List.length_cons] at hlen hl; omega) hc0 (by omega) hp.tail.top hp.top hk.2.1.1 hk.1.1 (fun _ => ⟨hk.2.1.2 rfl, hk.1.2 rfl⟩) (next _ st _ _ (by unfold stp; rw [if_neg (by omega), if_neg (by omega), if_neg (by omega), if_neg (by omega)]) rfl hp.tail.tail)
        | [a], hk, _, _, _ => exact hk.2.elim
        | [], hk, _, _, _ => exact hk.elim
/-- the value of a formula -/
theorem t_value {d O a b k kk : Nat} {σ : St} {see : Nat → Int} {R : Nat} {cs : List Nat} {tf : List Bool} (hO : OrdO ρ O) (hkk : kk < 5) (hfr : σ.1 (O + 2) kk = nI a) (hto : σ.1 (O + 3) kk = nI b) (hab : a + cs.length = b) (hb : b ≤ 1620) (hc : ∀ q, q < cs.length → σ.1 (O + 1) (a + q) = nI (cc (cs.getD q 0))) (ht : wty k cs [] = some tf)
    (hs : ∀ s, s < 18 → σ.1 266 s = iI (see s)) (hR : see 9 = (R : Int)) (hR2 : R < 256) (hB : ∀ s, s < 9 → sOk k s = true → Bd (see s)) (hB2 : k = 4 → ∀ s, 10 ≤ s → s < 18 → Bd (see s)) :
    T l X (d + 1) 71 [.ref O, .int (nI kk), .ref 266] 402 402 ρ σ (ValQ ρ σ O (evF see cs)) := by
  refine T_of rfl ?_
  refine Ev_const rfl ?_
  refine Ev_istore rfl ?_
  refine Ev_const rfl ?_
  refine Ev_aload rfl rfl rfl ?_
  refine Ev_getR rfl hO.1 hO.2.2.2.2.2.2.2.2.2.2.1 ?_
  refine Ev_iload rfl rfl ?_
  refine Ev_iald rfl hO.2.2.2.2.2.2.2.2.1 (by rw [hO.2.2.2.2.2.2.2.2.2.1]; exact vp_in_nI hkk (by decide)) ?_
  refine Ev_norm (by rw [nI_clamp (by omega)]; exact hfr : _ = nI a) ?_
  refine Ev_callS rfl rfl rfl rfl (same_n 402) (t_max _ _ _) ?_
  rintro v9 ρ9 σ9 ⟨rfl, e9, g9⟩
  obtain rfl := e9.symm
  obtain rfl := g9.symm
  refine Ev_norm (show _ = nI a by
  by_cases h : (0 : Int32) < nI a
  · rw [if_pos h]
  · rw [if_neg h]
    have h2 := nlt_ge h
    exact (nI_0' h2 (by omega)).symm) ?_
  refine Ev_istore rfl ?_
  exact v_loop hO hkk hb hR hR2 hB hB2 cs a [] [] σ _ hto hab hc ht (by decide) trivial (PileR.nil _) hs
end S24
