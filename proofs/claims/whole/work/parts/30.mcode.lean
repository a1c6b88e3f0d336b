/-! A formula's value on the reference's side. -/
def TelQ (ρ : Rf) (σ : St) (z : Int) : Po := fun v ρ' σ' => v = some (.long (lI z)) ∧ ρ' = ρ ∧ ∃ g n, σ' = MP σ g n
theorem seeBd {B : Bh} {row : Nat → Nat} {W h tide k a i v R s : Nat} (hWt : WfT B) (hW9 : W ≤ 9) (hh : h ≤ 2000) (ht : tide ≤ 9) (hv : v ≤ 99) (hk : k < 5) (ha : k ≠ 0 → a < nb B) (ha6 : nb B ≤ 6) (hi : k = 1 ∨ k = 2 ∨ k = 3 → i < ni B) (hs : s < 9) (ho : sOk k s = true) : Bd ((seeF B row a W h tide i v R s : Nat) : Int) := by
  rcases (by omega : s = 0 ∨ s = 1 ∨ s = 2 ∨ s = 3 ∨ s = 4 ∨ s = 5 ∨ s = 6 ∨ s = 7 ∨ s = 8) with rfl | rfl | rfl | rfl | rfl | rfl | rfl | rfl | rfl
  · show Bd (h : Int); exact ⟨by omega, by omega⟩
  · show Bd (dep B i : Int); have := (hWt.1 i (hi (so_1 k hk ho))).1; exact ⟨by omega, by omega⟩
  · show Bd (W : Int); exact ⟨by omega, by omega⟩
  · show Bd (pc (kset (ni B) row) : Int); have := pc_le (kset (ni B) row); exact ⟨by omega, by omega⟩
  · show Bd (lun B a : Int); have := (hWt.2.1 a (ha (so_4 k hk ho))).1; exact ⟨by omega, by omega⟩
  · show Bd (tide : Int); exact ⟨by omega, by omega⟩
  · show Bd (v : Int); exact ⟨by omega, by omega⟩
  · show Bd ((bif rtd B (kset (ni B) row) i then 1 else 0 : Nat) : Int)
    cases rtd B (kset (ni B) row) i <;> exact ⟨by decide, by decide⟩
  · show Bd (a : Int); have := ha (so_8 k hk ho); exact ⟨by omega, by omega⟩
section S30
variable {l : Launch} {X : Cx} {ρ : Rf} {σ : St} {B : Bh} {S : Str} {W : Nat → Nat}
theorem w_loop {d b h tide k a i v R : Nat} (hρ : RF ρ) (hk : k < 4) (hb : b ≤ 1600) (he : σ.1 363 (4 + k) = nI b) (hA : MAll σ B S W h tide k a i v) (hW : WfN B) (hWt : WfT B) (hbd : ∀ b i, S b i ≤ 99) (hWb : ∀ b, W b ≤ 9) (hh : h ≤ 2000) (ht : tide ≤ 9) (hv : v ≤ 99) {tf : List Bool} (htf : tf ≠ []) :
    ∀ (cs : List Nat) (j : Nat) (st : List Int) (ts : List Bool) (g : Nat → Int64) (w : Value), j + cs.length = b → (∀ q, q < cs.length → σ.1 364 (1600 + (j + q)) = nI (mc (cs.getD q 0))) → wty k cs ts = some tf → ts.length ≤ 64 → OkS st ts → PileL g st →
      VM l X d k j w ρ σ g st.length (TelQ ρ σ ((evs (fun s => ((seeF B (S a) a (W a) h tide i v R s : Nat) : Int)) cs st).getLastD 0)) := by
  have hB : ∀ s, s < 9 → sOk k s = true → Bd ((seeF B (S a) a (W a) h tide i v R s : Nat) : Int) := fun s hs ho => seeBd hWt (hWb a) hh ht hv (by omega) (fun q => (hA.2.2.2.2.2.2.1 q).2) hW.2.1 (fun q => (hA.2.2.2.2.2.2.2.1 q).2) hs ho
  have hB2 : k = 4 → ∀ s, 10 ≤ s → s < 18 → Bd ((seeF B (S a) a (W a) h tide i v R s : Nat) : Int) := fun q => absurd q (by omega)
  intro cs
  induction cs with
  | nil =>
    intro j st ts g w hj hc hty hl hks hp
    simp only [List.length_nil, Nat.add_zero] at hj
    have hty : some ts = some tf := hty
    have hne : 0 < st.length := by
      rw [OkS_len hks, Option.some.inj hty]
      match tf, htf with
      | [], q => exact absurd rfl q
      | _ :: _, _ => exact Nat.succ_pos _
    show VM l X d k j w ρ σ g st.length (TelQ ρ σ (st.getLastD 0))
    refine Ev_iload rfl rfl ?_
    refine Ev_aload rfl rfl rfl ?_
    refine Ev_getR rfl (by first | rfl | assumption) (hρ _ _ _ rfl) ?_
    refine Ev_const rfl ?_
    refine Ev_iload rfl rfl ?_
    refine Ev_iadd rfl ?_
    refine Ev_norm (nI_add 4 k) ?_
    refine Ev_iald rfl (by first | rfl | assumption) (vp_in_nI (n := 4 + k) (show 4 + k < 8 by omega) (by decide)) ?_
    refine Ev_norm (by rw [nI_clamp (by omega), MP_q _ _ _ (by decide)]; exact he : _ = nI b) ?_
    refine Ev_icmp_ge rfl (fun h28 => ?_) (fun h28 => absurd (nI_le (a := b) (b := j) (by omega) (by omega)) h28)
    refine Ev_aload rfl rfl rfl ?_
    refine Ev_getR rfl (by first | rfl | assumption) (hρ _ _ _ rfl) ?_
    refine Ev_const rfl ?_
    refine Ev_lald rfl (by first | rfl | assumption) (vp_in_nI (n := 0) (by decide) (by decide)) ?_
    exact Ev_lreturn rfl rfl rfl ⟨by rw [← hp.bot hne]; rfl, rfl, g, st.length, rfl⟩
  | cons t cs ih =>
    intro j st ts g w hj hc hty hl hks hp
    rw [List.length_cons] at hj
    unfold wty at hty
    cases hw : wt1 k t ts with
    | none => rw [hw] at hty; cases hty
    | some ts' =>
      rw [hw] at hty
      have hst := stp_ok (see := fun s => ((seeF B (S a) a (W a) h tide i v R s : Nat) : Int)) hw hks hB hB2
      have hl' := wt1_len hw hl
      have hlen := OkS_len hks
      have hc0 : σ.1 364 (1600 + j) = nI (mc t) := hc 0 (by rw [List.length_cons]; omega)
      have hbj : j < b := by omega
      have next : ∀ (x : Int) (r : List Int) (w' : Value) (n : Nat), stp (fun s => ((seeF B (S a) a (W a) h tide i v R s : Nat) : Int)) t st = x :: r → n = r.length → PileL g r → VM l X d k (j + 1) w' ρ σ (vp_updL g n (lI x)) (n + 1) (TelQ ρ σ ((evs (fun s => ((seeF B (S a) a (W a) h tide i v R s : Nat) : Int)) (t :: cs) st).getLastD 0)) := by
        intro x r w' n hv' hn hr
        subst hn
        have hx := ih (j + 1) (x :: r) ts' (vp_updL g r.length (lI x)) w' (by omega) (fun q hq => by
          rw [show j + 1 + q = j + (q + 1) by omega, hc (q + 1) (by rw [List.length_cons]; omega)]
          rfl) hty hl' (hv' ▸ hst) (hr.push x)
        show VM l X d k (j + 1) w' ρ σ (vp_updL g r.length (lI x)) (r.length + 1) (TelQ ρ σ ((evs _ cs (stp (fun s => ((seeF B (S a) a (W a) h tide i v R s : Nat) : Int)) t st)).getLastD 0))
        rw [hv']
        exact hx
      rcases wt1_inv hw with ⟨h1, h2, h3, rfl⟩ | ⟨h0, h1, h2, h3, rfl⟩ | ⟨h1, h3, rfl⟩ | ⟨r, h1, rfl, rfl⟩ | ⟨r, h1, h2, rfl, rfl⟩ | ⟨r, h1, rfl, rfl⟩ | ⟨r, h1, rfl, rfl⟩ | ⟨r, h1, rfl, rfl⟩
      · exact w_sight (R := R) hρ hk hb hbj he hc0 (by omega) h1 h2 hA hW hWt hbd hWb hh ht hv (next _ _ _ _ (by unfold stp; rw [if_pos h1]) rfl hp)
      · exact w_number hρ hk hb hbj he hc0 (by omega) h0 h1 h2 (next ((t / 256 : Nat) : Int) _ _ _ (by unfold stp; rw [if_neg h0, if_pos h1]) rfl hp)
      · exact w_all hρ hk hb hbj he hc0 (by omega) h1 (next 1 _ _ _ (by unfold stp; rw [if_neg (by omega), if_neg (by omega), if_pos h1]) rfl hp)
      · match st, hks, hp, hlen, next with
        | x :: st, hks, hp, hlen, next =>
          exact w_not hρ hk hb hbj he hc0 (by simp only [List.length_cons] at hlen hl; omega) h1 hp.top (hks.1.2 rfl) (next _ st _ _ (by unfold stp; rw [if_neg (by omega), if_neg (by omega), if_neg (by omega), if_pos (by omega), h1]) rfl hp.tail)
        | [], hks, _, _, _ => exact hks.elim
      · exact absurd h2 (by omega)
      · match st, hks, hp, hlen, next with
        | y :: x :: st, hks, hp, hlen, next =>
          exact w_two hρ hk hb hbj he hc0 (by simp only [List.length_cons] at hlen hl; omega) (by omega) hp.tail.top hp.top hks.2.1.1 hks.1.1 (next _ st _ _ (by unfold stp; rw [if_neg (by omega), if_neg (by omega), if_neg (by omega), if_neg (by omega)]) rfl hp.tail.tail)
        | [x], hks, _, _, _ => exact hks.2.elim
        | [], hks, _, _, _ => exact hks.elim
      · match st, hks, hp, hlen, next with
        | y :: x :: st, hks, hp, hlen, next =>
          exact w_two hρ hk hb hbj he hc0 (by simp only [List.length_cons] at hlen hl; omega) (by omega) hp.tail.top hp.top hks.2.1.1 hks.1.1 (next _ st _ _ (by unfold stp; rw [if_neg (by omega), if_neg (by omega), if_neg (by omega), if_neg (by omega)]) rfl hp.tail.tail)
        | [x], hks, _, _, _ => exact hks.2.elim
        | [], hks, _, _, _ => exact hks.elim
      · match st, hks, hp, hlen, next with
        | y :: x :: st, hks, hp, hlen, next =>
          exact w_two hρ hk hb hbj he hc0 (by simp only [List.length_cons] at hlen hl; omega) (by omega) hp.tail.top hp.top hks.2.1.1 hks.1.1 (next _ st _ _ (by unfold stp; rw [if_neg (by omega), if_neg (by omega), if_neg (by omega), if_neg (by omega)]) rfl hp.tail.tail)
        | [x], hks, _, _, _ => exact hks.2.elim
        | [], hks, _, _, _ => exact hks.elim
end S30
