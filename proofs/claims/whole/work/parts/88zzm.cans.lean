/-! A question's answer: the class. -/
/-- one bather more: how often, in sum, at most, at least, the first, the last -/
def qSt (k b : Nat) (g v : Int) : Int := if k = 2 ∨ k = 3 then g + v else if k = 4 then (if b = 0 then v else if g < v then v else g) else if k = 5 then (if b = 0 then v else if v < g then v else g) else if v ≠ 0 ∧ (k = 1 ∨ g = -1) then (b : Int) else g
def qGo (k : Nat) (f : Nat → Int) : Nat → Int
  | 0 => if k ≤ 1 then -1 else 0
  | n + 1 => qSt k n (qGo k f n) (f n)
theorem qSt_b {k b : Nat} {g v : Int} {m : Int} (hm : 0 ≤ m) (hb : (b : Int) ≤ 1000000) (hg : -(1000000 * (m + 1)) ≤ g ∧ g ≤ 1000000 * (m + 1)) (hv : Bd v) : -(1000000 * (m + 2)) ≤ qSt k b g v ∧ qSt k b g v ≤ 1000000 * (m + 2) := by
  obtain ⟨v1, v2⟩ := hv
  unfold qSt
  repeat' split
  all_goals omega
theorem qGo_b {k : Nat} {f : Nat → Int} : ∀ n, n ≤ 6 → (∀ i, i < n → Bd (f i)) → -(1000000 * ((n : Int) + 1)) ≤ qGo k f n ∧ qGo k f n ≤ 1000000 * ((n : Int) + 1) := by
  intro n
  induction n with
  | zero => intro _ _; unfold qGo; split <;> decide
  | succ n ih =>
    intro hn hf
    have h := qSt_b (k := k) (b := n) (m := (n : Int)) (by omega) (by omega) (ih (by omega) (fun i hi => hf i (by omega))) (hf n (Nat.lt_succ_self n))
    show -(1000000 * (((n + 1 : Nat) : Int) + 1)) ≤ qSt k n (qGo k f n) (f n) ∧ _
    rw [show (((n + 1 : Nat) : Int) + 1) = (n : Int) + 2 by omega]
    exact h
theorem qGo_Bl {k : Nat} {f : Nat → Int} {n : Nat} (hn : n ≤ 6) (hf : ∀ i, i < n → Bd (f i)) : Bl (qGo k f n) := by
  have := qGo_b (k := k) n hn hf
  exact ⟨by omega, by omega⟩
theorem lI_add (a b : Int) : lI a + lI b = lI (a + b) := (Int64.ofInt_add a b).symm
theorem iI_lI {v : Int} (h : Bd v) : (iI v).toInt64 = lI v := lI_eq (by rw [l_of, z_iI h])
theorem iI_0 {v : Int} (h : Bd v) : iI v = 0 ↔ v = 0 := by
  constructor
  · intro z
    have := z_iI h
    rw [z] at this
    exact this.symm
  · intro z; rw [z]; rfl
theorem lI_max {a b : Int} (ha : Bl a) (hb : Bl b) : (if lI a < lI b then lI b else lI a) = lI (if a < b then b else a) := by
  by_cases h : a < b
  · rw [if_pos h, if_pos (Int64.lt_iff_toInt_lt.mpr (by rw [z_lL ha, z_lL hb]; exact h))]
  · rw [if_neg h, if_neg (fun z => h (by have := Int64.lt_iff_toInt_lt.mp z; rw [z_lL ha, z_lL hb] at this; exact this))]
theorem lI_min {a b : Int} (ha : Bl a) (hb : Bl b) : (if lI a < lI b then lI a else lI b) = lI (if a < b then a else b) := by
  by_cases h : a < b
  · rw [if_pos h, if_pos (Int64.lt_iff_toInt_lt.mpr (by rw [z_lL ha, z_lL hb]; exact h))]
  · rw [if_neg h, if_neg (fun z => h (by have := Int64.lt_iff_toInt_lt.mp z; rw [z_lL ha, z_lL hb] at this; exact this))]
section S88zzm
variable {l : Launch} {X : Cx} {ρ : Rf} {B : Bh} {q : Nat}
theorem t_ansTail (d : Nat) {k b : Nat} {g v : Int} {x : Value} {σ : St} {Q : Po} (hk : k ≤ 5) (hb : b ≤ 6) (hg : Bl g) (hv : Bd v) (hQ : Ev l X (d + 1) 140 221 [.ref 0, .int (nI (286 + k)), .long (lI (qSt k b g v)), .float 0, x, .int (nI b), .int (iI v)] [] 402 402 402 ρ σ Q) :
    Ev l X (d + 1) 140 116 [.ref 0, .int (nI (286 + k)), .long (lI g), .float 0, x, .int (nI b), .int (iI v)] [] 402 402 402 ρ σ Q := by
  have hvl := iI_lI hv
  have m1 : Bl (-1) := ⟨by decide, by decide⟩
  by_cases h23 : k = 2 ∨ k = 3
  · have e : qSt k b g v = g + v := by unfold qSt; rw [if_pos h23]
    rw [e] at hQ
    refine Ev_iload rfl rfl ?_
    refine Ev_const rfl ?_
    refine Ev_icmp_eq rfl (fun h120 => ?_) (fun h120 => ?_)
    · refine Ev_lload rfl rfl ?_
      refine Ev_iload rfl rfl ?_
      refine Ev_i2l rfl ?_
      refine Ev_normL hvl ?_
      refine Ev_ladd rfl ?_
      refine Ev_normL (lI_add g v) ?_
      refine Ev_lstore rfl ?_
      refine Ev_goto rfl ?_
      exact hQ
    · refine Ev_iload rfl rfl ?_
      refine Ev_const rfl ?_
      refine Ev_icmp_ne rfl (fun h127 => absurd h23 (fun z => by rcases z with rfl | rfl; exact absurd rfl h120; exact absurd rfl h127)) (fun h127 => ?_)
      refine Ev_lload rfl rfl ?_
      refine Ev_iload rfl rfl ?_
      refine Ev_i2l rfl ?_
      refine Ev_normL hvl ?_
      refine Ev_ladd rfl ?_
      refine Ev_normL (lI_add g v) ?_
      refine Ev_lstore rfl ?_
      refine Ev_goto rfl ?_
      exact hQ
  · by_cases h4 : k = 4
    · subst h4
      have e : qSt 4 b g v = if b = 0 then v else if g < v then v else g := by unfold qSt; rw [if_neg h23, if_pos rfl]
      rw [e] at hQ
      refine Ev_iload rfl rfl ?_
      refine Ev_const rfl ?_
      refine Ev_icmp_eq rfl (fun h120 => absurd h120 (by decide)) (fun h120 => ?_)
      refine Ev_iload rfl rfl ?_
      refine Ev_const rfl ?_
      refine Ev_icmp_ne rfl (fun h127 => ?_) (fun h127 => absurd h127 (by decide))
      refine Ev_iload rfl rfl ?_
      refine Ev_const rfl ?_
      refine Ev_icmp_ne rfl (fun h143 => absurd rfl h143) (fun h143 => ?_)
      refine Ev_iload rfl rfl ?_
      refine Ev_if_ne rfl (fun h148 => ?_) (fun h148 => ?_)
      · refine Ev_lload rfl rfl ?_
        refine Ev_iload rfl rfl ?_
        refine Ev_i2l rfl ?_
        refine Ev_normL hvl ?_
        refine Ev_callS rfl rfl rfl rfl (same_n 402) (t_maxL _ _ _) ?_
        rintro v161 ρ161 σ161 ⟨rfl, e161, g161⟩
        obtain rfl := e161.symm
        obtain rfl := g161.symm
        refine Ev_normL (lI_max hg (Bd_Bl hv)) ?_
        refine Ev_lstore rfl ?_
        refine Ev_goto rfl ?_
        have h0 : ¬ b = 0 := fun z => h148 (by rw [z]; rfl)
        rw [if_neg h0] at hQ
        exact hQ
      · refine Ev_iload rfl rfl ?_
        refine Ev_i2l rfl ?_
        refine Ev_normL hvl ?_
        refine Ev_goto rfl ?_
        refine Ev_lstore rfl ?_
        refine Ev_goto rfl ?_
        have h0 : b = 0 := (nI_eq (b := 0) (by omega) (by decide)).mp (Decidable.not_not.mp h148)
        rw [if_pos h0] at hQ
        exact hQ
    · by_cases h5 : k = 5
      · subst h5
        have e : qSt 5 b g v = if b = 0 then v else if v < g then v else g := by unfold qSt; rw [if_neg h23, if_neg (by decide), if_pos rfl]
        rw [e] at hQ
        refine Ev_iload rfl rfl ?_
        refine Ev_const rfl ?_
        refine Ev_icmp_eq rfl (fun h120 => absurd h120 (by decide)) (fun h120 => ?_)
        refine Ev_iload rfl rfl ?_
        refine Ev_const rfl ?_
        refine Ev_icmp_ne rfl (fun h127 => ?_) (fun h127 => absurd h127 (by decide))
        refine Ev_iload rfl rfl ?_
        refine Ev_const rfl ?_
        refine Ev_icmp_ne rfl (fun h143 => ?_) (fun h143 => absurd h143 (by decide))
        refine Ev_iload rfl rfl ?_
        refine Ev_const rfl ?_
        refine Ev_icmp_ne rfl (fun h172 => absurd rfl h172) (fun h172 => ?_)
        refine Ev_iload rfl rfl ?_
        refine Ev_if_ne rfl (fun h177 => ?_) (fun h177 => ?_)
        · refine Ev_lload rfl rfl ?_
          refine Ev_iload rfl rfl ?_
          refine Ev_i2l rfl ?_
          refine Ev_normL hvl ?_
          refine Ev_callS rfl rfl rfl rfl (same_n 402) (t_minL _ _ _) ?_
          rintro v190 ρ190 σ190 ⟨rfl, e190, g190⟩
          obtain rfl := e190.symm
          obtain rfl := g190.symm
          refine Ev_normL (lI_min (Bd_Bl hv) hg) ?_
          refine Ev_lstore rfl ?_
          refine Ev_goto rfl ?_
          have h0 : ¬ b = 0 := fun z => h177 (by rw [z]; rfl)
          rw [if_neg h0] at hQ
          exact hQ
        · refine Ev_iload rfl rfl ?_
          refine Ev_i2l rfl ?_
          refine Ev_normL hvl ?_
          refine Ev_goto rfl ?_
          refine Ev_lstore rfl ?_
          refine Ev_goto rfl ?_
          have h0 : b = 0 := (nI_eq (b := 0) (by omega) (by decide)).mp (Decidable.not_not.mp h177)
          rw [if_pos h0] at hQ
          exact hQ
      · have e : qSt k b g v = if v ≠ 0 ∧ (k = 1 ∨ g = -1) then (b : Int) else g := by unfold qSt; rw [if_neg h23, if_neg h4, if_neg h5]
        rw [e] at hQ
        have hk1 : nI (286 + k) = 287 ↔ k = 1 := (nI_eq (b := 287) (by omega) (by decide)).trans ⟨fun z => by omega, fun z => by omega⟩
        refine Ev_iload rfl rfl ?_
        refine Ev_const rfl ?_
        refine Ev_icmp_eq rfl (fun h120 => absurd ((nI_eq (b := 288) (by omega) (by decide)).mp h120) (by omega)) (fun h120 => ?_)
        refine Ev_iload rfl rfl ?_
        refine Ev_const rfl ?_
        refine Ev_icmp_ne rfl (fun h127 => ?_) (fun h127 => absurd ((nI_eq (b := 289) (by omega) (by decide)).mp (Decidable.not_not.mp h127)) (by omega))
        refine Ev_iload rfl rfl ?_
        refine Ev_const rfl ?_
        refine Ev_icmp_ne rfl (fun h143 => ?_) (fun h143 => absurd ((nI_eq (b := 290) (by omega) (by decide)).mp (Decidable.not_not.mp h143)) (by omega))
        refine Ev_iload rfl rfl ?_
        refine Ev_const rfl ?_
        refine Ev_icmp_ne rfl (fun h172 => ?_) (fun h172 => absurd ((nI_eq (b := 291) (by omega) (by decide)).mp (Decidable.not_not.mp h172)) (by omega))
        refine Ev_iload rfl rfl ?_
        refine Ev_if_eq rfl (fun h199 => ?_) (fun h199 => ?_)
        · rw [if_neg (fun z => z.1 ((iI_0 hv).mp h199))] at hQ
          exact hQ
        · refine Ev_iload rfl rfl ?_
          refine Ev_const rfl ?_
          refine Ev_icmp_eq rfl (fun h206 => ?_) (fun h206 => ?_)
          · refine Ev_iload rfl rfl ?_
            refine Ev_i2l rfl ?_
            refine Ev_normL (nI_lI b (by omega)) ?_
            refine Ev_lstore rfl ?_
            rw [if_pos ⟨fun z => h199 ((iI_0 hv).mpr z), Or.inl (hk1.mp h206)⟩] at hQ
            exact hQ
          · refine Ev_lload rfl rfl ?_
            refine Ev_constL rfl ?_
            refine Ev_normL (show _ = lI (-1) from rfl) ?_
            refine Ev_lcmp rfl ?_
            refine Ev_if_ne rfl (fun h214 => ?_) (fun h214 => ?_)
            · rw [if_neg (fun z => z.2.elim (fun y => h206 (hk1.mpr y)) (fun y => h214 ((c_eq hg m1).mpr y)))] at hQ
              exact hQ
            · refine Ev_iload rfl rfl ?_
              refine Ev_i2l rfl ?_
              refine Ev_normL (nI_lI b (by omega)) ?_
              refine Ev_lstore rfl ?_
              rw [if_pos ⟨fun z => h199 ((iI_0 hv).mpr z), Or.inr ((c_eq hg m1).mp (Decidable.not_not.mp h214))⟩] at hQ
              exact hQ
theorem an_loop (d : Nat) {k h : Nat} {S : Str} {cs : List Nat} {tf : Bool} {σ0 : St} {f : Nat → Int} {Q : Po} (hk : k ≤ 5) (hf : ∀ b, f b = evF (fun s => ((seeF B (S b) b (wit B b) h (tdM B h) 0 0 (rset B (S b) b (wit B b) h (tdM B h)) s : Nat) : Int)) cs) (hb0 : ρ 0 2 = some q) (hW : WfN B) (hWt : WfT B) (hWf : WfF B) (hw9 : ∀ b, wit B b ≤ 9) (hh : h ≤ 999) (hh0 : σ0.1 32 0 = nI h) (hS : ∀ b, b < 6 → RowR σ0 (34 + b) (S b)) (hSw : WfS B S) (hty : wty 4 cs [] = some [tf]) (hlen : cs.length ≤ 1600) (hO : COr σ0 319 0 cs) (hfr : σ0.1 321 4 = nI 0) (hto : σ0.1 322 4 = nI cs.length)
    (hQ : ∀ σ', CF cV σ0 σ' → CRd ρ σ' q B → Q (some (.long (lI (qGo k f (nb B))))) ρ σ') :
    ∀ (m b : Nat) (σ : St) (L : Value), b + m = nb B → CF cV σ0 σ → CRd ρ σ q B → Ev l X (d + 6) 140 41 [.ref 0, .int (nI (286 + k)), .long (lI (qGo k f b)), .float 0, .int (nI (tdM B h)), .int (nI b), L] [] 402 402 402 ρ σ Q := by
  have hb6 := hW.2.1
  have ht9 := tdM_le B h
  have hBd : ∀ b, b < nb B → Bd (f b) := fun b hb => by
    rw [hf b]
    exact (evF_ok hty (fun s hs ho => seeBd hWt (hw9 b) (by omega) ht9 (by decide) (by decide) (fun _ => hb) hb6 (fun z => absurd z (by decide)) hs ho) (fun _ s h1 h2 => by
      obtain ⟨s', rfl⟩ : ∃ s', s = s' + 10 := ⟨s - 10, by omega⟩
      show Bd ((S b s' : Nat) : Int)
      have := (hSw b s').1
      exact ⟨by omega, by omega⟩)).1
  intro m
  induction m with
  | zero =>
    intro b σ L hm hc hR
    have hq := hR.2.1
    obtain rfl : b = nb B := by omega
    refine Ev_iload rfl rfl ?_
    refine Ev_aload rfl rfl rfl ?_
    refine Ev_getR rfl (by first | rfl | assumption) hb0 ?_
    refine Ev_getI rfl (by rcases hq with rfl | rfl <;> rfl) ?_
    refine Ev_norm hR.2.2.2.1.2.2.1 ?_
    refine Ev_icmp_ge rfl (fun h50 => ?_) (fun h50 => absurd (nI_le (a := nb B) (b := nb B) (by omega) (by omega)) h50)
    refine Ev_lload rfl rfl ?_
    exact Ev_lreturn rfl rfl rfl (hQ σ hc hR)
  | succ m ih =>
    intro b σ L hm hc hR
    have hq := hR.2.1
    have hρ := hR.1
    have hbn : b < nb B := by omega
    have hwt : ∀ σ1, CF cL σ σ1 → σ1.1 (q + 7) b = nI (wit B b) := fun σ1 h1 => by rw [h1.1 (q + 7) b (by rcases hq with rfl | rfl <;> rfl)]; exact (hR.2.2.2.2.1.2 b hbn).2
    have hrow : RowR σ (34 + b) (S b) := fun i hi => by rw [hc.1 _ _ (cV_k (by omega))]; exact hS b (by omega) i hi
    have hhr : σ.1 32 0 = nI h := by rw [hc.1 _ _ (cV_k (by decide))]; exact hh0
    refine Ev_iload rfl rfl ?_
    refine Ev_aload rfl rfl rfl ?_
    refine Ev_getR rfl (by first | rfl | assumption) hb0 ?_
    refine Ev_getI rfl (by rcases hq with rfl | rfl <;> rfl) ?_
    refine Ev_norm hR.2.2.2.1.2.2.1 ?_
    refine Ev_icmp_ge rfl (fun h50 => absurd h50 (nI_ge (by omega) (by omega))) (fun h50 => ?_)
    refine Ev_aload rfl rfl rfl ?_
    refine Ev_getR rfl (by first | rfl | assumption) (hρ _ _ _ rfl) ?_
    refine Ev_aload rfl rfl rfl ?_
    refine Ev_getR rfl (by first | rfl | assumption) (hρ _ _ _ rfl) ?_
    refine Ev_getR rfl (by first | rfl | assumption) (hρ _ _ _ rfl) ?_
    refine Ev_iload rfl rfl ?_
    refine Ev_aald (t := 4) rfl (Or.inl rfl) (by first | rfl | assumption) (vp_in_nI (n := b) (show b < 6 by omega) (by decide)) (by rw [nI_clamp (by omega)]; exact rf33 hρ (by omega) : _ = some (34 + b)) ?_
    refine Ev_iload rfl rfl ?_
    refine Ev_aload rfl rfl rfl ?_
    refine Ev_getR rfl (by first | rfl | assumption) hb0 ?_
    refine Ev_getR rfl (by rcases hq with rfl | rfl <;> rfl) (by rcases hq with rfl | rfl <;> exact hρ _ _ _ rfl : _ = some (q + 7)) ?_
    refine Ev_iload rfl rfl ?_
    refine Ev_iald rfl (by rcases hq with rfl | rfl <;> rfl) (by rcases hq with rfl | rfl <;> exact vp_in_nI (n := b) (show b < 6 by omega) (by decide)) ?_
    refine Ev_norm (by rw [nI_clamp (by omega)]; exact hwt σ (CF.rf _ _) : _ = nI (wit B b)) ?_
    refine Ev_aload rfl rfl rfl ?_
    refine Ev_getR rfl (by first | rfl | assumption) (hρ _ _ _ rfl) ?_
    refine Ev_getI rfl (by first | rfl | assumption) ?_
    refine Ev_norm hhr ?_
    refine Ev_iload rfl rfl ?_
    refine Ev_callV rfl rfl rfl rfl rfl (same_n 402) (t_settle _ hR hW hbn (rowN (by omega)) hrow (hSw.row b)) ?_
    rintro v88 ρ88 σ88 ⟨rfl, e88, s88, st83⟩
    obtain rfl := e88.symm
    refine Ev_aload rfl rfl rfl ?_
    refine Ev_getR rfl (by first | rfl | assumption) (hρ _ _ _ rfl) ?_
    refine Ev_aload rfl rfl rfl ?_
    refine Ev_getR rfl (by first | rfl | assumption) (hρ _ _ _ rfl) ?_
    refine Ev_iload rfl rfl ?_
    refine Ev_aload rfl rfl rfl ?_
    refine Ev_getR rfl (by first | rfl | assumption) (hρ _ _ _ rfl) ?_
    refine Ev_getR rfl (by first | rfl | assumption) (hρ _ _ _ rfl) ?_
    refine Ev_iload rfl rfl ?_
    refine Ev_aald (t := 4) rfl (Or.inl rfl) (by first | rfl | assumption) (vp_in_nI (n := b) (show b < 6 by omega) (by decide)) (by rw [nI_clamp (by omega)]; exact rf33 hρ (by omega) : _ = some (34 + b)) ?_
    refine Ev_callV rfl rfl rfl rfl rfl (same_n 402) (t_valueOf _ (hR.cl s88) hW hWt hWf hbn (rowN (by omega)) (fun i hi => by rw [s88.1 _ _ (cV_f (cV_k (by omega))).1]; exact hrow i hi) (hSw.row b) st83 (hw9 b) (by omega) ht9 hty hlen ((hO.cf hc (fun j => cV_k (by decide)) (fun j => cV_k (by decide))).cf s88 (fun j => (cV_f (cV_k (by decide))).1) (fun j => (cV_f (cV_k (by decide))).1)) (by rw [s88.1 _ _ (cV_f (cV_k (by decide))).1, hc.1 _ _ (cV_k (by decide))]; exact hfr) (by rw [s88.1 _ _ (cV_f (cV_k (by decide))).1, hc.1 _ _ (cV_k (by decide))]; exact hto)) ?_
    rintro v111 ρ111 σ111 ⟨rfl, e111, s111, r106⟩
    obtain rfl := e111.symm
    refine Ev_istore rfl ?_
    rw [← hf b]
    refine t_ansTail (d + 5) hk (by omega) (qGo_Bl (by omega) (fun i hi => hBd i (by omega))) (hBd b hbn) ?_
    refine Ev_iincE rfl rfl (nI_1 b) ?_
    refine Ev_goto rfl ?_
    exact ih (b + 1) σ111 _ (by omega) ((hc.tr (cL_V s88)).tr s111) r106
theorem t_answer (d : Nat) {k h : Nat} {S : Str} {cs : List Nat} {tf : Bool} {σ : St} {f : Nat → Int} (hk : k ≤ 5) (hf : ∀ b, f b = evF (fun s => ((seeF B (S b) b (wit B b) h (tdM B h) 0 0 (rset B (S b) b (wit B b) h (tdM B h)) s : Nat) : Int)) cs) (hb0 : ρ 0 2 = some q) (hR : CRd ρ σ q B) (hW : WfN B) (hWt : WfT B) (hWf : WfF B) (hw9 : ∀ b, wit B b ≤ 9) (hh : h ≤ 999) (hh0 : σ.1 32 0 = nI h) (hS : ∀ b, b < 6 → RowR σ (34 + b) (S b)) (hSw : WfS B S) (hty : wty 4 cs [] = some [tf]) (hlen : cs.length ≤ 1600) (hO : COr σ 319 0 cs) (hfr : σ.1 321 4 = nI 0) (hto : σ.1 322 4 = nI cs.length) :
    T l X (d + 6) 140 [.ref 0, .int (nI (286 + k))] 402 402 ρ σ (fun v ρ' σ' => v = some (.long (lI (qGo k f (nb B)))) ∧ ρ' = ρ ∧ CF cV σ σ' ∧ CRd ρ σ' q B) := by
  have hρ := hR.1
  have go : ∀ g, g = lI (qGo k f 0) → Ev l X (d + 6) 140 22 [.ref 0, .int (nI (286 + k)), .long g, .float 0, .float 0, .float 0, .float 0] [] 402 402 402 ρ σ (fun v ρ' σ' => v = some (.long (lI (qGo k f (nb B)))) ∧ ρ' = ρ ∧ CF cV σ σ' ∧ CRd ρ σ' q B) := by
    intro g hg
    subst hg
    refine Ev_aload rfl rfl rfl ?_
    refine Ev_getR rfl (by first | rfl | assumption) (hρ _ _ _ rfl) ?_
    refine Ev_aload rfl rfl rfl ?_
    refine Ev_getR rfl (by first | rfl | assumption) (hρ _ _ _ rfl) ?_
    refine Ev_getI rfl (by first | rfl | assumption) ?_
    refine Ev_norm hh0 ?_
    refine Ev_callV rfl rfl rfl rfl rfl (same_n 402) (t_tideAt _ hR hWf (by omega)) ?_
    rintro v33 ρ33 σ33 ⟨rfl, e33, s33, -, -⟩
    obtain rfl := e33.symm
    refine Ev_istore rfl ?_
    refine Ev_const rfl ?_
    refine Ev_istore rfl ?_
    exact an_loop d (σ0 := σ) hk hf hb0 hW hWt hWf hw9 hh hh0 hS hSw hty hlen hO hfr hto (fun σ' h1 h2 => ⟨rfl, rfl, h1, h2⟩) (nb B) 0 σ33 _ (Nat.zero_add _) (cL_V s33) (hR.cl s33)
  have e0 : qGo k f 0 = if k ≤ 1 then -1 else 0 := rfl
  refine T_of rfl ?_
  refine Ev_iload rfl rfl ?_
  refine Ev_const rfl ?_
  refine Ev_icmp_eq rfl (fun h4 => ?_) (fun h4 => ?_)
  · refine Ev_constL rfl ?_
    refine Ev_goto rfl ?_
    refine Ev_lstore rfl ?_
    refine go _ ?_
    have hz : 286 + k = 286 := (nI_eq (b := 286) (by omega) (by decide)).mp h4
    rw [e0, if_pos (by omega)]; rfl
  · refine Ev_iload rfl rfl ?_
    refine Ev_const rfl ?_
    refine Ev_icmp_ne rfl (fun h11 => ?_) (fun h11 => ?_)
    · refine Ev_constL rfl ?_
      refine Ev_lstore rfl ?_
      refine go _ ?_
      have hz : ¬ k = 0 := fun z => h4 (by rw [z]; rfl)
      have hz1 : ¬ k = 1 := fun z => h11 (by rw [z]; rfl)
      rw [e0, if_neg (by omega)]; rfl
    · refine Ev_constL rfl ?_
      refine Ev_goto rfl ?_
      refine Ev_lstore rfl ?_
      refine go _ ?_
      have hz : 286 + k = 287 := (nI_eq (b := 287) (by omega) (by decide)).mp (Decidable.not_not.mp h11)
      rw [e0, if_pos (by omega)]; rfl
end S88zzm
