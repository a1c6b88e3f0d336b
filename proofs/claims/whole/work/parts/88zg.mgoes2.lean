/-! A formula read by the reference: signs between parts. -/
theorem tk_len (p : Nat → Bool) (w : List Nat) : (tkW p w).length + (drW p w).length = w.length := by
  induction w with
  | nil => rfl
  | cons e w ih =>
    cases h : p e with
    | true => rw [(tk_y h).1, (tk_y h).2, List.length_cons, List.length_cons]; omega
    | false => rw [(tk_n h).1, (tk_n h).2]; exact Nat.zero_add _
theorem cnt_dr (p : Nat → Bool) (v : List Nat) : ∀ w, cntO (drW p w ++ v) ≤ cntO (w ++ v) := by
  intro w
  induction w with
  | nil => exact Nat.le_refl _
  | cons e w ih =>
    cases h : p e with
    | true =>
      rw [(tk_y h).2]
      refine Nat.le_trans ih ?_
      show cntO (w ++ v) ≤ (bif isOpn e then cntO (w ++ v) + 1 else cntO (w ++ v))
      cases isOpn e
      · exact Nat.le_refl _
      · exact Nat.le_succ _
    | false => rw [(tk_n h).2]; exact Nat.le_refl _
theorem okS_dr (p : Nat → Bool) : ∀ w, okS w → okS (drW p w) := by
  intro w
  induction w with
  | nil => exact fun h => h
  | cons e w ih =>
    intro h
    cases hp : p e with
    | true => rw [(tk_y hp).2]; exact ih (okS_c h).2
    | false => rw [(tk_n hp).2]; exact h
theorem MPq.mk {σ σ' : St} {out out' W W' : List Nat} {o : Nat} (H : MPq σ out W o) (h : MPc σ' out' W') (ho : σ'.1 326 103 = σ.1 326 103) (hc : cntO W' ≤ cntO W) : MPq σ' out' W' o := ⟨h, by rw [ho]; exact H.2.1, Nat.le_trans hc H.2.2.1, H.2.2.2⟩
section S88zg
variable {l : Launch} {X : Cx} {ρ : Rf} {U : Tx}
theorem m_goMu (d : Nat) {σ : St} {v out w : List Nat} {o a : Nat} (hρ : RF ρ) (hT : TxW U) (hv : okT v) (ha : a < U.1) (H : MTt σ U (.inr (a + 1, 0))) (hb : σ.1 326 104 = nI v.length) (hq : MPq σ out (w ++ v) o) (ho : okS w) (hl : out.length + (w ++ v).length ≤ a) (L1 : Value) :
    Ev l X (d + 2) 274 140 [.ref 326, L1] [] 402 402 402 ρ σ (fun v' ρ' σ' => v' = some (.int 1) ∧ ρ' = ρ ∧ MYs σ' U v (.inr (a + 1, 0), out ++ tkW isMu w, (if U.2 a = 42 then 38 else 39) :: drW isMu w, o) ∧ MB σ σ') := by
  have h16 := hT.1
  have h256 := hT.2 a
  have hlw : (w ++ v).length = w.length + v.length := List.length_append
  have hld : (drW isMu w ++ v).length = (drW isMu w).length + v.length := List.length_append
  have htl := tk_len isMu w
  have fin : ∀ (t : Nat) (x : Int32), t = (if U.2 a = 42 then 38 else 39) → x = nI (ec t) → Ev l X (d + 2) 274 162 [.ref 326, .int x] [] 402 402 402 ρ σ (fun v' ρ' σ' => v' = some (.int 1) ∧ ρ' = ρ ∧ MYs σ' U v (.inr (a + 1, 0), out ++ tkW isMu w, (if U.2 a = 42 then 38 else 39) :: drW isMu w, o) ∧ MB σ σ') := by
    intro t x ht hx
    rw [← ht]
    have ht2 : t = 38 ∨ t = 39 := by rw [ht]; split <;> omega
    have hmem : t ∈ [34, 35, 36, 37, 38, 39, 1020, 1021, 1022, 1023, 1024] := by rcases ht2 with z | z <;> (rw [z]; decide)
    have hnop : isOpn t = false := by rcases ht2 with z | z <;> (rw [z]; rfl)
    refine m_dropMu d hρ hv x w out σ hq.1 ho (by omega) (fun σ1 h1 c1 => ?_)
    refine (m_pushMu d hρ h1 (by omega) hx).mono (fun v' ρ' σ' h => ⟨h.1, h.2.1, ⟨(H.mz c1.z).mz h.2.2.2.z, ?_, fun _ => ⟨hq.mk h.2.2.1 ?_ ?_, okS_p hmem (okS_dr _ w ho), ?_⟩, fun z => by cases z⟩, c1.b.tr h.2.2.2.b⟩)
    · rw [h.2.2.2.2.2 _ rfl, c1.2.2 _ rfl]; exact hb
    · rw [h.2.2.2.2.2 _ rfl, c1.2.2 _ rfl]
    · exact Nat.le_trans (Nat.le_of_eq (show cntO (t :: (drW isMu w ++ v)) = cntO (drW isMu w ++ v) from cnt_n hnop)) (cnt_dr _ _ _)
    · show (out ++ tkW isMu w).length + ((drW isMu w ++ v).length + 1) ≤ a + 1
      rw [List.length_append]
      omega
  refine Ev_aload rfl rfl rfl ?_
  refine Ev_getR rfl (by first | rfl | assumption) (hρ _ _ _ rfl) ?_
  refine Ev_aload rfl rfl rfl ?_
  refine Ev_getI rfl (by first | rfl | assumption) ?_
  refine Ev_norm H.at0 ?_
  refine Ev_const rfl ?_
  refine Ev_isub rfl ?_
  refine Ev_norm (pk_s1 a) ?_
  refine Ev_iald rfl (by first | rfl | assumption) (vp_in_nI (n := a) (show a < 1600 by omega) (by decide)) ?_
  refine Ev_norm (by rw [nI_clamp (by omega)]; exact H.2.1 _ ha : _ = nI (U.2 a)) ?_
  refine Ev_const rfl ?_
  refine Ev_icmp_ne rfl (fun h153 => ?_) (fun h153 => ?_)
  · refine Ev_const rfl ?_
    refine Ev_istore rfl ?_
    exact fin 39 _ (by rw [if_neg (fun z => h153 (by rw [z]; rfl))]) rfl
  · refine Ev_const rfl ?_
    refine Ev_goto rfl ?_
    refine Ev_istore rfl ?_
    exact fin 38 _ (by rw [if_pos ((nI_eq (b := 42) (by omega) (by decide)).mp (Decidable.not_not.mp h153))]) rfl
theorem m_goAr (d : Nat) {σ : St} {v out w : List Nat} {o a : Nat} (hρ : RF ρ) (hT : TxW U) (hv : okT v) (ha : a < U.1) (H : MTt σ U (.inr (a + 1, 0))) (hb : σ.1 326 104 = nI v.length) (hq : MPq σ out (w ++ v) o) (ho : okS w) (hl : out.length + (w ++ v).length ≤ a) (L1 : Value) :
    Ev l X (d + 2) 274 225 [.ref 326, L1] [] 402 402 402 ρ σ (fun v' ρ' σ' => v' = some (.int 1) ∧ ρ' = ρ ∧ MYs σ' U v (.inr (a + 1, 0), out ++ tkW isAr w, (if U.2 a = 43 then 36 else 37) :: drW isAr w, o) ∧ MB σ σ') := by
  have h16 := hT.1
  have h256 := hT.2 a
  have hlw : (w ++ v).length = w.length + v.length := List.length_append
  have hld : (drW isAr w ++ v).length = (drW isAr w).length + v.length := List.length_append
  have htl := tk_len isAr w
  have fin : ∀ (t : Nat) (x : Int32), t = (if U.2 a = 43 then 36 else 37) → x = nI (ec t) → Ev l X (d + 2) 274 247 [.ref 326, .int x] [] 402 402 402 ρ σ (fun v' ρ' σ' => v' = some (.int 1) ∧ ρ' = ρ ∧ MYs σ' U v (.inr (a + 1, 0), out ++ tkW isAr w, (if U.2 a = 43 then 36 else 37) :: drW isAr w, o) ∧ MB σ σ') := by
    intro t x ht hx
    rw [← ht]
    have ht2 : t = 36 ∨ t = 37 := by rw [ht]; split <;> omega
    have hmem : t ∈ [34, 35, 36, 37, 38, 39, 1020, 1021, 1022, 1023, 1024] := by rcases ht2 with z | z <;> (rw [z]; decide)
    have hnop : isOpn t = false := by rcases ht2 with z | z <;> (rw [z]; rfl)
    refine m_dropAr d hρ hv x w out σ hq.1 ho (by omega) (fun σ1 h1 c1 => ?_)
    refine (m_pushAr d hρ h1 (by omega) hx).mono (fun v' ρ' σ' h => ⟨h.1, h.2.1, ⟨(H.mz c1.z).mz h.2.2.2.z, ?_, fun _ => ⟨hq.mk h.2.2.1 ?_ ?_, okS_p hmem (okS_dr _ w ho), ?_⟩, fun z => by cases z⟩, c1.b.tr h.2.2.2.b⟩)
    · rw [h.2.2.2.2.2 _ rfl, c1.2.2 _ rfl]; exact hb
    · rw [h.2.2.2.2.2 _ rfl, c1.2.2 _ rfl]
    · exact Nat.le_trans (Nat.le_of_eq (show cntO (t :: (drW isAr w ++ v)) = cntO (drW isAr w ++ v) from cnt_n hnop)) (cnt_dr _ _ _)
    · show (out ++ tkW isAr w).length + ((drW isAr w ++ v).length + 1) ≤ a + 1
      rw [List.length_append]
      omega
  refine Ev_aload rfl rfl rfl ?_
  refine Ev_getR rfl (by first | rfl | assumption) (hρ _ _ _ rfl) ?_
  refine Ev_aload rfl rfl rfl ?_
  refine Ev_getI rfl (by first | rfl | assumption) ?_
  refine Ev_norm H.at0 ?_
  refine Ev_const rfl ?_
  refine Ev_isub rfl ?_
  refine Ev_norm (pk_s1 a) ?_
  refine Ev_iald rfl (by first | rfl | assumption) (vp_in_nI (n := a) (show a < 1600 by omega) (by decide)) ?_
  refine Ev_norm (by rw [nI_clamp (by omega)]; exact H.2.1 _ ha : _ = nI (U.2 a)) ?_
  refine Ev_const rfl ?_
  refine Ev_icmp_ne rfl (fun h238 => ?_) (fun h238 => ?_)
  · refine Ev_const rfl ?_
    refine Ev_istore rfl ?_
    exact fin 37 _ (by rw [if_neg (fun z => h238 (by rw [z]; rfl))]) rfl
  · refine Ev_const rfl ?_
    refine Ev_goto rfl ?_
    refine Ev_istore rfl ?_
    exact fin 36 _ (by rw [if_pos ((nI_eq (b := 43) (by omega) (by decide)).mp (Decidable.not_not.mp h238))]) rfl
end S88zg
