/-! A change: two rows taken for one another; what it can make different. -/
def xgP (P : Nat → Nat) (j k x : Nat) : Nat := if x = 2 * j then P (2 * k) else if x = 2 * j + 1 then P (2 * k + 1) else if x = 2 * k then P (2 * j) else if x = 2 * k + 1 then P (2 * j + 1) else P x
theorem xgP_0 (P : Nat → Nat) (j k : Nat) : xgP P j k (2 * j) = P (2 * k) ∧ xgP P j k (2 * j + 1) = P (2 * k + 1) := by
  unfold xgP
  exact ⟨if_pos rfl, by rw [if_neg (by omega), if_pos rfl]⟩
theorem xgP_1 (P : Nat → Nat) (j k : Nat) : xgP P j k (2 * k) = P (2 * j) ∧ xgP P j k (2 * k + 1) = P (2 * j + 1) := by
  unfold xgP
  by_cases h : k = j
  · subst h; exact ⟨if_pos rfl, by rw [if_neg (by omega), if_pos rfl]⟩
  · exact ⟨by rw [if_neg (by omega), if_neg (by omega), if_pos rfl], by rw [if_neg (by omega), if_neg (by omega), if_neg (by omega), if_pos rfl]⟩
theorem xgP_n {P : Nat → Nat} {j k x : Nat} (h1 : x ≠ j) (h2 : x ≠ k) : xgP P j k (2 * x) = P (2 * x) ∧ xgP P j k (2 * x + 1) = P (2 * x + 1) := by
  unfold xgP
  exact ⟨by rw [if_neg (by omega), if_neg (by omega), if_neg (by omega), if_neg (by omega)], by rw [if_neg (by omega), if_neg (by omega), if_neg (by omega), if_neg (by omega)]⟩
theorem xgP_sw (P : Nat → Nat) (j k : Nat) : xgP (xgP P j k) j k = P := by
  funext x
  by_cases h : ∃ y, x = 2 * y
  · obtain ⟨y, rfl⟩ := h
    by_cases h1 : y = j
    · subst h1; rw [(xgP_0 _ _ _).1, (xgP_1 _ _ _).1]
    · by_cases h2 : y = k
      · subst h2; rw [(xgP_1 _ _ _).1, (xgP_0 _ _ _).1]
      · rw [(xgP_n h1 h2).1, (xgP_n h1 h2).1]
  · obtain ⟨y, rfl⟩ : ∃ y, x = 2 * y + 1 := ⟨x / 2, by have : ¬ x = 2 * (x / 2) := fun z => h ⟨_, z⟩; omega⟩
    by_cases h1 : y = j
    · subst h1; rw [(xgP_0 _ _ _).2, (xgP_1 _ _ _).2]
    · by_cases h2 : y = k
      · subst h2; rw [(xgP_1 _ _ _).2, (xgP_0 _ _ _).2]
      · rw [(xgP_n h1 h2).2, (xgP_n h1 h2).2]
theorem xgP_wf {B : Bh} {P : Nat → Nat} {j k : Nat} (h : WfP B P) (hj : j < np B) (hk : k < np B) : WfP B (xgP P j k) := by
  intro x hx
  by_cases h1 : x = j
  · subst h1; rw [(xgP_0 _ _ _).1, (xgP_0 _ _ _).2]; exact h k hk
  · by_cases h2 : x = k
    · subst h2; rw [(xgP_1 _ _ _).1, (xgP_1 _ _ _).2]; exact h j hj
    · rw [(xgP_n h1 h2).1, (xgP_n h1 h2).2]; exact h x hx
theorem xgP_id {P : Nat → Nat} {j k : Nat} (h1 : P (2 * j) = P (2 * k)) (h2 : P (2 * j + 1) = P (2 * k + 1)) : xgP P j k = P := by
  funext x
  unfold xgP
  by_cases a : x = 2 * j
  · rw [if_pos a, a, h1]
  · rw [if_neg a]
    by_cases b : x = 2 * j + 1
    · rw [if_pos b, b, h2]
    · rw [if_neg b]
      by_cases c : x = 2 * k
      · rw [if_pos c, c, h1]
      · rw [if_neg c]
        by_cases e : x = 2 * k + 1
        · rw [if_pos e, e, h2]
        · rw [if_neg e]
/-- who is planned when, another plan -/
theorem advB_pf {B : Bh} {P P' : Nat → Nat} {b w h : Nat} {row : Nat → Nat} : ∀ n, (∀ t, t < n → pfM B P' (h + t) b = pfM B P (h + t) b) → advB B P' b w h n row = advB B P b w h n row := by
  intro n
  induction n with
  | zero => intro _; rfl
  | succ n ih =>
    intro hp
    show hrB B (advB B P' b w h n row) b w (h + n) (tdM B (h + n)) (pfM B P' (h + n) b) = hrB B (advB B P b w h n row) b w (h + n) (tdM B (h + n)) (pfM B P (h + n) b)
    rw [ih (fun t ht => hp t (by omega)), hp n (Nat.lt_succ_self n)]
theorem pfM_n {B : Bh} {P : Nat → Nat} {j k h b : Nat} (h1 : h % np B ≠ j) (h2 : h % np B ≠ k) : pfM B (xgP P j k) h b = pfM B P h b := by
  unfold pfM
  rw [(xgP_n h1 h2).1, (xgP_n h1 h2).2]
theorem pfM_o {B : Bh} {P : Nat → Nat} {j k h b : Nat} (h1 : b ≠ P (2 * j)) (h2 : b ≠ P (2 * k)) : pfM B (xgP P j k) h b = pfM B P h b := by
  unfold pfM
  by_cases a : h % np B = j
  · rw [a, (xgP_0 _ _ _).1, (xgP_0 _ _ _).2, if_neg (Ne.symm h2), if_neg (Ne.symm h1)]
  · by_cases c : h % np B = k
    · rw [c, (xgP_1 _ _ _).1, (xgP_1 _ _ _).2, if_neg (Ne.symm h2), if_neg (Ne.symm h1)]
    · rw [(xgP_n a c).1, (xgP_n a c).2]
/-- all strengths behind so many hours -/
def sBh (B : Bh) (P : Nat → Nat) (S : Str) (W : Nat → Nat) (h n b : Nat) : Nat := sumf 8 (advB B P b (W b) h n (S b))
def sTo (B : Bh) (P : Nat → Nat) (S : Str) (W : Nat → Nat) (h n : Nat) : Nat := sumf (nb B) (sBh B P S W h n)
theorem sTo_all (B : Bh) (P : Nat → Nat) (S : Str) (W : Nat → Nat) (h n : Nat) : sAll B (adS B P W h n S) = sTo B P S W h n := by
  unfold sAll sTo
  refine sumf_congr (fun b hb => ?_)
  show _ = sumf 8 (advB B P b (W b) h n (S b))
  rw [adS_row hb]
theorem sumf_upd {g : Nat → Nat} {a v : Nat} : ∀ n, a < n → sumf n (updN g a v) + g a = sumf n g + v := by
  intro n
  induction n with
  | zero => intro h; omega
  | succ n ih =>
    intro h
    show sumf n (updN g a v) + updN g a v n + g a = sumf n g + g n + v
    by_cases hn : n = a
    · subst hn
      have e : sumf n (updN g n v) = sumf n g := sumf_congr (fun x hx => by unfold updN; rw [if_neg (by omega)])
      have e2 : updN g n v n = v := if_pos rfl
      rw [e, e2]; omega
    · have := ih (by omega)
      have e2 : updN g a v n = g n := if_neg hn
      rw [e2]; omega
/-- the rows' fold: the best so far -/
abbrev Chg : Type := Int32 × Int32 × Nat
def chU (v : Nat) (a b : Int32) (r : Chg) : Chg := if r.2.2 < v then (a, b, v) else r
def chI (f : Nat → Nat → Nat) (j : Nat) : Nat → Nat → Chg → Chg
  | 0, _, r => r
  | m + 1, k, r => chI f j m (k + 1) (chU (f j k) (nI j) (nI k) r)
def chO (f : Nat → Nat → Nat) (R : Nat) : Nat → Nat → Chg → Chg
  | 0, _, r => r
  | m + 1, j, r => chO f R m (j + 1) (chI f j (R - (j + 1)) (j + 1) r)
theorem chU_ge (v : Nat) (a b : Int32) (r : Chg) : r.2.2 ≤ (chU v a b r).2.2 := by
  unfold chU
  by_cases h : r.2.2 < v
  · rw [if_pos h]; exact Nat.le_of_lt h
  · rw [if_neg h]; exact Nat.le_refl _
theorem chU_no {v : Nat} {a b : Int32} {r : Chg} (h : v ≤ r.2.2) : chU v a b r = r := if_neg (Nat.not_lt.mpr h)
theorem chI_ge (f : Nat → Nat → Nat) (j : Nat) : ∀ (m k : Nat) (r : Chg), r.2.2 ≤ (chI f j m k r).2.2 := by
  intro m
  induction m with
  | zero => exact fun _ _ => Nat.le_refl _
  | succ m ih => exact fun k r => Nat.le_trans (chU_ge _ _ _ _) (ih (k + 1) _)
theorem chI_le {f : Nat → Nat → Nat} {j c : Nat} (hf : ∀ j k, f j k ≤ c) : ∀ (m k : Nat) (r : Chg), r.2.2 ≤ c → (chI f j m k r).2.2 ≤ c := by
  intro m
  induction m with
  | zero => exact fun _ _ h => h
  | succ m ih =>
    intro k r h
    refine ih (k + 1) _ ?_
    unfold chU
    by_cases hq : r.2.2 < f j k
    · rw [if_pos hq]; exact hf j k
    · rw [if_neg hq]; exact h
theorem sBh_le {B : Bh} {P : Nat → Nat} {S : Str} {W : Nat → Nat} {h n b : Nat} (hP : WfP B P) (hS : WfS B S) : sBh B P S W h n b ≤ 792 := by
  have := sumf_le (n := 8) (m := 99) (f := advB B P b (W b) h n (S b)) (fun k _ => (advB_w hP (hS.row b) n).1 k)
  exact this
theorem sTo_le {B : Bh} {P : Nat → Nat} {S : Str} {W : Nat → Nat} {h n : Nat} (hW : WfN B) (hP : WfP B P) (hS : WfS B S) : sTo B P S W h n ≤ 4752 := by
  have h6 := hW.2.1
  have := sumf_le (n := nb B) (m := 792) (f := sBh B P S W h n) (fun k _ => sBh_le hP hS)
  unfold sTo
  have h2 : nb B * 792 ≤ 6 * 792 := Nat.mul_le_mul_right _ h6
  omega
/-- when a row comes -/
def dueB (h R n k : Nat) : Bool := decide (0 < R ∧ fmod (nI k - nI h) (nI R) < nI n)
theorem nI_xor (a b : Nat) : nI a ^^^ nI b = nI (a ^^^ b) := by
  apply Int32.toBitVec_inj.mp
  apply BitVec.eq_of_toNat_eq
  show (BitVec.ofNat 32 a ^^^ BitVec.ofNat 32 b).toNat = (BitVec.ofNat 32 (a ^^^ b)).toNat
  rw [BitVec.toNat_xor, BitVec.toNat_ofNat, BitVec.toNat_ofNat, BitVec.toNat_ofNat, Nat.xor_mod_two_pow]
theorem bd_sub {k h : Nat} (hk : k < 16) (hh : h ≤ 999) : Bd (nI k - nI h).toInt := by
  rw [pk_sub_toInt (by omega) (by omega)]
  exact ⟨by omega, by omega⟩
theorem bd_nI {n : Nat} (hn : n ≤ 1000) : Bd (nI n).toInt := by
  rw [nI_toInt (by omega)]
  exact ⟨by omega, by omega⟩
/-- not due: no hour of these has that row -/
theorem due_no {h R n k : Nat} (hR : R ≤ 16) (hk : k < R) (hh : h ≤ 999) (hn : 0 < n) (hn2 : n ≤ 30) (hd : dueB h R n k = false) : ∀ t, t < n → (h + t) % R ≠ k := by
  intro t ht hq
  have hd : ¬ fmod (nI k - nI h) (nI R) < nI n := fun z => by
    unfold dueB at hd
    exact of_decide_eq_false hd ⟨by omega, z⟩
  apply hd
  rw [Int32.lt_iff_toInt_lt, nI_toInt (n := n) (by omega)]
  have e1 := v_rem (bd_sub (show k < 16 by omega) hh) (bd_nI (n := R) (by omega))
  rw [pk_sub_toInt (by omega) (by omega), nI_toInt (n := R) (by omega)] at e1
  have ht2 : t % R ≤ t := Nat.mod_le _ _
  by_cases hkh : h ≤ k
  · have e2 : nI k - nI h = nI (k - h) := pk_sub hkh
    have hx : 0 ≤ (nI k - nI h) ^^^ nI R := by
      rw [e2, nI_xor]
      have : (k - h) ^^^ R < 2 ^ 5 := Nat.xor_lt_two_pow (by omega) (by omega)
      exact nI_le (a := 0) (Nat.zero_le _) (by omega)
    unfold fmod
    rw [if_pos hx, e1, show ((k : Int) - (h : Int)) = ((k - h : Nat) : Int) by omega, ← Int.ofNat_tmod]
    have : (k - h) % R = t % R := by
      have a1 : (k - h) % R = k - h := Nat.mod_eq_of_lt (by omega)
      have a2 : (h + t) % R = (h % R + t % R) % R := Nat.add_mod _ _ _
      have a3 : h % R = h := Nat.mod_eq_of_lt (by omega)
      have a4 := Nat.mod_lt t (show 0 < R by omega)
      rw [a2, a3] at hq
      by_cases a5 : h + t % R < R
      · rw [Nat.mod_eq_of_lt a5] at hq; omega
      · have a6 : (h + t % R) % R = h + t % R - R := by rw [Nat.mod_eq_sub_mod (by omega), Nat.mod_eq_of_lt (by omega)]
        omega
    omega
  · -- the hour is ahead of the row
    have hc : ((k : Int) - (h : Int)) = - ((h - k : Nat) : Int) := by omega
    have e3 : ((k : Int) - (h : Int)).tmod (R : Int) = - (((h - k) % R : Nat) : Int) := by rw [hc, Int.neg_tmod, ← Int.ofNat_tmod]
    rw [e3] at e1
    have hm := Nat.mod_lt (h - k) (show 0 < R by omega)
    unfold fmod
    by_cases hx : 0 ≤ (nI k - nI h) ^^^ nI R
    · rw [if_pos hx, e1]; omega
    · rw [if_neg hx]
      by_cases hz : (nI k - nI h) - (nI k - nI h) / nI R * nI R = 0
      · rw [if_pos hz, hz]
        have : (0 : Int32).toInt = 0 := rfl
        omega
      · rw [if_neg hz]
        have hne : (h - k) % R ≠ 0 := fun z => hz (Int32.toInt_inj.mp (by rw [e1, z]; rfl))
        rw [Int32.toInt_add, e1, nI_toInt (n := R) (by omega), bm32 (by omega)]
        -- R - (h - k) % R is at most t
        have a1 : (h + t) % R = ((h - k) % R + (k + t) % R) % R := by rw [← Nat.add_mod]; congr 1; omega
        have a2 : (k + t) % R = (k + t % R) % R := by rw [Nat.add_mod, Nat.mod_eq_of_lt hk]
        have a4 := Nat.mod_lt t (show 0 < R by omega)
        generalize hmm : (h - k) % R = mm at *
        generalize hu : t % R = u at *
        rw [a1, a2] at hq
        by_cases a5 : k + u < R
        · rw [Nat.mod_eq_of_lt a5] at hq
          by_cases a6 : mm + (k + u) < R
          · rw [Nat.mod_eq_of_lt a6] at hq; omega
          · rw [Nat.mod_eq_sub_mod (by omega), Nat.mod_eq_of_lt (by omega)] at hq; omega
        · rw [show (k + u) % R = k + u - R by rw [Nat.mod_eq_sub_mod (by omega), Nat.mod_eq_of_lt (by omega)]] at hq
          by_cases a6 : mm + (k + u - R) < R
          · rw [Nat.mod_eq_of_lt a6] at hq; omega
          · rw [Nat.mod_eq_sub_mod (by omega), Nat.mod_eq_of_lt (by omega)] at hq; omega
/-- whether they make any difference -/
def smB (B : Bh) (P : Nat → Nat) (h n j k : Nat) : Bool := !(decide (P (2 * j) = P (2 * k) ∧ P (2 * j + 1) = P (2 * k + 1))) && (dueB h (np B) n j || dueB h (np B) n k)
theorem smB_no {B : Bh} {P : Nat → Nat} {S : Str} {W : Nat → Nat} {h n j k : Nat} (hW : WfN B) (hj : j < np B) (hk : k < np B) (hh : h ≤ 999) (hn : 0 < n) (hn2 : n ≤ 30) (hs : smB B P h n j k = false) : sTo B (xgP P j k) S W h n = sTo B P S W h n := by
  have n16 := hW.2.2.2.1
  unfold smB at hs
  rw [Bool.and_eq_false_iff] at hs
  rcases hs with hs | hs
  · have hq := of_decide_eq_true (by simpa using hs)
    rw [xgP_id hq.1 hq.2]
  · rw [Bool.or_eq_false_iff] at hs
    have d1 := due_no n16 hj hh hn hn2 hs.1
    have d2 := due_no n16 hk hh hn hn2 hs.2
    unfold sTo
    refine sumf_congr (fun b _ => ?_)
    unfold sBh
    rw [advB_pf n (fun t ht => pfM_n (d1 t ht) (d2 t ht))]
/-- the sum by those whom it touches -/
theorem sTo_sw {B : Bh} {P : Nat → Nat} {S : Str} {W : Nat → Nat} {h n j k : Nat} (hP : WfP B P) (hj : j < np B) (hk : k < np B) :
    (P (2 * j) = P (2 * k) → sTo B (xgP P j k) S W h n + sBh B P S W h n (P (2 * j)) = sTo B P S W h n + sBh B (xgP P j k) S W h n (P (2 * j))) ∧
    (P (2 * j) ≠ P (2 * k) → sTo B (xgP P j k) S W h n + sBh B P S W h n (P (2 * j)) + sBh B P S W h n (P (2 * k)) = sTo B P S W h n + sBh B (xgP P j k) S W h n (P (2 * j)) + sBh B (xgP P j k) S W h n (P (2 * k))) := by
  have o1 := (hP j hj).1
  have o2 := (hP k hk).1
  have oth : ∀ b, b ≠ P (2 * j) → b ≠ P (2 * k) → sBh B (xgP P j k) S W h n b = sBh B P S W h n b := fun b h1 h2 => by
    unfold sBh
    rw [advB_pf n (fun t _ => pfM_o h1 h2)]
  constructor
  · intro he
    have e : sTo B (xgP P j k) S W h n = sumf (nb B) (updN (sBh B P S W h n) (P (2 * j)) (sBh B (xgP P j k) S W h n (P (2 * j)))) := by
      unfold sTo
      refine sumf_congr (fun b _ => ?_)
      unfold updN
      by_cases hb : b = P (2 * j)
      · rw [if_pos hb, hb]
      · rw [if_neg hb]; exact oth b hb (by rw [← he]; exact hb)
    rw [e]
    exact sumf_upd (nb B) o1
  · intro he
    have e : sTo B (xgP P j k) S W h n = sumf (nb B) (updN (updN (sBh B P S W h n) (P (2 * j)) (sBh B (xgP P j k) S W h n (P (2 * j)))) (P (2 * k)) (sBh B (xgP P j k) S W h n (P (2 * k)))) := by
      unfold sTo
      refine sumf_congr (fun b _ => ?_)
      unfold updN
      by_cases hb2 : b = P (2 * k)
      · rw [if_pos hb2, hb2]
      · rw [if_neg hb2]
        by_cases hb : b = P (2 * j)
        · rw [if_pos hb, hb]
        · rw [if_neg hb]; exact oth b hb hb2
    rw [e]
    have a1 := sumf_upd (g := updN (sBh B P S W h n) (P (2 * j)) (sBh B (xgP P j k) S W h n (P (2 * j)))) (a := P (2 * k)) (v := sBh B (xgP P j k) S W h n (P (2 * k))) (nb B) o2
    have a2 := sumf_upd (g := sBh B P S W h n) (a := P (2 * j)) (v := sBh B (xgP P j k) S W h n (P (2 * j))) (nb B) o1
    have a3 : updN (sBh B P S W h n) (P (2 * j)) (sBh B (xgP P j k) S W h n (P (2 * j))) (P (2 * k)) = sBh B P S W h n (P (2 * k)) := if_neg (Ne.symm he)
    rw [a3] at a1
    unfold sTo
    omega
theorem le_sumf {g : Nat → Nat} {a : Nat} : ∀ n, a < n → g a ≤ sumf n g := by
  intro n
  induction n with
  | zero => intro h; omega
  | succ n ih =>
    intro h
    show g a ≤ sumf n g + g n
    by_cases hq : a = n
    · subst hq; omega
    · have := ih (by omega); omega
