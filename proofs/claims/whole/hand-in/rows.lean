section
theorem pk_us {f : Nat → Int32} {k : Nat} {x : Int32} : upd f k x k = x := if_pos rfl
theorem pk_un {f : Nat → Int32} {k j : Nat} {x : Int32} (h : j ≠ k) : upd f k x j = f j := if_neg h
theorem pk_uLs {f : Nat → Int64} {k : Nat} {x : Int64} : vp_updL f k x k = x := if_pos rfl
theorem pk_uLn {f : Nat → Int64} {k j : Nat} {x : Int64} (h : j ≠ k) : vp_updL f k x j = f j := if_neg h
theorem pk_sub {a b : Nat} (h : b ≤ a) : nI a - nI b = nI (a - b) := by
  obtain ⟨c, rfl⟩ : ∃ c, a = c + b := ⟨a - b, by omega⟩
  rw [← nI_add, Int32.add_sub_cancel, Nat.add_sub_cancel]
theorem pk_m1 (n : Nat) : nI (n + 1) + (-1) = nI n := by
  rw [← nI_1, Int32.add_assoc, show (1 : Int32) + (-1) = 0 from rfl, Int32.add_zero]
theorem pk_mul (a b : Nat) : nI a * nI b = nI (a * b) := (Int32.ofNat_mul a b).symm
theorem pk_div {a d : Nat} (ha : a < 2 ^ 31) (h0 : 0 < d) (hd : d < 2 ^ 31) : nI a / nI d = nI (a / d) := by
  apply Int32.toInt_inj.mp
  rw [lg_idiv_nonneg (by rw [nI_toInt ha]; omega) (by rw [nI_toInt hd]; omega), nI_toInt ha, nI_toInt hd, nI_toInt (Nat.lt_of_le_of_lt (Nat.div_le_self a d) ha)]
  first | rfl | exact (Int.natCast_ediv _ _).symm
theorem pk_rem {a d : Nat} (ha : a < 2 ^ 31) (h0 : 0 < d) (hd : d < 2 ^ 31) : nI a - nI a / nI d * nI d = nI (a % d) := by
  rw [pk_div ha h0 hd, pk_mul, pk_sub (Nat.div_mul_le_self a d)]
  exact congrArg nI (by have := Nat.div_add_mod' a d; omega)
theorem pk_ix (x : Int32) {n : Nat} (hn : n < 2 ^ 31) : x < 0 ∨ nI n ≤ x ∨ ∃ j : Nat, j < n ∧ x = nI j := by
  by_cases h : x < 0
  · exact Or.inl h
  · obtain ⟨j, hj, rfl⟩ := nI_of h
    by_cases h2 : j < n
    · exact Or.inr (Or.inr ⟨j, h2, rfl⟩)
    · exact Or.inr (Or.inl (nI_le (by omega) hj))
theorem pk_le {x y : Int32} {A B : Prop} (a b : Nat) (f : a ≤ b → A) (g : b < a → B) (hx : x = nI a := by rfl) (hy : y = nI b := by rfl) (ha : a < 2 ^ 31 := by omega) (hb : b < 2 ^ 31 := by omega) : (x ≤ y → A) ∧ (¬ x ≤ y → B) := by
  subst hx hy
  rw [nI_leI ha hb]
  exact ⟨f, fun z => g (by omega)⟩
theorem pk_lt {x y : Int32} {A B : Prop} (a b : Nat) (f : a < b → A) (g : b ≤ a → B) (hx : x = nI a := by rfl) (hy : y = nI b := by rfl) (ha : a < 2 ^ 31 := by omega) (hb : b < 2 ^ 31 := by omega) : (x < y → A) ∧ (¬ x < y → B) := by
  subst hx hy
  rw [nI_ltI ha hb]
  exact ⟨f, fun z => g (by omega)⟩
theorem pk_eq {x y : Int32} {A B : Prop} (a b : Nat) (f : a = b → A) (g : a ≠ b → B) (hx : x = nI a := by rfl) (hy : y = nI b := by rfl) (ha : a < 2 ^ 31 := by omega) (hb : b < 2 ^ 31 := by omega) : (x = y → A) ∧ (¬ x = y → B) := by
  subst hx hy
  rw [nI_eq ha hb]
  exact ⟨f, g⟩
theorem pk_in {x : Int32} (n N : Nat) (h : n < N) (hx : x = nI n := by rfl) (hN : N < 2 ^ 31 := by omega) : vp_in x N := by
  subst hx
  exact vp_in_nI h hN
theorem pk_cl {x : Int32} (n : Nat) (hx : x = nI n := by rfl) (h : n < 2 ^ 31 := by omega) : x.toNatClampNeg = n := by
  subst hx
  exact nI_clamp h
theorem pk_tn {n : Nat} (h : n < 2 ^ 32) : (nI n).toBitVec.toNat = n := Nat.mod_eq_of_lt h
theorem pk_and (x : Int32) {m : Int32} (k : Nat) (hm : m.toBitVec.toNat = 2 ^ k - 1) : x &&& m = nI (x.toBitVec.toNat % 2 ^ k) := by
  apply Int32.toBitVec_inj.mp
  apply BitVec.eq_of_toNat_eq
  rw [Int32.toBitVec_and, BitVec.toNat_and, hm, Nat.and_two_pow_sub_one_eq_mod]
  show _ = (BitVec.ofNat 32 _).toNat
  rw [BitVec.toNat_ofNat]
  exact (Nat.mod_eq_of_lt (Nat.lt_of_le_of_lt (Nat.mod_le _ _) x.toBitVec.isLt)).symm
theorem pk_andN {n : Nat} (h : n < 2 ^ 32) {m : Int32} (k : Nat) (hm : m.toBitVec.toNat = 2 ^ k - 1) : nI n &&& m = nI (n % 2 ^ k) := by
  rw [pk_and _ k hm, pk_tn h]
theorem pk_andE (x : Int32) {m : Int32} (k : Nat) (hm : m.toBitVec.toNat = 2 ^ k - 1) : ∃ j : Nat, j < 2 ^ k ∧ x &&& m = nI j := ⟨_, Nat.mod_lt _ (Nat.two_pow_pos k), pk_and x k hm⟩
theorem pk_andIn (x : Int32) {m : Int32} (k : Nat) (hm : m.toBitVec.toNat = 2 ^ k - 1) (hk : k ≤ 30) : vp_in (x &&& m) (2 ^ k) := by
  obtain ⟨j, hj, e⟩ := pk_andE x k hm
  rw [e]
  exact vp_in_nI hj (Nat.lt_of_le_of_lt (Nat.pow_le_pow_right (by decide) hk) (by decide))
theorem pk_loop {σ : Type} (W : Nat → Nat → σ → Prop) (I : Nat → σ → Prop) (e i0 : Nat) (s : σ) (hi : i0 ≤ e) (h0 : I i0 s) (hx : ∀ n s, I e s → W (n + 1) e s)
    (hs : ∀ n i s, i < e → I i s → (∀ s', I (i + 1) s' → W n (i + 1) s') → W (n + 1) i s) : ∃ n, W n i0 s :=
  ⟨e + 1, loop_i W I e hx hs (e + 1) i0 s hi (by omega) h0⟩
theorem pk_loopD {σ : Type} (W : Nat → Nat → σ → Prop) (I : Nat → σ → Prop) (hx : ∀ n s, I 0 s → W (n + 1) 0 s)
    (hs : ∀ n i s, I (i + 1) s → (∀ s', I i s' → W n i s') → W (n + 1) (i + 1) s) : ∀ (e : Nat) (s : σ), I e s → W (e + 1) e s := by
  intro e
  induction e with
  | zero => exact fun s h => hx 0 s h
  | succ e ih => exact fun s h => hs (e + 1) e s h (fun s' h' => ih s' h')
theorem wb_of32 (x : Int32) : ∃ n, n < 2 ^ 32 ∧ x = nI n := ⟨x.toBitVec.toNat, x.toBitVec.isLt, Int32.toBitVec_inj.mp (by show _ = BitVec.ofNat 32 _; simp)⟩
/-! own pure rows: colours, lending levels, least level, least priority, the ring of ids, totals, queues, the log -/
theorem hs_us {f : Nat → Int32} {k : Nat} {x : Int32} (h : f k = x) : upd f k x = f := by
  funext j
  by_cases e : j = k
  · subst e; rw [pk_us, h]
  · rw [pk_un e]
theorem hs_uLs {f : Nat → Int64} {k : Nat} {x : Int64} (h : f k = x) : vp_updL f k x = f := by
  funext j
  by_cases e : j = k
  · subst e; rw [pk_uLs, h]
  · rw [pk_uLn e]
theorem hs_uu {f : Nat → Int32} {k : Nat} {x y : Int32} : upd (upd f k x) k y = upd f k y := by
  funext j
  by_cases e : j = k
  · subst e; rw [pk_us, pk_us]
  · rw [pk_un e, pk_un e, pk_un e]
def hs_cl (v lo hi : Int32) : Int32 := if lo ≤ v then (if v ≤ hi then v else hi) else lo
def hs_bc (T C : Nat → Int64) (i : Nat) : Nat := if 0 ≤ C i then (if T i < 0 then 1 else 0) else 2
def hs_lv (K P QC : Nat → Int32) (T C : Nat → Int64) (i : Nat) : Nat :=
  if K i = 3 ∧ ¬ QC i = 0 then
    (if hs_bc T C i = 2 ∨ hs_bc T C (P i).toNatClampNeg = 2 ∨ hs_bc T C 0 = 2 then 3
     else if hs_bc T C i = 0 then 0 else if hs_bc T C (P i).toNatClampNeg = 0 then 1 else 2)
  else 3
theorem hs_bc_le (T C : Nat → Int64) (i : Nat) : hs_bc T C i ≤ 2 := by
  unfold hs_bc
  split
  · split <;> omega
  · omega
theorem hs_lv_le (K P QC : Nat → Int32) (T C : Nat → Int64) (i : Nat) : hs_lv K P QC T C i ≤ 3 := by
  unfold hs_lv
  split
  · split
    · omega
    · split
      · omega
      · split <;> omega
  · omega
theorem hs_lv_lt {K P QC : Nat → Int32} {T C : Nat → Int64} {i : Nat} (h : hs_lv K P QC T C i < 3) : K i = 3 ∧ ¬ QC i = 0 := by
  unfold hs_lv at h
  split at h
  · assumption
  · omega
/-- the least lending level among the ids 1 .. n -/
def hs_ml (l : Nat → Nat) : Nat → Nat
  | 0 => 3
  | n + 1 => if l (n + 1) < hs_ml l n then l (n + 1) else hs_ml l n
theorem hs_ml_s (l : Nat → Nat) (n : Nat) : hs_ml l (n + 1) = if l (n + 1) < hs_ml l n then l (n + 1) else hs_ml l n := rfl
theorem hs_ml_le (l : Nat → Nat) (n : Nat) : hs_ml l n ≤ 3 := by
  induction n with
  | zero => exact Nat.le_refl 3
  | succ n ih => rw [hs_ml_s]; split <;> omega
theorem hs_ml_ex (l : Nat → Nat) (n : Nat) (h : hs_ml l n < 3) : ∃ i, 1 ≤ i ∧ i ≤ n ∧ l i = hs_ml l n := by
  induction n with
  | zero => exact absurd h (Nat.lt_irrefl 3)
  | succ n ih =>
    rw [hs_ml_s] at h ⊢
    by_cases c : l (n + 1) < hs_ml l n
    · rw [if_pos c]; exact ⟨n + 1, by omega, Nat.le_refl _, rfl⟩
    · rw [if_neg c] at h ⊢
      obtain ⟨i, a, b, e⟩ := ih h
      exact ⟨i, a, by omega, e⟩
/-- the least priority among the ids 1 .. n of level v, begun with z -/
def hs_mp (l p : Nat → Nat) (v z : Nat) : Nat → Nat
  | 0 => z
  | n + 1 => if p (n + 1) < hs_mp l p v z n ∧ l (n + 1) = v then p (n + 1) else hs_mp l p v z n
theorem hs_mp_s (l p : Nat → Nat) (v z n : Nat) : hs_mp l p v z (n + 1) = if p (n + 1) < hs_mp l p v z n ∧ l (n + 1) = v then p (n + 1) else hs_mp l p v z n := rfl
theorem hs_mp_le (l p : Nat → Nat) (v z n : Nat) : hs_mp l p v z n ≤ z := by
  induction n with
  | zero => exact Nat.le_refl z
  | succ n ih => rw [hs_mp_s]; split <;> omega
theorem hs_mp_34 (l p : Nat → Nat) (v n : Nat) (hp : ∀ i, p i ≤ 3) : hs_mp l p v 3 n = if hs_mp l p v 4 n = 4 then 3 else hs_mp l p v 4 n := by
  induction n with
  | zero => rfl
  | succ n ih =>
    have h4 := hs_mp_le l p v 4 n
    have h3 := hs_mp_le l p v 3 n
    have hq := hp (n + 1)
    rw [hs_mp_s, hs_mp_s, ih]
    by_cases e : l (n + 1) = v
    · simp only [e, and_true]
      by_cases f : hs_mp l p v 4 n = 4
      · simp only [f, if_true]
        split <;> split <;> split <;> omega
      · simp only [f, if_false]
        split <;> (try split) <;> omega
    · simp only [e, and_false, if_false]
theorem hs_mp_lt (l p : Nat → Nat) (v n : Nat) (hp : ∀ i, p i ≤ 3) (i : Nat) (h1 : 1 ≤ i) (hn : i ≤ n) (hi : l i = v) : hs_mp l p v 4 n ≤ p i := by
  induction n with
  | zero => omega
  | succ n ih =>
    rw [hs_mp_s]
    by_cases e : i = n + 1
    · subst e
      simp only [hi, and_true]
      split <;> omega
    · have := ih (by omega)
      split <;> omega
theorem hs_mp_ex (l p : Nat → Nat) (v n : Nat) (h : hs_mp l p v 4 n < 4) : ∃ i, 1 ≤ i ∧ i ≤ n ∧ l i = v ∧ p i = hs_mp l p v 4 n := by
  induction n with
  | zero => exact absurd h (Nat.lt_irrefl 4)
  | succ n ih =>
    rw [hs_mp_s] at h ⊢
    by_cases c : p (n + 1) < hs_mp l p v 4 n ∧ l (n + 1) = v
    · rw [if_pos c]; exact ⟨n + 1, by omega, Nat.le_refl _, c.2, rfl⟩
    · rw [if_neg c] at h ⊢
      obtain ⟨i, a, b, e, f⟩ := ih h
      exact ⟨i, a, by omega, e, f⟩
/-- the k-th id of a scan that begins at s -/
def hs_rg (s k : Nat) : Nat := (s - 1 + k) % 15 + 1
theorem hs_rg_in (s k : Nat) : 1 ≤ hs_rg s k ∧ hs_rg s k ≤ 15 := by
  unfold hs_rg; omega
theorem hs_rg_0 {s : Nat} (h1 : 1 ≤ s) (h2 : s ≤ 15) : hs_rg s 0 = s := by
  unfold hs_rg; omega
theorem hs_rg_s (s k : Nat) : hs_rg s (k + 1) = if 15 ≤ hs_rg s k then 1 else hs_rg s k + 1 := by
  unfold hs_rg; split <;> omega
theorem hs_rg_ex {s i : Nat} (h1 : 1 ≤ s) (h2 : s ≤ 15) (h3 : 1 ≤ i) (h4 : i ≤ 15) : ∃ k, k < 15 ∧ hs_rg s k = i := by
  refine ⟨(i + 15 - s) % 15, by omega, ?_⟩
  unfold hs_rg; omega
theorem hs_least (P : Nat → Prop) (n : Nat) (h : ∃ k, k < n ∧ P k) : ∃ k, k < n ∧ P k ∧ ∀ j, j < k → ¬ P j := by
  induction n with
  | zero => obtain ⟨k, hk, _⟩ := h; omega
  | succ n ih =>
    by_cases c : ∃ k, k < n ∧ P k
    · obtain ⟨k, a, b, d⟩ := ih c
      exact ⟨k, by omega, b, d⟩
    · obtain ⟨k, hk, hP⟩ := h
      have hn : k = n := by
        by_cases e : k = n
        · exact e
        · exact absurd ⟨k, by omega, hP⟩ c
      subst hn
      exact ⟨k, by omega, hP, fun j hj hp => c ⟨j, hj, hp⟩⟩
/-- packets in the queues of the ids 1 .. n -/
def hs_tot (c : Nat → Int32) : Nat → Nat
  | 0 => 0
  | n + 1 => hs_tot c n + (c (n + 1)).toNatClampNeg
theorem hs_tot_s (c : Nat → Int32) (n : Nat) : hs_tot c (n + 1) = hs_tot c n + (c (n + 1)).toNatClampNeg := rfl
theorem hs_tot_le (c : Nat → Int32) (n : Nat) (h : ∀ i, i ≤ n → (c i).toNatClampNeg ≤ 8) : hs_tot c n ≤ 8 * n := by
  induction n with
  | zero => exact Nat.le_refl 0
  | succ n ih =>
    have a := ih (fun i hi => h i (by omega))
    have b := h (n + 1) (Nat.le_refl _)
    rw [hs_tot_s]; omega
theorem hs_tot_un (c : Nat → Int32) (n L : Nat) (x : Int32) (h : n < L) : hs_tot (upd c L x) n = hs_tot c n := by
  induction n with
  | zero => rfl
  | succ n ih => rw [hs_tot_s, hs_tot_s, ih (by omega), pk_un (by omega)]
theorem hs_tot_up (c : Nat → Int32) (n L m : Nat) (h1 : 1 ≤ L) (hn : L ≤ n) (hm : m < 8) (hL : c L = nI (m + 1)) : hs_tot (upd c L (nI m)) n + 1 = hs_tot c n := by
  induction n with
  | zero => omega
  | succ n ih =>
    rw [hs_tot_s, hs_tot_s]
    by_cases e : L = n + 1
    · subst e
      rw [hs_tot_un c n (n + 1) _ (by omega), pk_us, hL, nI_clamp (by omega), nI_clamp (by omega)]
      omega
    · rw [pk_un (by omega)]
      have := ih (by omega)
      omega
/-- X's log ring against Y's log, newest first -/
def hs_LG (s : Int32) (XL YL : Nat → Int32) : Prop := ∀ k, k < 64 → XL ((s - 1 - nI k) &&& 63).toNatClampNeg = YL k
theorem hs_and63 (x : Int32) : x &&& 63 = nI (x.toBitVec.toNat % 64) := pk_and x 6 (by decide)
theorem hs_and7 (x : Int32) : x &&& 7 = nI (x.toBitVec.toNat % 8) := pk_and x 3 (by decide)
theorem hs_lg_ne (s : Int32) (m : Nat) (hm : m < 63) : ((s - 1 - nI m) &&& 63).toNatClampNeg ≠ (s &&& 63).toNatClampNeg := by
  rw [hs_and63, hs_and63, nI_clamp (by omega), nI_clamp (by omega), Int32.toBitVec_sub, Int32.toBitVec_sub, BitVec.toNat_sub, BitVec.toNat_sub, pk_tn (by omega)]
  have h1 : (1 : Int32).toBitVec.toNat = 1 := by decide
  rw [h1]
  generalize s.toBitVec.toNat = a
  omega
theorem hs_lg_step {s e : Int32} {XL YL YL' : Nat → Int32} (h : hs_LG s XL YL) (h0 : YL' 0 = e) (hk : ∀ k, k < 63 → YL' (k + 1) = YL k) : hs_LG (s + 1) (upd XL (s &&& 63).toNatClampNeg e) YL' := by
  intro k hk64
  match k with
  | 0 =>
    have e1 : s + 1 - 1 - nI 0 = s := by rw [nI_0]; grind
    rw [e1, pk_us, h0]
  | m + 1 =>
    have e1 : s + 1 - 1 - nI (m + 1) = s - 1 - nI m := by rw [nI_succ]; grind
    rw [e1, pk_un (hs_lg_ne s m (by omega)), hk m (by omega)]
    exact h m (by omega)
/-- rings of 8 in X against rows of 8 in Y, for the ids below 16 -/
def hs_Q (QC QH XQ YQ : Nat → Int32) : Prop := ∀ i, i < 16 → ∃ c h : Nat, c ≤ 8 ∧ h < 8 ∧ QC i = nI c ∧ QH i = nI h ∧ ∀ j, j < c → XQ (i * 8 + (h + j) % 8) = YQ (i * 8 + j)
theorem hs_q_tot {QC QH XQ YQ : Nat → Int32} (h : hs_Q QC QH XQ YQ) : hs_tot QC 15 ≤ 120 := by
  refine hs_tot_le QC 15 (fun i hi => ?_)
  obtain ⟨c, g, hc, _, e, _⟩ := h i (by omega)
  rw [e, nI_clamp (by omega)]
  exact hc
theorem hs_q_put {QC QH XQ YQ : Nat → Int32} (H : hs_Q QC QH XQ YQ) {i c h : Nat} {x : Int32} (hi : i < 16) (hc : c < 8) (hh : h < 8) (ec : QC i = nI c) (eh : QH i = nI h) : hs_Q (upd QC i (nI (c + 1))) QH (upd XQ (i * 8 + (h + c) % 8) x) (upd YQ (i * 8 + c) x) := by
  intro a ha
  obtain ⟨c', h', c8, h8, e1, e2, r⟩ := H a ha
  by_cases e : a = i
  · subst e
    have k1 : c' = c := (nI_eq (by omega) (by omega)).mp (e1.symm.trans ec)
    have k2 : h' = h := (nI_eq (by omega) (by omega)).mp (e2.symm.trans eh)
    subst k1 k2
    refine ⟨c' + 1, h', by omega, hh, pk_us, eh, fun j hj => ?_⟩
    by_cases f : j = c'
    · subst f; rw [pk_us, pk_us]
    · rw [pk_un (by omega), pk_un (by omega)]
      exact r j (by omega)
  · refine ⟨c', h', c8, h8, by rw [pk_un e]; exact e1, e2, fun j hj => ?_⟩
    rw [pk_un (by omega), pk_un (by omega)]
    exact r j hj
theorem hs_q_take {QC QH XQ YQ YQ' : Nat → Int32} (H : hs_Q QC QH XQ YQ) {i c h : Nat} (hi : i < 16) (hc : c < 8) (hh : h < 8) (ec : QC i = nI (c + 1)) (eh : QH i = nI h) (hs : ∀ j, j < 7 → YQ' (i * 8 + j) = YQ (i * 8 + j + 1)) (ho : ∀ k, (k < i * 8 ∨ i * 8 + 8 ≤ k) → YQ' k = YQ k) : hs_Q (upd QC i (nI c)) (upd QH i (nI ((h + 1) % 8))) XQ YQ' := by
  intro a ha
  obtain ⟨c', h', c8, h8, e1, e2, r⟩ := H a ha
  by_cases e : a = i
  · subst e
    have k1 : c' = c + 1 := (nI_eq (by omega) (by omega)).mp (e1.symm.trans ec)
    have k2 : h' = h := (nI_eq (by omega) (by omega)).mp (e2.symm.trans eh)
    subst k1 k2
    refine ⟨c, (h' + 1) % 8, by omega, by omega, pk_us, pk_us, fun j hj => ?_⟩
    rw [hs j (by omega), show ((h' + 1) % 8 + j) % 8 = (h' + (j + 1)) % 8 by omega]
    exact r (j + 1) (by omega)
  · refine ⟨c', h', c8, h8, by rw [pk_un e]; exact e1, by rw [pk_un e]; exact e2, fun j hj => ?_⟩
    rw [ho _ (by omega)]
    exact r j hj
end
section
/-! the relation, and the small methods of both sides, each with a general post -/
def hs_A (ql dp : Int32) (dl : Int64) : Prop := (∃ q, 1 ≤ q ∧ q ≤ 8 ∧ ql = nI q) ∧ dl = dp.toInt64
def hs_K (K P : Nat → Int32) : Prop := K 0 = 1 ∧ (∀ i, i < 16 → i ≠ 0 → K i ≠ 1) ∧ (∀ i, i < 16 → K i = 3 → ∃ p, p ≠ 0 ∧ p < 16 ∧ P i = nI p ∧ K p = 2)
def hs_Z (K P : Nat → Int32) (SE DR : Nat → Int64) (PR DF QC : Nat → Int32) : Prop := ∀ i, i < 16 → K i = 0 → P i = 0 ∧ SE i = 0 ∧ DR i = 0 ∧ PR i = 0 ∧ QC i = 0 ∧ DF (i * 3) = 0 ∧ DF (i * 3 + 1) = 0 ∧ DF (i * 3 + 2) = 0
def hs_B (lk : Int64) (R CE : Nat → Int32) (T CX RY EY CY : Nat → Int64) : Prop := lk = (R 0).toInt64 ∧ CE 0 = R 0 ∧ CX 0 = T 0 ∧ ∀ i, i ≠ 0 → RY i = (R i).toInt64 ∧ EY i = (CE i).toInt64 ∧ CY i = CX i
def hs_P (PR PT : Nat → Int32) : Prop := (∀ i, ∃ p, p < 4 ∧ PR i = nI p) ∧ (∀ j, j < 12 → ∃ p, 1 ≤ p ∧ p ≤ 15 ∧ PT j = nI p)
/-- related states with n packets in the queues -/
def hs_R (n : Nat) (u : SX) (v : SY) : Prop := ∃ (ql dp sd : Int32) (lk dl : Int64) (K P R CE PR QU DF PT XQ QH QC XL YQ YL : Nat → Int32) (T CX SE DR RY EY CY : Nat → Int64),
  u = (ql, dp, sd, K, P, R, CE, T, CX, SE, DR, PR, QU, DF, PT, XQ, QH, QC, XL) ∧ v = (lk, ql, dl, sd, K, P, RY, EY, T, CY, SE, DR, PR, QU, DF, YQ, QC, PT, YL) ∧ hs_A ql dp dl ∧ hs_K K P ∧ hs_Z K P SE DR PR DF QC ∧ hs_B lk R CE T CX RY EY CY ∧ hs_P PR PT ∧ hs_Q QC QH XQ YQ ∧ hs_LG sd XL YL ∧ hs_tot QC 15 = n
def i_Rel (_ : Nat) (u : SX) (v : SY) : Prop := ∃ n, hs_R n u v
theorem i_up {k : Nat} {u : SX} {v : SY} (h : i_Rel k u v) : i_Rel (k + 5) u v := h
section HSB
variable {ql dp sd : Int32} {lk dl : Int64} {K P R CE PR QU DF PT XQ QH QC XL YQ YL : Nat → Int32} {T CX SE DR RY EY CY : Nat → Int64}
theorem hs_mk {k : Nat} (hA : hs_A ql dp dl) (hK : hs_K K P) (hZ : hs_Z K P SE DR PR DF QC) (hB : hs_B lk R CE T CX RY EY CY) (hP : hs_P PR PT) (hQ : hs_Q QC QH XQ YQ) (hL : hs_LG sd XL YL) : i_Rel k (ql, dp, sd, K, P, R, CE, T, CX, SE, DR, PR, QU, DF, PT, XQ, QH, QC, XL) (lk, ql, dl, sd, K, P, RY, EY, T, CY, SE, DR, PR, QU, DF, YQ, QC, PT, YL) :=
  ⟨_, ql, dp, sd, lk, dl, K, P, R, CE, PR, QU, DF, PT, XQ, QH, QC, XL, YQ, YL, T, CX, SE, DR, RY, EY, CY, rfl, rfl, hA, hK, hZ, hB, hP, hQ, hL, rfl⟩
theorem hs_mkR (hA : hs_A ql dp dl) (hK : hs_K K P) (hZ : hs_Z K P SE DR PR DF QC) (hB : hs_B lk R CE T CX RY EY CY) (hP : hs_P PR PT) (hQ : hs_Q QC QH XQ YQ) (hL : hs_LG sd XL YL) : hs_R (hs_tot QC 15) (ql, dp, sd, K, P, R, CE, T, CX, SE, DR, PR, QU, DF, PT, XQ, QH, QC, XL) (lk, ql, dl, sd, K, P, RY, EY, T, CY, SE, DR, PR, QU, DF, YQ, QC, PT, YL) :=
  ⟨ql, dp, sd, lk, dl, K, P, R, CE, PR, QU, DF, PT, XQ, QH, QC, XL, YQ, YL, T, CX, SE, DR, RY, EY, CY, rfl, rfl, hA, hK, hZ, hB, hP, hQ, hL, rfl⟩
theorem hs_in {j : Nat} (h : j < 16) : vp_in (nI j) 16 := vp_in_nI h (by decide)
theorem hs_c {j : Nat} (h : j < 16) : (nI j).toNatClampNeg = j := nI_clamp (by omega)
theorem hs_n0 {j : Nat} (h : j < 16) : ¬ nI j < 0 := nI_pos (by omega)
theorem hs_le15 {j : Nat} (h : j < 16) : nI j ≤ 15 := nI_le (b := 15) (by omega) (by decide)
theorem hs_nlt15 {j : Nat} (h : j < 16) : ¬ 15 < nI j := nI_nlt (a := 15) (by omega) (by decide)
theorem hs_i16 : (nI 16).toInt = 16 := by decide
theorem hs_i15 : (15 : Int32).toInt = 15 := by decide
theorem hs_o1 {x : Int32} (h : nI 16 ≤ x) : ¬ x < 0 := by
  have h0 : (0 : Int32).toInt = 0 := by decide
  rw [Int32.le_iff_toInt_le, hs_i16] at h
  rw [Int32.lt_iff_toInt_lt, h0]; omega
theorem hs_o2 {x : Int32} (h : nI 16 ≤ x) : ¬ x ≤ 15 := by
  rw [Int32.le_iff_toInt_le, hs_i16] at h
  rw [Int32.le_iff_toInt_le, hs_i15]; omega
theorem hs_o3 {x : Int32} (h : nI 16 ≤ x) : 15 < x := by
  rw [Int32.le_iff_toInt_le, hs_i16] at h
  rw [Int32.lt_iff_toInt_lt, hs_i15]; omega
def hs_out (x : Int32) : Prop := x < 0 ∨ nI 16 ≤ x
theorem hs_ix (x : Int32) : hs_out x ∨ ∃ j, j < 16 ∧ x = nI j := by
  rcases pk_ix x (n := 16) (by decide) with h | h | h
  · exact Or.inl (Or.inl h)
  · exact Or.inl (Or.inr h)
  · exact Or.inr h
theorem hs_i2l {a b : Int32} : a.toInt64 ≤ b.toInt64 ↔ a ≤ b := by
  rw [Int64.le_iff_toInt_le, Int32.toInt_toInt64, Int32.toInt_toInt64, Int32.le_iff_toInt_le]
theorem hs_lnl {a : Int64} : a < 0 ↔ ¬ 0 ≤ a := Int64.not_le.symm
theorem hs_xclamp {post : Int32 → Prop} {v lo hi : Int32} (h : post (hs_cl v lo hi)) : wpX_clamp post v lo hi := by
  unfold hs_cl at h
  refine br_c (fun a => br_c (fun b => ?_) (fun b => ?_)) (fun a => ?_)
  · rw [if_pos a, if_pos b] at h; exact h
  · rw [if_pos a, if_neg b] at h; exact h
  · rw [if_neg a] at h; exact h
theorem hs_cl_in {v lo hi : Int32} {a b : Nat} (e1 : lo = nI a) (e2 : hi = nI b) (hab : a ≤ b) (hb : b < 2 ^ 31) : ∃ q, a ≤ q ∧ q ≤ b ∧ hs_cl v lo hi = nI q := by
  subst e1 e2
  unfold hs_cl
  by_cases h : nI a ≤ v
  · rw [if_pos h]
    have h0 : ¬ v < 0 := by
      rw [Int32.le_iff_toInt_le, nI_toInt (by omega)] at h
      rw [Int32.lt_iff_toInt_lt, show (0 : Int32).toInt = 0 from by decide]; omega
    obtain ⟨j, hj, rfl⟩ := nI_of h0
    rw [nI_leI (by omega) hj] at h
    by_cases g : nI j ≤ nI b
    · rw [if_pos g]; rw [nI_leI hj hb] at g; exact ⟨j, h, g, rfl⟩
    · rw [if_neg g]; exact ⟨b, hab, Nat.le_refl _, rfl⟩
  · rw [if_neg h]; exact ⟨a, Nat.le_refl _, hab, rfl⟩
theorem hs_cl_id {v lo hi : Int32} (h1 : lo ≤ v) (h2 : v ≤ hi) : hs_cl v lo hi = v := by
  unfold hs_cl; rw [if_pos h1, if_pos h2]
theorem hs_xkind_o {post : Int32 → Prop} {x : Int32} (h : hs_out x) (hp : post 0) : wpX_kind post (ql, dp, sd, K, P, R, CE, T, CX, SE, DR, PR, QU, DF, PT, XQ, QH, QC, XL) x := by
  unfold wpX_kind
  rcases h with h | h
  · exact br_t h hp
  · exact br_f (hs_o1 h) (br_f (hs_o2 h) hp)
theorem hs_xkind {post : Int32 → Prop} {j : Nat} (h : j < 16) (hp : post (K j)) : wpX_kind post (ql, dp, sd, K, P, R, CE, T, CX, SE, DR, PR, QU, DF, PT, XQ, QH, QC, XL) (nI j) := by
  unfold wpX_kind
  refine br_f (hs_n0 h) (br_t (hs_le15 h) ⟨hs_in h, ?_⟩)
  rw [hs_c h]; exact hp
theorem hs_ykind_o {post : Int32 → Prop} {x : Int32} (h : hs_out x) (hp : post 0) : wpY_kind post (lk, ql, dl, sd, K, P, RY, EY, T, CY, SE, DR, PR, QU, DF, YQ, QC, PT, YL) x := by
  unfold wpY_kind
  rcases h with h | h
  · exact br_t h hp
  · exact br_f (hs_o1 h) (br_f (hs_o2 h) hp)
theorem hs_ykind {post : Int32 → Prop} {j : Nat} (h : j < 16) (hp : post (K j)) : wpY_kind post (lk, ql, dl, sd, K, P, RY, EY, T, CY, SE, DR, PR, QU, DF, YQ, QC, PT, YL) (nI j) := by
  unfold wpY_kind
  refine br_f (hs_n0 h) (br_t (hs_le15 h) ⟨hs_in h, ?_⟩)
  rw [hs_c h]; exact hp
theorem hs_yleaf_o {post : Int32 → Prop} {x : Int32} (h : hs_out x) (hp : post 0) : wpY_isLeaf post (lk, ql, dl, sd, K, P, RY, EY, T, CY, SE, DR, PR, QU, DF, YQ, QC, PT, YL) x := by
  unfold wpY_isLeaf
  rcases h with h | h
  · exact br_t h hp
  · exact br_f (hs_o1 h) (br_t (hs_o3 h) hp)
theorem hs_yleaf1 {post : Int32 → Prop} {j : Nat} (h : j < 16) (hk : K j = 3) (hp : post 1) : wpY_isLeaf post (lk, ql, dl, sd, K, P, RY, EY, T, CY, SE, DR, PR, QU, DF, YQ, QC, PT, YL) (nI j) := by
  unfold wpY_isLeaf
  exact br_f (hs_n0 h) (br_f (hs_nlt15 h) ⟨hs_in h, br_t (by rw [hs_c h]; exact hk) hp⟩)
theorem hs_yleaf0 {post : Int32 → Prop} {j : Nat} (h : j < 16) (hk : ¬ K j = 3) (hp : post 0) : wpY_isLeaf post (lk, ql, dl, sd, K, P, RY, EY, T, CY, SE, DR, PR, QU, DF, YQ, QC, PT, YL) (nI j) := by
  unfold wpY_isLeaf
  exact br_f (hs_n0 h) (br_f (hs_nlt15 h) ⟨hs_in h, br_f (by rw [hs_c h]; exact hk) hp⟩)
theorem hs_yex_o {post : Int32 → Prop} {x : Int32} (h : hs_out x) (hp : post 0) : wpY_exists post (lk, ql, dl, sd, K, P, RY, EY, T, CY, SE, DR, PR, QU, DF, YQ, QC, PT, YL) x := by
  unfold wpY_exists
  rcases h with h | h
  · exact br_t h hp
  · exact br_f (hs_o1 h) (br_t (hs_o3 h) hp)
theorem hs_yex1 {post : Int32 → Prop} {j : Nat} (h : j < 16) (hk : ¬ K j = 0) (hp : post 1) : wpY_exists post (lk, ql, dl, sd, K, P, RY, EY, T, CY, SE, DR, PR, QU, DF, YQ, QC, PT, YL) (nI j) := by
  unfold wpY_exists
  exact br_f (hs_n0 h) (br_f (hs_nlt15 h) ⟨hs_in h, br_f (by rw [hs_c h]; exact hk) hp⟩)
theorem hs_yex0 {post : Int32 → Prop} {j : Nat} (h : j < 16) (hk : K j = 0) (hp : post 0) : wpY_exists post (lk, ql, dl, sd, K, P, RY, EY, T, CY, SE, DR, PR, QU, DF, YQ, QC, PT, YL) (nI j) := by
  unfold wpY_exists
  exact br_f (hs_n0 h) (br_f (hs_nlt15 h) ⟨hs_in h, br_t (by rw [hs_c h]; exact hk) hp⟩)
theorem hs_xbc {post : Int32 → Prop} {j : Nat} (h : j < 16) (hp : post (nI (hs_bc T CX j))) : wpX_bucketColour post (ql, dp, sd, K, P, R, CE, T, CX, SE, DR, PR, QU, DF, PT, XQ, QH, QC, XL) (nI j) := by
  unfold wpX_bucketColour
  unfold hs_bc at hp
  refine ⟨hs_in h, ?_⟩
  rw [hs_c h]
  refine br_c (fun a => ⟨hs_in h, br_c (fun b => ?_) (fun b => ?_)⟩) (fun a => ?_)
  · rw [if_pos a, if_pos b] at hp; exact hp
  · rw [if_pos a, if_neg b] at hp; exact hp
  · rw [if_neg a] at hp; exact hp
theorem hs_ybc {post : Int32 → Prop} {j : Nat} (h : j < 16) (hk : ¬ K j = 0) (hB : hs_B lk R CE T CX RY EY CY) (hp : post (nI (hs_bc T CX j))) : wpY_colour post (lk, ql, dl, sd, K, P, RY, EY, T, CY, SE, DR, PR, QU, DF, YQ, QC, PT, YL) (nI j) := by
  unfold wpY_colour
  unfold hs_bc at hp
  refine hs_yex1 h hk (br_f (by decide) ?_)
  refine pk_eq j 0 (fun e => ?_) (fun e => ⟨hs_in h, ?_⟩)
  · subst e
    rw [hB.2.2.1] at hp
    refine br_c (fun a => ?_) (fun a => ?_)
    · rw [if_neg (hs_lnl.mp a)] at hp; exact hp
    · rw [if_neg a, if_pos (by rw [hs_lnl] at a; exact Decidable.not_not.mp a)] at hp; exact hp
  · rw [hs_c h, (hB.2.2.2 j e).2.2]
    refine br_c (fun a => ⟨hs_in h, br_c (fun b => ?_) (fun b => ?_)⟩) (fun a => ?_)
    · rw [if_pos a, if_pos b] at hp; exact hp
    · rw [if_pos a, if_neg b] at hp; exact hp
    · rw [if_neg a] at hp; exact hp
end HSB
end
section
/-! the methods that only read, and enqueue and setLeafSched -/
section HSC
variable {ql dp sd : Int32} {lk dl : Int64} {K P R CE PR QU DF PT XQ QH QC XL YQ YL : Nat → Int32} {T CX SE DR RY EY CY : Nat → Int64}
theorem hs_slot {j h i : Nat} (hj : j < 16) (hh : h < 8) (hi : i ≤ 8) : nI j * 8 + ((nI h + nI i) &&& 7) = nI (j * 8 + (h + i) % 8) := by
  have e : nI j * 8 = nI (j * 8) := pk_mul j 8
  rw [nI_add, pk_andN (by omega) 3 (by decide), e, nI_add]
theorem hs_xslot {post : Int32 → Prop} {j h i : Nat} (hj : j < 16) (eh : QH j = nI h) (hh : h < 8) (hi : i ≤ 8) (hp : post (nI (j * 8 + (h + i) % 8))) : wpX_queueSlot post (ql, dp, sd, K, P, R, CE, T, CX, SE, DR, PR, QU, DF, PT, XQ, QH, QC, XL) (nI j) (nI i) := by
  unfold wpX_queueSlot
  refine ⟨hs_in hj, ?_⟩
  rw [hs_c hj, eh, hs_slot hj hh hi]
  exact hp
def hs_sm (f : Nat → Int64) : Nat → Int64
  | 0 => 0
  | n + 1 => hs_sm f n + f n
theorem hs_sm_s (f : Nat → Int64) (n : Nat) : hs_sm f (n + 1) = hs_sm f n + f n := rfl
theorem hs_xqb {post : Int64 → Prop} {j c h : Nat} (hj : j < 16) (hc : c ≤ 8) (hh : h < 8) (eh : QH j = nI h) (r : ∀ i, i < c → XQ (j * 8 + (h + i) % 8) = YQ (j * 8 + i)) (hp : post (hs_sm (fun i => (YQ (j * 8 + i)).toInt64) c)) : ∀ d i : Nat, i + d = c → wX_queuedBytes_23 post (nI j) (nI c) ql dp sd K P R CE T CX SE DR PR QU DF PT XQ QH QC XL (d + 1) (hs_sm (fun i => (YQ (j * 8 + i)).toInt64) i) (nI i) := by
  intro d
  induction d with
  | zero =>
    intro i hi
    have e : i = c := by omega
    subst e
    exact br_t (nI_le (Nat.le_refl _) (by omega)) hp
  | succ d ih =>
    intro i hi
    refine br_f (nI_ge (by omega) (by omega)) (hs_xslot hj eh hh (by omega) ⟨vp_in_nI (by omega) (by decide), nm_r ?_ (nm_r (nI_1 i) (ih (i + 1) (by omega)))⟩)
    rw [nI_clamp (by omega), r i (by omega), hs_sm_s]
theorem hs_yqb {post : Int64 → Prop} {j c : Nat} (hj : j < 16) (hc : c ≤ 8) (ec : QC j = nI c) (hp : post (hs_sm (fun i => (YQ (j * 8 + i)).toInt64) c)) : ∀ d i : Nat, i + d = 8 → wY_queuedBytes_15 post (nI j) lk ql dl sd K P RY EY T CY SE DR PR QU DF YQ QC PT YL (d + 1) (hs_sm (fun i => (YQ (j * 8 + i)).toInt64) (if i ≤ c then i else c)) (nI i) := by
  intro d
  induction d with
  | zero =>
    intro i hi
    have e : (if i ≤ c then i else c) = c := by split <;> omega
    rw [e]
    exact br_t (nI_le (a := 8) (by omega) (by omega)) hp
  | succ d ih =>
    intro i hi
    refine br_f (nI_ge (b := 8) (by omega) (by decide)) ⟨hs_in hj, ?_⟩
    rw [hs_c hj, ec]
    have ih' := ih (i + 1) (by omega)
    refine pk_le c i (fun a => nm_r (nI_1 i) ?_) (fun a => ?_)
    · have e : (if i ≤ c then i else c) = (if i + 1 ≤ c then i + 1 else c) := by split <;> split <;> omega
      rw [e]; exact ih'
    · have e0 : nI j * 8 + nI i = nI (j * 8 + i) := by
        rw [show nI j * 8 = nI (j * 8) from pk_mul j 8, nI_add]
      rw [e0]
      refine ⟨vp_in_nI (by omega) (by decide), nm_r ?_ (nm_r (nI_1 i) ih')⟩
      rw [nI_clamp (by omega), if_pos (by omega), if_pos (by omega), hs_sm_s]
theorem hs_yqb0 {post : Int64 → Prop} {j c : Nat} (hj : j < 16) (hc : c ≤ 8) (ec : QC j = nI c) (hp : post (hs_sm (fun i => (YQ (j * 8 + i)).toInt64) c)) : wY_queuedBytes_15 post (nI j) lk ql dl sd K P RY EY T CY SE DR PR QU DF YQ QC PT YL 9 0 0 := by
  have H := hs_yqb (lk := lk) (ql := ql) (dl := dl) (sd := sd) (K := K) (P := P) (RY := RY) (EY := EY) (T := T) (CY := CY) (SE := SE) (DR := DR) (PR := PR) (QU := QU) (DF := DF) (YQ := YQ) (QC := QC) (PT := PT) (YL := YL) hj hc ec hp 8 0 (by omega)
  rw [if_pos (Nat.zero_le c)] at H
  exact H
theorem i_vc_kind {k : Nat} {u : SX} {v : SY} (I : i_Rel k u v) (hk : k + 5 ≤ 2563) (v1 : Int32) : wpX_kind (fun r => wpY_kind (fun r' => r' = r ∧ i_Rel (k + 5) u v) v v1) u v1 := by
  obtain ⟨n, ql, dp, sd, lk, dl, K, P, R, CE, PR, QU, DF, PT, XQ, QH, QC, XL, YQ, YL, T, CX, SE, DR, RY, EY, CY, rfl, rfl, hA, hK, hZ, hB, hP, hQ, hL, rfl⟩ := I
  have J : i_Rel (k + 5) (ql, dp, sd, K, P, R, CE, T, CX, SE, DR, PR, QU, DF, PT, XQ, QH, QC, XL) (lk, ql, dl, sd, K, P, RY, EY, T, CY, SE, DR, PR, QU, DF, YQ, QC, PT, YL) := hs_mk hA hK hZ hB hP hQ hL
  rcases hs_ix v1 with h | ⟨j, hj, rfl⟩
  · exact hs_xkind_o h (hs_ykind_o h ⟨rfl, J⟩)
  · exact hs_xkind hj (hs_ykind hj ⟨rfl, J⟩)
theorem i_vc_colour {k : Nat} {u : SX} {v : SY} (I : i_Rel k u v) (hk : k + 5 ≤ 2563) (v1 : Int32) : wpX_colour (fun r => wpY_colour (fun r' => r' = r ∧ i_Rel (k + 5) u v) v v1) u v1 := by
  obtain ⟨n, ql, dp, sd, lk, dl, K, P, R, CE, PR, QU, DF, PT, XQ, QH, QC, XL, YQ, YL, T, CX, SE, DR, RY, EY, CY, rfl, rfl, hA, hK, hZ, hB, hP, hQ, hL, rfl⟩ := I
  have J : i_Rel (k + 5) (ql, dp, sd, K, P, R, CE, T, CX, SE, DR, PR, QU, DF, PT, XQ, QH, QC, XL) (lk, ql, dl, sd, K, P, RY, EY, T, CY, SE, DR, PR, QU, DF, YQ, QC, PT, YL) := hs_mk hA hK hZ hB hP hQ hL
  unfold wpX_colour
  rcases hs_ix v1 with h | ⟨j, hj, rfl⟩
  · refine hs_xkind_o h (br_t rfl ?_)
    unfold wpY_colour
    exact hs_yex_o h (br_t rfl ⟨rfl, J⟩)
  · by_cases hz : K j = 0
    · refine hs_xkind hj (br_t hz ?_)
      unfold wpY_colour
      exact hs_yex0 hj hz (br_t rfl ⟨rfl, J⟩)
    · exact hs_xkind hj (br_f hz (hs_xbc hj (hs_ybc hj hz hB ⟨rfl, J⟩)))
theorem i_vc_tokens {k : Nat} {u : SX} {v : SY} (I : i_Rel k u v) (hk : k + 5 ≤ 2563) (v1 : Int32) : wpX_tokens (fun r => wpY_tokens (fun r' => r' = r ∧ i_Rel (k + 5) u v) v v1) u v1 := by
  obtain ⟨n, ql, dp, sd, lk, dl, K, P, R, CE, PR, QU, DF, PT, XQ, QH, QC, XL, YQ, YL, T, CX, SE, DR, RY, EY, CY, rfl, rfl, hA, hK, hZ, hB, hP, hQ, hL, rfl⟩ := I
  have J : i_Rel (k + 5) (ql, dp, sd, K, P, R, CE, T, CX, SE, DR, PR, QU, DF, PT, XQ, QH, QC, XL) (lk, ql, dl, sd, K, P, RY, EY, T, CY, SE, DR, PR, QU, DF, YQ, QC, PT, YL) := hs_mk hA hK hZ hB hP hQ hL
  unfold wpX_tokens wpY_tokens
  rcases hs_ix v1 with h | ⟨j, hj, rfl⟩
  · exact hs_xkind_o h (br_t rfl (hs_yex_o h (br_t rfl ⟨rfl, J⟩)))
  · by_cases hz : K j = 0
    · exact hs_xkind hj (br_t hz (hs_yex0 hj hz (br_t rfl ⟨rfl, J⟩)))
    · exact hs_xkind hj (br_f hz ⟨hs_in hj, hs_yex1 hj hz (br_f (by decide) ⟨hs_in hj, rfl, J⟩)⟩)
theorem i_vc_ctokens {k : Nat} {u : SX} {v : SY} (I : i_Rel k u v) (hk : k + 5 ≤ 2563) (v1 : Int32) : wpX_ctokens (fun r => wpY_ctokens (fun r' => r' = r ∧ i_Rel (k + 5) u v) v v1) u v1 := by
  obtain ⟨n, ql, dp, sd, lk, dl, K, P, R, CE, PR, QU, DF, PT, XQ, QH, QC, XL, YQ, YL, T, CX, SE, DR, RY, EY, CY, rfl, rfl, hA, hK, hZ, hB, hP, hQ, hL, rfl⟩ := I
  have J : i_Rel (k + 5) (ql, dp, sd, K, P, R, CE, T, CX, SE, DR, PR, QU, DF, PT, XQ, QH, QC, XL) (lk, ql, dl, sd, K, P, RY, EY, T, CY, SE, DR, PR, QU, DF, YQ, QC, PT, YL) := hs_mk hA hK hZ hB hP hQ hL
  unfold wpX_ctokens wpY_ctokens
  rcases hs_ix v1 with h | ⟨j, hj, rfl⟩
  · exact hs_xkind_o h (br_t rfl (hs_yex_o h (br_t rfl ⟨rfl, J⟩)))
  · by_cases hz : K j = 0
    · exact hs_xkind hj (br_t hz (hs_yex0 hj hz (br_t rfl ⟨rfl, J⟩)))
    · refine hs_xkind hj (br_f hz ⟨hs_in hj, hs_yex1 hj hz (br_f (by decide) (pk_eq j 0 (fun e => ⟨?_, J⟩) (fun e => ⟨hs_in hj, ?_, J⟩)))⟩)
      · subst e; exact hB.2.2.1.symm
      · rw [hs_c hj]; exact (hB.2.2.2 j e).2.2
theorem i_vc_sentBytes {k : Nat} {u : SX} {v : SY} (I : i_Rel k u v) (hk : k + 5 ≤ 2563) (v1 : Int32) : wpX_sentBytes (fun r => wpY_sentBytes (fun r' => r' = r ∧ i_Rel (k + 5) u v) v v1) u v1 := by
  obtain ⟨n, ql, dp, sd, lk, dl, K, P, R, CE, PR, QU, DF, PT, XQ, QH, QC, XL, YQ, YL, T, CX, SE, DR, RY, EY, CY, rfl, rfl, hA, hK, hZ, hB, hP, hQ, hL, rfl⟩ := I
  have J : i_Rel (k + 5) (ql, dp, sd, K, P, R, CE, T, CX, SE, DR, PR, QU, DF, PT, XQ, QH, QC, XL) (lk, ql, dl, sd, K, P, RY, EY, T, CY, SE, DR, PR, QU, DF, YQ, QC, PT, YL) := hs_mk hA hK hZ hB hP hQ hL
  unfold wpX_sentBytes wpY_sentBytes
  rcases hs_ix v1 with h | ⟨j, hj, rfl⟩
  · exact hs_xkind_o h (br_t rfl (hs_yex_o h (br_t rfl ⟨rfl, J⟩)))
  · by_cases hz : K j = 0
    · exact hs_xkind hj (br_t hz (hs_yex0 hj hz (br_t rfl ⟨rfl, J⟩)))
    · exact hs_xkind hj (br_f hz ⟨hs_in hj, hs_yex1 hj hz (br_f (by decide) ⟨hs_in hj, rfl, J⟩)⟩)
theorem i_vc_droppedBytes {k : Nat} {u : SX} {v : SY} (I : i_Rel k u v) (hk : k + 5 ≤ 2563) (v1 : Int32) : wpX_droppedBytes (fun r => wpY_droppedBytes (fun r' => r' = r ∧ i_Rel (k + 5) u v) v v1) u v1 := by
  obtain ⟨n, ql, dp, sd, lk, dl, K, P, R, CE, PR, QU, DF, PT, XQ, QH, QC, XL, YQ, YL, T, CX, SE, DR, RY, EY, CY, rfl, rfl, hA, hK, hZ, hB, hP, hQ, hL, rfl⟩ := I
  have J : i_Rel (k + 5) (ql, dp, sd, K, P, R, CE, T, CX, SE, DR, PR, QU, DF, PT, XQ, QH, QC, XL) (lk, ql, dl, sd, K, P, RY, EY, T, CY, SE, DR, PR, QU, DF, YQ, QC, PT, YL) := hs_mk hA hK hZ hB hP hQ hL
  unfold wpX_droppedBytes wpY_droppedBytes
  rcases hs_ix v1 with h | ⟨j, hj, rfl⟩
  · exact hs_xkind_o h (br_f (by decide) (hs_yleaf_o h (br_t rfl ⟨rfl, J⟩)))
  · by_cases hz : K j = 3
    · exact hs_xkind hj (br_t hz ⟨hs_in hj, hs_yleaf1 hj hz (br_f (by decide) ⟨hs_in hj, rfl, J⟩)⟩)
    · exact hs_xkind hj (br_f hz (hs_yleaf0 hj hz (br_t rfl ⟨rfl, J⟩)))
theorem i_vc_queueLength {k : Nat} {u : SX} {v : SY} (I : i_Rel k u v) (hk : k + 5 ≤ 2563) (v1 : Int32) : wpX_queueLength (fun r => wpY_queueLength (fun r' => r' = r ∧ i_Rel (k + 5) u v) v v1) u v1 := by
  obtain ⟨n, ql, dp, sd, lk, dl, K, P, R, CE, PR, QU, DF, PT, XQ, QH, QC, XL, YQ, YL, T, CX, SE, DR, RY, EY, CY, rfl, rfl, hA, hK, hZ, hB, hP, hQ, hL, rfl⟩ := I
  have J : i_Rel (k + 5) (ql, dp, sd, K, P, R, CE, T, CX, SE, DR, PR, QU, DF, PT, XQ, QH, QC, XL) (lk, ql, dl, sd, K, P, RY, EY, T, CY, SE, DR, PR, QU, DF, YQ, QC, PT, YL) := hs_mk hA hK hZ hB hP hQ hL
  unfold wpX_queueLength wpY_queueLength
  rcases hs_ix v1 with h | ⟨j, hj, rfl⟩
  · exact hs_xkind_o h (br_f (by decide) (hs_yleaf_o h (br_t rfl ⟨rfl, J⟩)))
  · by_cases hz : K j = 3
    · exact hs_xkind hj (br_t hz ⟨hs_in hj, hs_yleaf1 hj hz (br_f (by decide) ⟨hs_in hj, rfl, J⟩)⟩)
    · exact hs_xkind hj (br_f hz (hs_yleaf0 hj hz (br_t rfl ⟨rfl, J⟩)))
theorem i_vc_queuedBytes {k : Nat} {u : SX} {v : SY} (I : i_Rel k u v) (hk : k + 5 ≤ 2563) (v1 : Int32) : wpX_queuedBytes (fun r => wpY_queuedBytes (fun r' => r' = r ∧ i_Rel (k + 5) u v) v v1) u v1 := by
  obtain ⟨n, ql, dp, sd, lk, dl, K, P, R, CE, PR, QU, DF, PT, XQ, QH, QC, XL, YQ, YL, T, CX, SE, DR, RY, EY, CY, rfl, rfl, hA, hK, hZ, hB, hP, hQ, hL, rfl⟩ := I
  have J : i_Rel (k + 5) (ql, dp, sd, K, P, R, CE, T, CX, SE, DR, PR, QU, DF, PT, XQ, QH, QC, XL) (lk, ql, dl, sd, K, P, RY, EY, T, CY, SE, DR, PR, QU, DF, YQ, QC, PT, YL) := hs_mk hA hK hZ hB hP hQ hL
  unfold wpX_queuedBytes wpY_queuedBytes
  rcases hs_ix v1 with h | ⟨j, hj, rfl⟩
  · exact hs_xkind_o h (br_f (by decide) (hs_yleaf_o h (br_t rfl ⟨rfl, J⟩)))
  · by_cases hz : K j = 3
    · obtain ⟨c, h, hc, hh, ec, eh, r⟩ := hQ j hj
      refine hs_xkind hj (br_t hz ⟨hs_in hj, nm_r (show QC (nI j).toNatClampNeg = nI c by rw [hs_c hj, ec]) ⟨c + 1, ?_⟩⟩)
      refine hs_xqb hj hc hh eh r ?_ c 0 (by omega)
      refine hs_yleaf1 hj hz (br_f (by decide) ⟨9, ?_⟩)
      exact hs_yqb0 hj hc ec ⟨rfl, J⟩
    · exact hs_xkind hj (br_f hz (hs_yleaf0 hj hz (br_t rfl ⟨rfl, J⟩)))
theorem hs_d48 {j l : Nat} : nI j * 3 + nI l = nI (j * 3 + l) := by
  rw [show nI j * 3 = nI (j * 3) from pk_mul j 3, nI_add]
theorem i_vc_deficit {k : Nat} {u : SX} {v : SY} (I : i_Rel k u v) (hk : k + 5 ≤ 2563) (v1 : Int32) (v2 : Int32) : wpX_deficit (fun r => wpY_deficit (fun r' => r' = r ∧ i_Rel (k + 5) u v) v v1 v2) u v1 v2 := by
  obtain ⟨n, ql, dp, sd, lk, dl, K, P, R, CE, PR, QU, DF, PT, XQ, QH, QC, XL, YQ, YL, T, CX, SE, DR, RY, EY, CY, rfl, rfl, hA, hK, hZ, hB, hP, hQ, hL, rfl⟩ := I
  have J : i_Rel (k + 5) (ql, dp, sd, K, P, R, CE, T, CX, SE, DR, PR, QU, DF, PT, XQ, QH, QC, XL) (lk, ql, dl, sd, K, P, RY, EY, T, CY, SE, DR, PR, QU, DF, YQ, QC, PT, YL) := hs_mk hA hK hZ hB hP hQ hL
  unfold wpX_deficit wpY_deficit
  rcases hs_ix v1 with h | ⟨j, hj, rfl⟩
  · exact hs_xkind_o h (br_f (by decide) (hs_yleaf_o h (br_t rfl ⟨rfl, J⟩)))
  · by_cases hz : K j = 3
    · refine hs_xkind hj (br_t hz (br_c (fun a => hs_yleaf1 hj hz (br_f (by decide) (br_t a ⟨rfl, J⟩))) (fun a => br_c (fun b => ⟨?_, hs_yleaf1 hj hz (br_f (by decide) (br_f a (br_t b ⟨?_, rfl, J⟩)))⟩) (fun b => hs_yleaf1 hj hz (br_f (by decide) (br_f a (br_f b ⟨rfl, J⟩)))))))
      all_goals
        obtain ⟨l, hl, rfl⟩ := nI_of2 (n := 2) (by decide) a b
        rw [hs_d48]
        exact vp_in_nI (by omega) (by decide)
    · exact hs_xkind hj (br_f hz (hs_yleaf0 hj hz (br_t rfl ⟨rfl, J⟩)))
theorem i_vc_sendCount {k : Nat} {u : SX} {v : SY} (I : i_Rel k u v) (hk : k + 5 ≤ 2563) : wpX_sendCount (fun r => wpY_sendCount (fun r' => r' = r ∧ i_Rel (k + 5) u v) v) u := by
  obtain ⟨n, ql, dp, sd, lk, dl, K, P, R, CE, PR, QU, DF, PT, XQ, QH, QC, XL, YQ, YL, T, CX, SE, DR, RY, EY, CY, rfl, rfl, hA, hK, hZ, hB, hP, hQ, hL, rfl⟩ := I
  have J : i_Rel (k + 5) (ql, dp, sd, K, P, R, CE, T, CX, SE, DR, PR, QU, DF, PT, XQ, QH, QC, XL) (lk, ql, dl, sd, K, P, RY, EY, T, CY, SE, DR, PR, QU, DF, YQ, QC, PT, YL) := hs_mk hA hK hZ hB hP hQ hL
  unfold wpX_sendCount wpY_sendCount
  exact ⟨rfl, J⟩
theorem i_vc_logEntry {k : Nat} {u : SX} {v : SY} (I : i_Rel k u v) (hk : k + 5 ≤ 2563) (v1 : Int32) : wpX_logEntry (fun r => wpY_logEntry (fun r' => r' = r ∧ i_Rel (k + 5) u v) v v1) u v1 := by
  obtain ⟨n, ql, dp, sd, lk, dl, K, P, R, CE, PR, QU, DF, PT, XQ, QH, QC, XL, YQ, YL, T, CX, SE, DR, RY, EY, CY, rfl, rfl, hA, hK, hZ, hB, hP, hQ, hL, rfl⟩ := I
  have J : i_Rel (k + 5) (ql, dp, sd, K, P, R, CE, T, CX, SE, DR, PR, QU, DF, PT, XQ, QH, QC, XL) (lk, ql, dl, sd, K, P, RY, EY, T, CY, SE, DR, PR, QU, DF, YQ, QC, PT, YL) := hs_mk hA hK hZ hB hP hQ hL
  unfold wpX_logEntry wpY_logEntry
  refine br_c (fun a => br_t a ⟨rfl, J⟩) (fun a => br_c (fun b => br_f a (br_t b ⟨rfl, J⟩)) (fun b => br_c (fun c => ⟨pk_andIn _ 6 (by decide) (by decide), br_f a (br_f b (br_t c ⟨?_, ?_, J⟩))⟩) (fun c => br_f a (br_f b (br_f c ⟨rfl, J⟩)))))
  all_goals
    obtain ⟨j, hj, rfl⟩ := nI_of a
    have hj64 : j < 64 := by
      rw [show (64 : Int32) = nI 64 from rfl, nI_leI (by decide) hj] at b
      omega
  · exact vp_in_nI hj64 (by decide)
  · rw [nI_clamp hj]; exact (hL j hj64).symm
end HSC
end
section
/-! enqueue, setLeafSched, addInner, addLeaf, the constructors -/
section HSD
variable {ql dp sd : Int32} {lk dl : Int64} {K P R CE PR QU DF PT XQ QH QC XL YQ YL : Nat → Int32} {T CX SE DR RY EY CY : Nat → Int64}
theorem hs_xenq {post : Int32 → SX → Prop} {j c h : Nat} {s : Int32} (hj : j < 16) (hk : K j = 3) (a : ¬ s < 1) (b : s ≤ 255) (d : QC j < ql) (ec : QC j = nI c) (hc : c < 8) (eh : QH j = nI h) (hh : h < 8) (hp : post 0 (ql, dp, sd, K, P, R, CE, T, CX, SE, DR, PR, QU, DF, PT, upd XQ (j * 8 + (h + c) % 8) s, QH, upd QC j (nI (c + 1)), XL)) : wpX_enqueue post (ql, dp, sd, K, P, R, CE, T, CX, SE, DR, PR, QU, DF, PT, XQ, QH, QC, XL) (nI j) s := by
  unfold wpX_enqueue
  refine hs_xkind hj (br_t hk (br_f a (br_t b ⟨hs_in hj, ?_⟩)))
  rw [hs_c hj]
  refine br_t d ⟨hs_in hj, ?_⟩
  rw [ec]
  refine hs_xslot hj eh hh (by omega) ⟨vp_in_nI (by omega) (by decide), nm_e ⟨hs_in hj, hs_in hj, nm_e ?_⟩⟩
  rw [nI_clamp (by omega), nI_1]; exact hp
theorem hs_yenq {post : Int32 → SY → Prop} {j c : Nat} {s : Int32} (hj : j < 16) (hk : K j = 3) (a : ¬ s < 1) (b : s ≤ 255) (d : QC j < ql) (ec : QC j = nI c) (hc : c < 8) (hp : post 0 (lk, ql, dl, sd, K, P, RY, EY, T, CY, SE, DR, PR, QU, DF, upd YQ (j * 8 + c) s, upd QC j (nI (c + 1)), PT, YL)) : wpY_enqueue post (lk, ql, dl, sd, K, P, RY, EY, T, CY, SE, DR, PR, QU, DF, YQ, QC, PT, YL) (nI j) s := by
  unfold wpY_enqueue
  refine hs_yleaf1 hj hk (br_f (by decide) (br_f a (br_t b ⟨hs_in hj, ?_⟩)))
  rw [hs_c hj]
  refine br_t d ⟨hs_in hj, ?_⟩
  rw [ec, show nI j * 8 + nI c = nI (j * 8 + c) from by rw [show nI j * 8 = nI (j * 8) from pk_mul j 8, nI_add]]
  refine ⟨vp_in_nI (by omega) (by decide), nm_e ⟨hs_in hj, hs_in hj, nm_e ?_⟩⟩
  rw [nI_clamp (by omega), nI_1]; exact hp
theorem hs_xenqd {post : Int32 → SX → Prop} {j : Nat} {s : Int32} (hj : j < 16) (hk : K j = 3) (a : ¬ s < 1) (b : s ≤ 255) (d : ¬ QC j < ql) (hp : post 1 (ql, dp, sd, K, P, R, CE, T, CX, SE, vp_updL DR j (DR j + s.toInt64), PR, QU, DF, PT, XQ, QH, QC, XL)) : wpX_enqueue post (ql, dp, sd, K, P, R, CE, T, CX, SE, DR, PR, QU, DF, PT, XQ, QH, QC, XL) (nI j) s := by
  unfold wpX_enqueue
  refine hs_xkind hj (br_t hk (br_f a (br_t b ⟨hs_in hj, ?_⟩)))
  rw [hs_c hj]
  exact br_f d ⟨hs_in hj, hs_in hj, nm_e hp⟩
theorem hs_yenqd {post : Int32 → SY → Prop} {j : Nat} {s : Int32} (hj : j < 16) (hk : K j = 3) (a : ¬ s < 1) (b : s ≤ 255) (d : ¬ QC j < ql) (hp : post 1 (lk, ql, dl, sd, K, P, RY, EY, T, CY, SE, vp_updL DR j (DR j + s.toInt64), PR, QU, DF, YQ, QC, PT, YL)) : wpY_enqueue post (lk, ql, dl, sd, K, P, RY, EY, T, CY, SE, DR, PR, QU, DF, YQ, QC, PT, YL) (nI j) s := by
  unfold wpY_enqueue
  refine hs_yleaf1 hj hk (br_f (by decide) (br_f a (br_t b ⟨hs_in hj, ?_⟩)))
  rw [hs_c hj]
  exact br_f d ⟨hs_in hj, hs_in hj, nm_e hp⟩
theorem hs_z_ne {j : Nat} (hk : ¬ K j = 0) {i : Nat} (hi : K i = 0) : i ≠ j := fun e => hk (e ▸ hi)
theorem hs_30 {x : Int32} (h : x = 3) : ¬ x = 0 := by rw [h]; decide
theorem i_vc_enqueue {k : Nat} {u : SX} {v : SY} (I : i_Rel k u v) (hk : k + 5 ≤ 2563) (v1 : Int32) (v2 : Int32) : wpX_enqueue (fun r u' => wpY_enqueue (fun r' v' => r' = r ∧ i_Rel (k + 5) u' v') v v1 v2) u v1 v2 := by
  obtain ⟨n, ql, dp, sd, lk, dl, K, P, R, CE, PR, QU, DF, PT, XQ, QH, QC, XL, YQ, YL, T, CX, SE, DR, RY, EY, CY, rfl, rfl, hA, hK, hZ, hB, hP, hQ, hL, rfl⟩ := I
  have J : i_Rel (k + 5) (ql, dp, sd, K, P, R, CE, T, CX, SE, DR, PR, QU, DF, PT, XQ, QH, QC, XL) (lk, ql, dl, sd, K, P, RY, EY, T, CY, SE, DR, PR, QU, DF, YQ, QC, PT, YL) := hs_mk hA hK hZ hB hP hQ hL
  rcases hs_ix v1 with h | ⟨j, hj, rfl⟩
  · unfold wpX_enqueue wpY_enqueue
    exact hs_xkind_o h (br_f (by decide) (hs_yleaf_o h (br_t rfl ⟨rfl, J⟩)))
  · by_cases hz : K j = 3
    · by_cases a : v2 < 1
      · unfold wpX_enqueue wpY_enqueue
        exact hs_xkind hj (br_t hz (br_t a (hs_yleaf1 hj hz (br_f (by decide) (br_t a ⟨rfl, J⟩)))))
      · by_cases b : v2 ≤ 255
        · obtain ⟨c, h, hc, hh, ec, eh, r⟩ := hQ j hj
          obtain ⟨q, q1, q8, eq⟩ := hA.1
          by_cases d : QC j < ql
          · have c8 : c < 8 := by
              have d' := d
              rw [ec, eq, nI_ltI (by omega) (by omega)] at d'
              omega
            refine hs_xenq hj hz a b d ec c8 eh hh (hs_yenq hj hz a b d ec c8 ⟨rfl, hs_mk hA hK ?_ hB hP (hs_q_put hQ hj c8 hh ec eh) hL⟩)
            intro i hi hi0
            have hne := hs_z_ne (hs_30 hz) hi0
            have z := hZ i hi hi0
            exact ⟨z.1, z.2.1, z.2.2.1, z.2.2.2.1, by rw [pk_un hne]; exact z.2.2.2.2.1, z.2.2.2.2.2⟩
          · refine hs_xenqd hj hz a b d (hs_yenqd hj hz a b d ⟨rfl, hs_mk hA hK ?_ hB hP hQ hL⟩)
            intro i hi hi0
            have hne := hs_z_ne (hs_30 hz) hi0
            have z := hZ i hi hi0
            exact ⟨z.1, z.2.1, by rw [pk_uLn hne]; exact z.2.2.1, z.2.2.2⟩
        · unfold wpX_enqueue wpY_enqueue
          exact hs_xkind hj (br_t hz (br_f a (br_f b (hs_yleaf1 hj hz (br_f (by decide) (br_f a (br_f b ⟨rfl, J⟩)))))))
    · unfold wpX_enqueue wpY_enqueue
      exact hs_xkind hj (br_f hz (hs_yleaf0 hj hz (br_t rfl ⟨rfl, J⟩)))
theorem hs_xsls {post : Int32 → SX → Prop} {j : Nat} {p q : Int32} (hj : j < 16) (hk : K j = 3) (hp : post 0 (ql, dp, sd, K, P, R, CE, T, CX, SE, DR, upd PR j (hs_cl p 0 3), upd QU j (hs_cl q 256 2048), DF, PT, XQ, QH, QC, XL)) : wpX_setLeafSched post (ql, dp, sd, K, P, R, CE, T, CX, SE, DR, PR, QU, DF, PT, XQ, QH, QC, XL) (nI j) p q := by
  unfold wpX_setLeafSched
  refine hs_xkind hj (br_t hk (hs_xclamp ⟨hs_in hj, nm_e (hs_xclamp ⟨hs_in hj, nm_e ?_⟩)⟩))
  rw [hs_c hj]; exact hp
theorem hs_ysls1 {post : Int32 → SY → Prop} {j : Nat} {p q : Int32} (hj : j < 16) (hp : post 0 (lk, ql, dl, sd, K, P, RY, EY, T, CY, SE, DR, upd PR j p, upd QU j (hs_cl q 256 2048), DF, YQ, QC, PT, YL)) : wY_setLeafSched_34 post (nI j) q p (nI j) lk ql dl sd K P RY EY T CY SE DR PR QU DF YQ QC PT YL := by
  unfold wY_setLeafSched_34
  unfold hs_cl at hp
  refine ⟨hs_in hj, nm_e ?_⟩
  rw [hs_c hj]
  refine br_c (fun a => br_c (fun b => ⟨hs_in hj, nm_e ?_⟩) (fun b => ⟨hs_in hj, nm_e ?_⟩)) (fun a => ⟨hs_in hj, nm_e ?_⟩)
  · rw [if_pos a, if_pos b] at hp; exact hp
  · rw [if_pos a, if_neg b] at hp; exact hp
  · rw [if_neg a] at hp; exact hp
theorem hs_ysls {post : Int32 → SY → Prop} {j : Nat} {p q : Int32} (hj : j < 16) (hk : K j = 3) (hp : post 0 (lk, ql, dl, sd, K, P, RY, EY, T, CY, SE, DR, upd PR j (hs_cl p 0 3), upd QU j (hs_cl q 256 2048), DF, YQ, QC, PT, YL)) : wpY_setLeafSched post (lk, ql, dl, sd, K, P, RY, EY, T, CY, SE, DR, PR, QU, DF, YQ, QC, PT, YL) (nI j) p q := by
  unfold wpY_setLeafSched
  refine hs_yleaf1 hj hk (br_f (by decide) (br_c (fun a => br_c (fun b => hs_ysls1 hj ?_) (fun b => hs_ysls1 hj ?_)) (fun a => hs_ysls1 hj ?_)))
  · have e : hs_cl p 0 3 = p := by unfold hs_cl; rw [if_pos a, if_pos b]
    rw [e] at hp; exact hp
  · have e : hs_cl p 0 3 = 3 := by unfold hs_cl; rw [if_pos a, if_neg b]
    rw [e] at hp; exact hp
  · have e : hs_cl p 0 3 = 0 := by unfold hs_cl; rw [if_neg a]
    rw [e] at hp; exact hp
theorem i_vc_setLeafSched {k : Nat} {u : SX} {v : SY} (I : i_Rel k u v) (hk : k + 5 ≤ 2563) (v1 : Int32) (v2 : Int32) (v3 : Int32) : wpX_setLeafSched (fun r u' => wpY_setLeafSched (fun r' v' => r' = r ∧ i_Rel (k + 5) u' v') v v1 v2 v3) u v1 v2 v3 := by
  obtain ⟨n, ql, dp, sd, lk, dl, K, P, R, CE, PR, QU, DF, PT, XQ, QH, QC, XL, YQ, YL, T, CX, SE, DR, RY, EY, CY, rfl, rfl, hA, hK, hZ, hB, hP, hQ, hL, rfl⟩ := I
  have J : i_Rel (k + 5) (ql, dp, sd, K, P, R, CE, T, CX, SE, DR, PR, QU, DF, PT, XQ, QH, QC, XL) (lk, ql, dl, sd, K, P, RY, EY, T, CY, SE, DR, PR, QU, DF, YQ, QC, PT, YL) := hs_mk hA hK hZ hB hP hQ hL
  rcases hs_ix v1 with h | ⟨j, hj, rfl⟩
  · unfold wpX_setLeafSched wpY_setLeafSched
    exact hs_xkind_o h (br_f (by decide) (hs_yleaf_o h (br_t rfl ⟨rfl, J⟩)))
  · by_cases hz : K j = 3
    · refine hs_xsls hj hz (hs_ysls hj hz ⟨rfl, hs_mk hA hK ?_ hB ⟨fun i => ?_, hP.2⟩ hQ hL⟩)
      · intro i hi hi0
        have hne := hs_z_ne (hs_30 hz) hi0
        have z := hZ i hi hi0
        exact ⟨z.1, z.2.1, z.2.2.1, by rw [pk_un hne]; exact z.2.2.2.1, z.2.2.2.2⟩
      · by_cases e : i = j
        · subst e
          obtain ⟨q, _, q3, eq⟩ := hs_cl_in (v := v2) (lo := 0) (hi := 3) (a := 0) (b := 3) rfl rfl (by omega) (by omega)
          exact ⟨q, by omega, by rw [pk_us]; exact eq⟩
        · obtain ⟨p, p4, ep⟩ := hP.1 i
          exact ⟨p, p4, by rw [pk_un e]; exact ep⟩
    · unfold wpX_setLeafSched wpY_setLeafSched
      exact hs_xkind hj (br_f hz (hs_yleaf0 hj hz (br_t rfl ⟨rfl, J⟩)))
theorem hs_xopen {post : SX → Prop} {j : Nat} {kd r c : Int32} (hj : j < 16) (hp : post (ql, dp, sd, upd K j kd, P, upd R j (hs_cl r 1 65536), upd CE j (hs_cl c (hs_cl r 1 65536) 65536), vp_updL T j ((hs_cl r 1 65536).toInt64 * dp.toInt64), vp_updL CX j ((hs_cl c (hs_cl r 1 65536) 65536).toInt64 * dp.toInt64), SE, DR, PR, QU, DF, PT, XQ, QH, QC, XL)) : wpX_openClass post (ql, dp, sd, K, P, R, CE, T, CX, SE, DR, PR, QU, DF, PT, XQ, QH, QC, XL) (nI j) kd r c := by
  unfold wpX_openClass
  refine hs_xclamp ⟨hs_in hj, nm_e ⟨hs_in hj, hs_xclamp ⟨hs_in hj, nm_e ⟨hs_in hj, hs_in hj, nm_e ⟨hs_in hj, hs_in hj, nm_e ⟨hs_in hj, nm_e ?_⟩⟩⟩⟩⟩⟩
  simp only [hs_c hj, pk_us]
  exact hp
theorem hs_ysb50 {post : SY → Prop} {j : Nat} {a b : Int64} (hj : j < 16) (hp : post (lk, ql, dl, sd, K, P, vp_updL RY j a, vp_updL EY j b, vp_updL T j (a * dl), vp_updL CY j (b * dl), vp_updL SE j 0, DR, PR, QU, DF, YQ, QC, PT, YL)) : wY_setBuckets_50 post (nI j) a b lk ql dl sd K P RY EY T CY SE DR PR QU DF YQ QC PT YL := by
  unfold wY_setBuckets_50
  refine ⟨hs_in hj, nm_e ⟨hs_in hj, nm_e ⟨hs_in hj, nm_e ⟨hs_in hj, nm_e ⟨hs_in hj, nm_e ?_⟩⟩⟩⟩⟩
  simp only [hs_c hj]
  exact hp
theorem hs_ysb22 {post : SY → Prop} {j : Nat} {r c : Int32} (hj : j < 16) (hp : post (lk, ql, dl, sd, K, P, vp_updL RY j r.toInt64, vp_updL EY j (hs_cl c r 65536).toInt64, vp_updL T j (r.toInt64 * dl), vp_updL CY j ((hs_cl c r 65536).toInt64 * dl), vp_updL SE j 0, DR, PR, QU, DF, YQ, QC, PT, YL)) : wY_setBuckets_22 post (nI j) c r.toInt64 lk ql dl sd K P RY EY T CY SE DR PR QU DF YQ QC PT YL := by
  unfold wY_setBuckets_22 wY_setBuckets_49
  refine br_c (fun a => br_c (fun b => hs_ysb50 hj ?_) (fun b => hs_ysb50 hj ?_)) (fun a => hs_ysb50 hj ?_)
  · have e : hs_cl c r 65536 = c := by unfold hs_cl; rw [if_pos (hs_i2l.mp a), if_pos b]
    rw [e] at hp; exact hp
  · have e : hs_cl c r 65536 = 65536 := by unfold hs_cl; rw [if_pos (hs_i2l.mp a), if_neg b]
    rw [e] at hp; exact hp
  · have e : hs_cl c r 65536 = r := by unfold hs_cl; rw [if_neg (fun z => a (hs_i2l.mpr z))]
    rw [e] at hp; exact hp
theorem hs_ysb {post : SY → Prop} {j : Nat} {r c : Int32} (hj : j < 16) (hp : post (lk, ql, dl, sd, K, P, vp_updL RY j (hs_cl r 1 65536).toInt64, vp_updL EY j (hs_cl c (hs_cl r 1 65536) 65536).toInt64, vp_updL T j ((hs_cl r 1 65536).toInt64 * dl), vp_updL CY j ((hs_cl c (hs_cl r 1 65536) 65536).toInt64 * dl), vp_updL SE j 0, DR, PR, QU, DF, YQ, QC, PT, YL)) : wpY_setBuckets post (lk, ql, dl, sd, K, P, RY, EY, T, CY, SE, DR, PR, QU, DF, YQ, QC, PT, YL) (nI j) r c := by
  unfold wpY_setBuckets wY_setBuckets_21
  refine br_c (fun a => br_c (fun b => hs_ysb22 hj ?_) (fun b => hs_ysb22 hj ?_)) (fun a => ?_)
  · have e : hs_cl r 1 65536 = r := by unfold hs_cl; rw [if_pos a, if_pos b]
    rw [e] at hp; exact hp
  · have e : hs_cl r 1 65536 = 65536 := by unfold hs_cl; rw [if_pos a, if_neg b]
    rw [e] at hp; exact hp
  · have e : hs_cl r 1 65536 = 1 := by unfold hs_cl; rw [if_neg a]
    rw [e] at hp
    rw [show (1 : Int64) = (1 : Int32).toInt64 from by decide]
    exact hs_ysb22 hj hp
end HSD
end
section
/-! addInner, addLeaf, the constructors -/
section HSE
variable {ql dp sd : Int32} {lk dl : Int64} {K P R CE PR QU DF PT XQ QH QC XL YQ YL : Nat → Int32} {T CX SE DR RY EY CY : Nat → Int64}
theorem hs_ix1 (x : Int32) : x < 1 ∨ (¬ x < 1 ∧ ¬ x ≤ 15) ∨ ∃ j, 1 ≤ j ∧ j < 16 ∧ x = nI j := by
  by_cases h : x < 1
  · exact Or.inl h
  · by_cases g : x ≤ 15
    · have h0 : ¬ x < 0 := by
        rw [Int32.lt_iff_toInt_lt, show (1 : Int32).toInt = 1 from by decide] at h
        rw [Int32.lt_iff_toInt_lt, show (0 : Int32).toInt = 0 from by decide]
        omega
      obtain ⟨j, hj, rfl⟩ := nI_of2 (n := 15) (by decide) h0 g
      refine Or.inr (Or.inr ⟨j, ?_, by omega, rfl⟩)
      rw [show (1 : Int32) = nI 1 from rfl, nI_ltI (by omega) (by decide)] at h
      omega
    · exact Or.inr (Or.inl ⟨h, g⟩)
theorem hs_n1 {j : Nat} (h1 : 1 ≤ j) (h : j < 16) : ¬ nI j < 1 := nI_nlt (b := 1) h1 (by omega)
theorem hs_xain {post : Int32 → SX → Prop} {j : Nat} {r c : Int32} (h1 : 1 ≤ j) (hj : j < 16) (hk : K j = 0) (hp : post 0 (ql, dp, sd, upd K j 2, P, upd R j (hs_cl r 1 65536), upd CE j (hs_cl c (hs_cl r 1 65536) 65536), vp_updL T j ((hs_cl r 1 65536).toInt64 * dp.toInt64), vp_updL CX j ((hs_cl c (hs_cl r 1 65536) 65536).toInt64 * dp.toInt64), SE, DR, PR, QU, DF, PT, XQ, QH, QC, XL)) : wpX_addInner post (ql, dp, sd, K, P, R, CE, T, CX, SE, DR, PR, QU, DF, PT, XQ, QH, QC, XL) (nI j) r c := by
  unfold wpX_addInner
  refine br_f (hs_n1 h1 hj) (br_t (hs_le15 hj) ⟨hs_in hj, br_t (by rw [hs_c hj]; exact hk) (hs_xopen hj ?_)⟩)
  exact hp
theorem hs_yain {post : Int32 → SY → Prop} {j : Nat} {r c : Int32} (h1 : 1 ≤ j) (hj : j < 16) (hk : K j = 0) (hp : post 0 (lk, ql, dl, sd, upd K j 2, upd P j 0, vp_updL RY j (hs_cl r 1 65536).toInt64, vp_updL EY j (hs_cl c (hs_cl r 1 65536) 65536).toInt64, vp_updL T j ((hs_cl r 1 65536).toInt64 * dl), vp_updL CY j ((hs_cl c (hs_cl r 1 65536) 65536).toInt64 * dl), vp_updL SE j 0, DR, PR, QU, DF, YQ, QC, PT, YL)) : wpY_addInner post (lk, ql, dl, sd, K, P, RY, EY, T, CY, SE, DR, PR, QU, DF, YQ, QC, PT, YL) (nI j) r c := by
  unfold wpY_addInner
  refine br_f (hs_n1 h1 hj) (br_t (hs_le15 hj) ⟨hs_in hj, br_t (by rw [hs_c hj]; exact hk) ⟨hs_in hj, nm_e ⟨hs_in hj, nm_e (hs_ysb hj ?_)⟩⟩⟩)
  simp only [hs_c hj]
  exact hp
theorem hs_k_open {j : Nat} {kd p : Int32} (hK : hs_K K P) (h1 : 1 ≤ j) (hj : j < 16) (hk : K j = 0) (h : kd ≠ 1) (hl : kd = 3 → ∃ q, q ≠ 0 ∧ q < 16 ∧ p = nI q ∧ K q = 2) : hs_K (upd K j kd) (upd P j p) := by
  have n2 : ∀ q, K q = 2 → q ≠ j := fun q hq e => by rw [e, hk] at hq; exact absurd hq (by decide)
  refine ⟨by rw [pk_un (by omega)]; exact hK.1, fun i hi h0 => ?_, fun i hi h3 => ?_⟩
  · by_cases e : i = j
    · subst e; rw [pk_us]; exact h
    · rw [pk_un e]; exact hK.2.1 i hi h0
  · by_cases e : i = j
    · subst e
      rw [pk_us] at h3
      obtain ⟨q, a, b, c, d⟩ := hl h3
      exact ⟨q, a, b, by rw [pk_us]; exact c, by rw [pk_un (n2 q d)]; exact d⟩
    · rw [pk_un e] at h3
      obtain ⟨q, a, b, c, d⟩ := hK.2.2 i hi h3
      exact ⟨q, a, b, by rw [pk_un e]; exact c, by rw [pk_un (n2 q d)]; exact d⟩
theorem hs_z_open {j : Nat} {kd p : Int32} (hZ : hs_Z K P SE DR PR DF QC) (h : kd ≠ 0) : hs_Z (upd K j kd) (upd P j p) SE DR PR DF QC := by
  intro i hi h0
  by_cases e : i = j
  · subst e; rw [pk_us] at h0; exact absurd h0 h
  · rw [pk_un e] at h0
    have z := hZ i hi h0
    exact ⟨by rw [pk_un e]; exact z.1, z.2⟩
theorem hs_b_open {j : Nat} {r c : Int32} {a b : Int64} (hB : hs_B lk R CE T CX RY EY CY) (h1 : 1 ≤ j) : hs_B lk (upd R j r) (upd CE j c) (vp_updL T j a) (vp_updL CX j b) (vp_updL RY j r.toInt64) (vp_updL EY j c.toInt64) (vp_updL CY j b) := by
  have n0 : (0 : Nat) ≠ j := by omega
  refine ⟨by rw [pk_un n0]; exact hB.1, by rw [pk_un n0, pk_un n0]; exact hB.2.1, by rw [pk_uLn n0, pk_uLn n0]; exact hB.2.2.1, fun i hi => ?_⟩
  by_cases e : i = j
  · subst e; rw [pk_us, pk_us, pk_uLs, pk_uLs, pk_uLs, pk_uLs]; exact ⟨rfl, rfl, rfl⟩
  · rw [pk_un e, pk_un e, pk_uLn e, pk_uLn e, pk_uLn e, pk_uLn e]; exact hB.2.2.2 i hi
theorem i_vc_addInner {k : Nat} {u : SX} {v : SY} (I : i_Rel k u v) (hk : k + 5 ≤ 2563) (v1 : Int32) (v2 : Int32) (v3 : Int32) : wpX_addInner (fun r u' => wpY_addInner (fun r' v' => r' = r ∧ i_Rel (k + 5) u' v') v v1 v2 v3) u v1 v2 v3 := by
  obtain ⟨n, ql, dp, sd, lk, dl, K, P, R, CE, PR, QU, DF, PT, XQ, QH, QC, XL, YQ, YL, T, CX, SE, DR, RY, EY, CY, rfl, rfl, hA, hK, hZ, hB, hP, hQ, hL, rfl⟩ := I
  have J : i_Rel (k + 5) (ql, dp, sd, K, P, R, CE, T, CX, SE, DR, PR, QU, DF, PT, XQ, QH, QC, XL) (lk, ql, dl, sd, K, P, RY, EY, T, CY, SE, DR, PR, QU, DF, YQ, QC, PT, YL) := hs_mk hA hK hZ hB hP hQ hL
  rcases hs_ix1 v1 with h | ⟨h, g⟩ | ⟨j, h1, hj, rfl⟩
  · unfold wpX_addInner wpY_addInner
    exact br_t h (br_t h ⟨rfl, J⟩)
  · unfold wpX_addInner wpY_addInner
    exact br_f h (br_f g (br_f h (br_f g ⟨rfl, J⟩)))
  · by_cases hz : K j = 0
    · refine hs_xain h1 hj hz (hs_yain h1 hj hz ⟨rfl, ?_⟩)
      have z := hZ j hj hz
      rw [hs_uLs z.2.1, hA.2]
      have hP0 : upd P j 0 = P := hs_us z.1
      have k1 := hs_k_open (kd := 2) (p := 0) hK h1 hj hz (by decide) (fun e => absurd e (by decide))
      have k2 := hs_z_open (j := j) (kd := 2) (p := 0) hZ (by decide)
      rw [hP0] at k1 k2 ⊢
      have hA' := hA
      rw [hA.2] at hA'
      exact hs_mk hA' k1 k2 (hs_b_open hB h1) hP hQ hL
    · have hz' : ¬ K (nI j).toNatClampNeg = 0 := by rw [hs_c hj]; exact hz
      unfold wpX_addInner wpY_addInner
      exact br_f (hs_n1 h1 hj) (br_t (hs_le15 hj) ⟨hs_in hj, br_f hz' (br_f (hs_n1 h1 hj) (br_t (hs_le15 hj) ⟨hs_in hj, br_f hz' ⟨rfl, J⟩⟩))⟩)
theorem hs_xalf {post : Int32 → SX → Prop} {j p : Nat} {r c : Int32} (h1 : 1 ≤ j) (hj : j < 16) (hk : K j = 0) (hp16 : p < 16) (hkp : K p = 2) (hp : post 0 (ql, dp, sd, upd K j 3, upd P j (nI p), upd R j (hs_cl r 1 65536), upd CE j (hs_cl c (hs_cl r 1 65536) 65536), vp_updL T j ((hs_cl r 1 65536).toInt64 * dp.toInt64), vp_updL CX j ((hs_cl c (hs_cl r 1 65536) 65536).toInt64 * dp.toInt64), SE, DR, PR, upd QU j 256, DF, PT, XQ, QH, QC, XL)) : wpX_addLeaf post (ql, dp, sd, K, P, R, CE, T, CX, SE, DR, PR, QU, DF, PT, XQ, QH, QC, XL) (nI j) (nI p) r c := by
  unfold wpX_addLeaf
  refine br_f (hs_n1 h1 hj) (br_t (hs_le15 hj) ⟨hs_in hj, br_t (by rw [hs_c hj]; exact hk) (hs_xkind hp16 (br_t hkp (hs_xopen hj ⟨hs_in hj, nm_e ⟨hs_in hj, nm_e ?_⟩⟩)))⟩)
  simp only [hs_c hj]
  exact hp
theorem hs_xalf_bad {post : Int32 → SX → Prop} {j : Nat} {q r c : Int32} (h1 : 1 ≤ j) (hj : j < 16) (hk : K j = 0) (hq : hs_out q ∨ ∃ p, p < 16 ∧ ¬ K p = 2 ∧ q = nI p) (hp : post (-3) (ql, dp, sd, K, P, R, CE, T, CX, SE, DR, PR, QU, DF, PT, XQ, QH, QC, XL)) : wpX_addLeaf post (ql, dp, sd, K, P, R, CE, T, CX, SE, DR, PR, QU, DF, PT, XQ, QH, QC, XL) (nI j) q r c := by
  unfold wpX_addLeaf
  refine br_f (hs_n1 h1 hj) (br_t (hs_le15 hj) ⟨hs_in hj, br_t (by rw [hs_c hj]; exact hk) ?_⟩)
  rcases hq with h | ⟨p, a, b, rfl⟩
  · exact hs_xkind_o h (br_f (by decide) hp)
  · exact hs_xkind a (br_f b hp)
theorem hs_yalf {post : Int32 → SY → Prop} {j p : Nat} {r c : Int32} (h1 : 1 ≤ j) (hj : j < 16) (hk : K j = 0) (hp16 : p < 16) (hkp : K p = 2) (hp : post 0 (lk, ql, dl, sd, upd K j 3, upd P j (nI p), vp_updL RY j (hs_cl r 1 65536).toInt64, vp_updL EY j (hs_cl c (hs_cl r 1 65536) 65536).toInt64, vp_updL T j ((hs_cl r 1 65536).toInt64 * dl), vp_updL CY j ((hs_cl c (hs_cl r 1 65536) 65536).toInt64 * dl), vp_updL SE j 0, vp_updL DR j 0, upd PR j 0, upd QU j 256, upd (upd (upd DF (j * 3) 0) (j * 3 + 1) 0) (j * 3 + 2) 0, YQ, upd QC j 0, PT, YL)) : wpY_addLeaf post (lk, ql, dl, sd, K, P, RY, EY, T, CY, SE, DR, PR, QU, DF, YQ, QC, PT, YL) (nI j) (nI p) r c := by
  have e0 : nI j * 3 = nI (j * 3) := pk_mul j 3
  have e1 : nI (j * 3) + 1 = nI (j * 3 + 1) := nI_1 _
  have e2 : nI (j * 3) + 2 = nI (j * 3 + 2) := nI_add _ 2
  unfold wpY_addLeaf
  refine br_f (hs_n1 h1 hj) (br_t (hs_le15 hj) ⟨hs_in hj, br_t (by rw [hs_c hj]; exact hk) (br_f (hs_n0 hp16) (br_f (hs_nlt15 hp16) ⟨hs_in hp16, br_t (by rw [hs_c hp16]; exact hkp) ⟨hs_in hj, nm_e ⟨hs_in hj, nm_e (hs_ysb hj ⟨hs_in hj, nm_e ⟨hs_in hj, nm_e ⟨hs_in hj, nm_e ?_⟩⟩⟩)⟩⟩⟩))⟩)
  simp only [e0, e1, e2]
  refine ⟨vp_in_nI (by omega) (by decide), nm_e ⟨vp_in_nI (by omega) (by decide), nm_e ⟨vp_in_nI (by omega) (by decide), nm_e ⟨hs_in hj, nm_e ?_⟩⟩⟩⟩
  simp only [hs_c hj]
  rw [nI_clamp (by omega), nI_clamp (by omega), nI_clamp (by omega)]
  exact hp
theorem hs_yalf_bad {post : Int32 → SY → Prop} {j : Nat} {q r c : Int32} (h1 : 1 ≤ j) (hj : j < 16) (hk : K j = 0) (hq : hs_out q ∨ ∃ p, p < 16 ∧ ¬ K p = 2 ∧ q = nI p) (hp : post (-3) (lk, ql, dl, sd, K, P, RY, EY, T, CY, SE, DR, PR, QU, DF, YQ, QC, PT, YL)) : wpY_addLeaf post (lk, ql, dl, sd, K, P, RY, EY, T, CY, SE, DR, PR, QU, DF, YQ, QC, PT, YL) (nI j) q r c := by
  unfold wpY_addLeaf
  refine br_f (hs_n1 h1 hj) (br_t (hs_le15 hj) ⟨hs_in hj, br_t (by rw [hs_c hj]; exact hk) ?_⟩)
  rcases hq with h | ⟨p, a, b, rfl⟩
  · rcases h with h | h
    · exact br_t h hp
    · exact br_f (hs_o1 h) (br_t (hs_o3 h) hp)
  · exact br_f (hs_n0 a) (br_f (hs_nlt15 a) ⟨hs_in a, br_f (by rw [hs_c a]; exact b) hp⟩)
theorem i_vc_addLeaf {k : Nat} {u : SX} {v : SY} (I : i_Rel k u v) (hk : k + 5 ≤ 2563) (v1 : Int32) (v2 : Int32) (v3 : Int32) (v4 : Int32) : wpX_addLeaf (fun r u' => wpY_addLeaf (fun r' v' => r' = r ∧ i_Rel (k + 5) u' v') v v1 v2 v3 v4) u v1 v2 v3 v4 := by
  obtain ⟨n, ql, dp, sd, lk, dl, K, P, R, CE, PR, QU, DF, PT, XQ, QH, QC, XL, YQ, YL, T, CX, SE, DR, RY, EY, CY, rfl, rfl, hA, hK, hZ, hB, hP, hQ, hL, rfl⟩ := I
  have J : i_Rel (k + 5) (ql, dp, sd, K, P, R, CE, T, CX, SE, DR, PR, QU, DF, PT, XQ, QH, QC, XL) (lk, ql, dl, sd, K, P, RY, EY, T, CY, SE, DR, PR, QU, DF, YQ, QC, PT, YL) := hs_mk hA hK hZ hB hP hQ hL
  rcases hs_ix1 v1 with h | ⟨h, g⟩ | ⟨j, h1, hj, rfl⟩
  · unfold wpX_addLeaf wpY_addLeaf
    exact br_t h (br_t h ⟨rfl, J⟩)
  · unfold wpX_addLeaf wpY_addLeaf
    exact br_f h (br_f g (br_f h (br_f g ⟨rfl, J⟩)))
  · by_cases hz : K j = 0
    · have hq : (∃ p, p < 16 ∧ K p = 2 ∧ v2 = nI p) ∨ (hs_out v2 ∨ ∃ p, p < 16 ∧ ¬ K p = 2 ∧ v2 = nI p) := by
        rcases hs_ix v2 with h | ⟨p, hp16, e⟩
        · exact Or.inr (Or.inl h)
        · by_cases h2 : K p = 2
          · exact Or.inl ⟨p, hp16, h2, e⟩
          · exact Or.inr (Or.inr ⟨p, hp16, h2, e⟩)
      rcases hq with ⟨p, hp16, h2, rfl⟩ | hq
      · refine hs_xalf h1 hj hz hp16 h2 (hs_yalf h1 hj hz hp16 h2 ⟨rfl, ?_⟩)
        obtain ⟨z1, z2, z3, z4, z5, z6, z7, z8⟩ := hZ j hj hz
        have p0 : p ≠ 0 := fun e => by rw [e, hK.1] at h2; exact absurd h2 (by decide)
        rw [hs_uLs z2, hs_uLs z3, hs_us z4, hs_us z5, hs_us z6, hs_us z7, hs_us z8, hA.2]
        have hA' := hA
        rw [hA.2] at hA'
        exact hs_mk hA' (hs_k_open hK h1 hj hz (by decide) (fun _ => ⟨p, p0, hp16, rfl, h2⟩)) (hs_z_open hZ (by decide)) (hs_b_open hB h1) hP hQ hL
      · exact hs_xalf_bad h1 hj hz hq (hs_yalf_bad h1 hj hz hq ⟨rfl, J⟩)
    · have hz' : ¬ K (nI j).toNatClampNeg = 0 := by rw [hs_c hj]; exact hz
      unfold wpX_addLeaf wpY_addLeaf
      exact br_f (hs_n1 h1 hj) (br_t (hs_le15 hj) ⟨hs_in hj, br_f hz' (br_f (hs_n1 h1 hj) (br_t (hs_le15 hj) ⟨hs_in hj, br_f hz' ⟨rfl, J⟩⟩))⟩)
/-- the first i pointers at 1 -/
def hs_p1 (i : Nat) : Nat → Int32 := fun j => if j < i then 1 else 0
theorem hs_p1_s (i : Nat) : upd (hs_p1 i) i 1 = hs_p1 (i + 1) := by
  funext j
  unfold hs_p1
  by_cases e : j = i
  · subst e; rw [pk_us, if_pos (by omega)]
  · rw [pk_un e]
    by_cases f : j < i
    · rw [if_pos f, if_pos (by omega)]
    · rw [if_neg f, if_neg (by omega)]
abbrev hs_o : Nat → Int32 := fun _ => 0
theorem hs_p1_0 : hs_p1 0 = hs_o := by
  funext j; unfold hs_p1 hs_o; rw [if_neg (by omega)]
theorem hs_xin {post : SX → Prop} {x : Int32} (H : post (ql, dp, sd, upd K 0 1, P, upd R 0 (hs_cl (hs_cl x 16 65536) 1 65536), upd CE 0 (hs_cl (hs_cl x 16 65536) (hs_cl (hs_cl x 16 65536) 1 65536) 65536), vp_updL T 0 ((hs_cl (hs_cl x 16 65536) 1 65536).toInt64 * dp.toInt64), vp_updL CX 0 ((hs_cl (hs_cl x 16 65536) (hs_cl (hs_cl x 16 65536) 1 65536) 65536).toInt64 * dp.toInt64), SE, DR, PR, QU, DF, hs_p1 12, XQ, QH, QC, XL)) : ∀ d i : Nat, i + d = 12 → wX_init_163 post x ql dp sd (d + 1) (nI i) K P R CE T CX SE DR PR QU DF (hs_p1 i) XQ QH QC XL := by
  intro d
  induction d with
  | zero =>
    intro i hi
    have e : i = 12 := by omega
    subst e
    exact br_t (nI_le (a := 12) (by omega) (by omega)) (hs_xclamp (hs_xopen (j := 0) (by omega) H))
  | succ d ih =>
    intro i hi
    refine br_f (nI_ge (b := 12) (by omega) (by omega)) ⟨vp_in_nI (by omega) (by omega), nm_r ?_ (nm_r (nI_1 i) (ih (i + 1) (by omega)))⟩
    rw [nI_clamp (by omega), hs_p1_s]
theorem hs_xin0 {post : SX → Prop} {x : Int32} (H : post (ql, dp, sd, upd K 0 1, P, upd R 0 (hs_cl (hs_cl x 16 65536) 1 65536), upd CE 0 (hs_cl (hs_cl x 16 65536) (hs_cl (hs_cl x 16 65536) 1 65536) 65536), vp_updL T 0 ((hs_cl (hs_cl x 16 65536) 1 65536).toInt64 * dp.toInt64), vp_updL CX 0 ((hs_cl (hs_cl x 16 65536) (hs_cl (hs_cl x 16 65536) 1 65536) 65536).toInt64 * dp.toInt64), SE, DR, PR, QU, DF, hs_p1 12, XQ, QH, QC, XL)) : wX_init_163 post x ql dp sd 13 0 K P R CE T CX SE DR PR QU DF hs_o XQ QH QC XL := by
  have h : wX_init_163 post x ql dp sd 13 (nI 0) K P R CE T CX SE DR PR QU DF (hs_p1 0) XQ QH QC XL := hs_xin H 12 0 (by omega)
  rw [hs_p1_0] at h
  exact h
theorem hs_yin {post : SY → Prop} (H : post (lk, ql, dl, 0, K, P, RY, EY, T, CY, SE, DR, PR, QU, DF, YQ, QC, hs_p1 12, YL)) : ∀ d i : Nat, i + d = 12 → wY_init_237 post lk ql dl sd (d + 1) (nI i) K P RY EY T CY SE DR PR QU DF YQ QC (hs_p1 i) YL := by
  intro d
  induction d with
  | zero =>
    intro i hi
    have e : i = 12 := by omega
    subst e
    exact br_t (nI_le (a := 12) (by omega) (by omega)) H
  | succ d ih =>
    intro i hi
    refine br_f (nI_ge (b := 12) (by omega) (by omega)) ⟨vp_in_nI (by omega) (by omega), nm_r ?_ (nm_r (nI_1 i) (ih (i + 1) (by omega)))⟩
    rw [nI_clamp (by omega), hs_p1_s]
theorem hs_yin0 {post : SY → Prop} (H : post (lk, ql, dl, 0, K, P, RY, EY, T, CY, SE, DR, PR, QU, DF, YQ, QC, hs_p1 12, YL)) : wY_init_237 post lk ql dl sd 13 0 K P RY EY T CY SE DR PR QU DF YQ QC hs_o YL := by
  have h : wY_init_237 post lk ql dl sd 13 (nI 0) K P RY EY T CY SE DR PR QU DF YQ QC (hs_p1 0) YL := hs_yin H 12 0 (by omega)
  rw [hs_p1_0] at h
  exact h
theorem hs_yin196 {post : SY → Prop} {a b : Int32} (H : post (a.toInt64, ql, b.toInt64, 0, upd K 0 1, P, RY, EY, vp_updL T 0 (a.toInt64 * b.toInt64), CY, SE, DR, PR, QU, DF, YQ, QC, hs_p1 12, YL)) : wY_init_196 post a b lk ql dl sd K P RY EY T CY SE DR PR QU DF YQ QC hs_o YL := by
  unfold wY_init_196
  refine nm_e (nm_e ⟨13, hs_yin0 H⟩)
theorem hs_yin172 {post : SY → Prop} {a x z : Int32} (H : post (a.toInt64, z, (hs_cl x 1 16).toInt64, 0, upd K 0 1, P, RY, EY, vp_updL T 0 (a.toInt64 * (hs_cl x 1 16).toInt64), CY, SE, DR, PR, QU, DF, YQ, QC, hs_p1 12, YL)) : wY_init_172 post x a z lk ql dl sd K P RY EY T CY SE DR PR QU DF YQ QC hs_o YL := by
  unfold wY_init_172
  refine br_c (fun c => br_c (fun d => hs_yin196 ?_) (fun d => hs_yin196 ?_)) (fun c => hs_yin196 ?_)
  · have e : hs_cl x 1 16 = x := by unfold hs_cl; rw [if_pos c, if_pos d]
    rw [e] at H; exact H
  · have e : hs_cl x 1 16 = 16 := by unfold hs_cl; rw [if_pos c, if_neg d]
    rw [e] at H; exact H
  · have e : hs_cl x 1 16 = 1 := by unfold hs_cl; rw [if_neg c]
    rw [e] at H; exact H
theorem hs_yin148 {post : SY → Prop} {a x w : Int32} (H : post (a.toInt64, hs_cl w 1 8, (hs_cl x 1 16).toInt64, 0, upd K 0 1, P, RY, EY, vp_updL T 0 (a.toInt64 * (hs_cl x 1 16).toInt64), CY, SE, DR, PR, QU, DF, YQ, QC, hs_p1 12, YL)) : wY_init_148 post w x a lk ql dl sd K P RY EY T CY SE DR PR QU DF YQ QC hs_o YL := by
  unfold wY_init_148
  refine br_c (fun c => br_c (fun d => hs_yin172 ?_) (fun d => hs_yin172 ?_)) (fun c => hs_yin172 ?_)
  · have e : hs_cl w 1 8 = w := by unfold hs_cl; rw [if_pos c, if_pos d]
    rw [e] at H; exact H
  · have e : hs_cl w 1 8 = 8 := by unfold hs_cl; rw [if_pos c, if_neg d]
    rw [e] at H; exact H
  · have e : hs_cl w 1 8 = 1 := by unfold hs_cl; rw [if_neg c]
    rw [e] at H; exact H
end HSE
section HSF
theorem hs_yini {post : SY → Prop} {y w x : Int32} (H : post ((hs_cl y 16 65536).toInt64, hs_cl w 1 8, (hs_cl x 1 16).toInt64, 0, upd (fun _ => 0) 0 1, (fun _ => 0), (fun _ => 0), (fun _ => 0), vp_updL (fun _ => 0) 0 ((hs_cl y 16 65536).toInt64 * (hs_cl x 1 16).toInt64), (fun _ => 0), (fun _ => 0), (fun _ => 0), (fun _ => 0), (fun _ => 0), (fun _ => 0), (fun _ => 0), (fun _ => 0), hs_p1 12, (fun _ => 0))) : wpY_init post y w x := by
  unfold wpY_init
  refine br_c (fun c => br_c (fun d => hs_yin148 ?_) (fun d => hs_yin148 ?_)) (fun c => hs_yin148 ?_)
  · have e : hs_cl y 16 65536 = y := by unfold hs_cl; rw [if_pos c, if_pos d]
    rw [e] at H; exact H
  · have e : hs_cl y 16 65536 = 65536 := by unfold hs_cl; rw [if_pos c, if_neg d]
    rw [e] at H; exact H
  · have e : hs_cl y 16 65536 = 16 := by unfold hs_cl; rw [if_neg c]
    rw [e] at H; exact H
theorem i_vc0 (k0 : Int32) (k1 : Int32) (k2 : Int32) : wpX_init (fun u => wpY_init (fun v => i_Rel 3 u v) k0 k1 k2) k0 k1 k2 := by
  unfold wpX_init
  refine hs_xclamp (hs_xclamp ⟨13, ?_⟩)
  obtain ⟨a, a16, a65, ea⟩ := hs_cl_in (v := k0) (lo := 16) (hi := 65536) (a := 16) (b := 65536) rfl rfl (by omega) (by omega)
  have e1 : hs_cl (hs_cl k0 16 65536) 1 65536 = hs_cl k0 16 65536 := by
    rw [ea]
    exact hs_cl_id (nI_le (a := 1) (by omega) (by omega)) (nI_le (b := 65536) (by omega) (by omega))
  have e2 : hs_cl (hs_cl k0 16 65536) (hs_cl k0 16 65536) 65536 = hs_cl k0 16 65536 := by
    rw [ea]
    exact hs_cl_id (nI_le (Nat.le_refl a) (by omega)) (nI_le (b := 65536) (by omega) (by omega))
  refine hs_xin0 ?_
  rw [e1, e2]
  refine hs_yini (hs_mk ⟨?_, rfl⟩ ⟨?_, ?_, ?_⟩ ?_ ⟨?_, ?_, ?_, ?_⟩ ⟨?_, ?_⟩ ?_ ?_)
  · exact hs_cl_in (v := k1) (lo := 1) (hi := 8) (a := 1) (b := 8) rfl rfl (by omega) (by omega)
  · exact pk_us
  · intro i hi h0; rw [pk_un h0]; decide
  · intro i hi h3
    by_cases e : i = 0
    · subst e; rw [pk_us] at h3; exact absurd h3 (by decide)
    · rw [pk_un e] at h3; exact absurd h3 (by decide)
  · intro i hi h0
    exact ⟨rfl, rfl, rfl, rfl, rfl, rfl, rfl, rfl⟩
  · rw [pk_us]
  · rw [pk_us]
  · rw [pk_uLs]
  · intro i h0
    rw [pk_un h0, pk_uLn h0]
    exact ⟨(by decide : (0 : Int64) = (0 : Int32).toInt64), (by decide : (0 : Int64) = (0 : Int32).toInt64), rfl⟩
  · intro i; exact ⟨0, by omega, rfl⟩
  · intro j hj
    refine ⟨1, by omega, by omega, ?_⟩
    unfold hs_p1; rw [if_pos hj]; rfl
  · intro i hi
    exact ⟨0, 0, by omega, by omega, rfl, rfl, fun j hj => absurd hj (by omega)⟩
  · intro j hj; rfl
end HSF
end
section
/-! lending level, least level, least priority, the scan, of both sides -/
section HSG
variable {ql dp sd : Int32} {lk dl : Int64} {K P R CE PR QU DF PT XQ QH QC XL YQ YL : Nat → Int32} {T CX SE DR RY EY CY : Nat → Int64}
theorem hs_lv_no {j : Nat} (h : ¬ (K j = 3 ∧ ¬ QC j = 0)) : hs_lv K P QC T CX j = 3 := by
  unfold hs_lv; rw [if_neg h]
theorem hs_lv_eq {j p : Nat} (hk : K j = 3) (hq : ¬ QC j = 0) (ep : P j = nI p) (hp : p < 16) : hs_lv K P QC T CX j = if hs_bc T CX j = 2 ∨ hs_bc T CX p = 2 ∨ hs_bc T CX 0 = 2 then 3 else if hs_bc T CX j = 0 then 0 else if hs_bc T CX p = 0 then 1 else 2 := by
  unfold hs_lv; rw [if_pos ⟨hk, hq⟩, ep, nI_clamp (by omega)]
theorem hs_xlv {post : Int32 → Prop} {j : Nat} (hj : j < 16) (hK : hs_K K P) (hp : post (nI (hs_lv K P QC T CX j))) : wpX_lendingLevel post (ql, dp, sd, K, P, R, CE, T, CX, SE, DR, PR, QU, DF, PT, XQ, QH, QC, XL) (nI j) := by
  unfold wpX_lendingLevel
  refine ⟨hs_in hj, ?_⟩
  rw [hs_c hj]
  by_cases hk : K j = 3
  · refine br_t hk ⟨hs_in hj, ?_⟩
    by_cases hq : QC j = 0
    · rw [hs_lv_no (fun z => z.2 hq)] at hp
      exact br_t hq hp
    · obtain ⟨p, p0, p16, ep, ekp⟩ := hK.2.2 j hj hk
      refine br_f hq (hs_xbc hj ⟨hs_in hj, ?_⟩)
      rw [ep]
      refine hs_xbc p16 (hs_xbc (j := 0) (by omega) ?_)
      rw [hs_lv_eq hk hq ep p16] at hp
      have b1 := hs_bc_le T CX j
      have b2 := hs_bc_le T CX p
      have b3 := hs_bc_le T CX 0
      refine pk_eq (hs_bc T CX j) 2 (fun e1 => ?_) (fun e1 => pk_eq (hs_bc T CX p) 2 (fun e2 => ?_) (fun e2 => pk_eq (hs_bc T CX 0) 2 (fun e3 => ?_) (fun e3 => pk_eq (hs_bc T CX j) 0 (fun e4 => ?_) (fun e4 => pk_eq (hs_bc T CX p) 0 (fun e5 => ?_) (fun e5 => ?_)))))
      · rw [if_pos (Or.inl e1)] at hp; exact hp
      · rw [if_pos (Or.inr (Or.inl e2))] at hp; exact hp
      · rw [if_pos (Or.inr (Or.inr e3))] at hp; exact hp
      · rw [if_neg (by omega), if_pos e4] at hp; exact hp
      · rw [if_neg (by omega), if_neg e4, if_pos e5] at hp; exact hp
      · rw [if_neg (by omega), if_neg e4, if_neg e5] at hp; exact hp
  · rw [hs_lv_no (fun z => hk z.1)] at hp
    exact br_f hk hp
/-- Y's way to say a level: -1 where none -/
def hs_yl (n : Nat) : Int32 := if n = 3 then -1 else nI n
theorem hs_yl3 : hs_yl 3 = -1 := if_pos rfl
theorem hs_yl_lt {n : Nat} (h : n ≠ 3) : hs_yl n = nI n := if_neg h
theorem hs_yl_ne {n v : Nat} (h : n ≤ 3) (hv : v ≤ 2) (hn : n ≠ v) : ¬ hs_yl n = nI v := by
  by_cases e : n = 3
  · subst e
    rw [hs_yl3]
    intro z
    have h0 := nI_pos (n := v) (by omega)
    rw [← z] at h0
    exact h0 (by decide)
  · rw [hs_yl_lt e, nI_eq (by omega) (by omega)]; exact hn
theorem hs_ylv {post : Int32 → Prop} {j : Nat} (hj : j < 16) (hK : hs_K K P) (hB : hs_B lk R CE T CX RY EY CY) (hp : post (hs_yl (hs_lv K P QC T CX j))) : wpY_levelOf post (lk, ql, dl, sd, K, P, RY, EY, T, CY, SE, DR, PR, QU, DF, YQ, QC, PT, YL) (nI j) := by
  unfold wpY_levelOf
  by_cases hk : K j = 3
  · refine hs_yleaf1 hj hk (br_f (by decide) ⟨hs_in hj, ?_⟩)
    rw [hs_c hj]
    by_cases hq : QC j = 0
    · rw [hs_lv_no (fun z => z.2 hq), hs_yl3] at hp
      exact br_t hq hp
    · obtain ⟨p, p0, p16, ep, ekp⟩ := hK.2.2 j hj hk
      refine br_f hq (hs_ybc hj (hs_30 hk) hB ⟨hs_in hj, ?_⟩)
      rw [ep]
      refine hs_ybc p16 (by rw [ekp]; decide) hB (hs_ybc (j := 0) (by omega) (by rw [hK.1]; decide) hB ?_)
      rw [hs_lv_eq hk hq ep p16] at hp
      have b1 := hs_bc_le T CX j
      have b2 := hs_bc_le T CX p
      have b3 := hs_bc_le T CX 0
      refine pk_eq (hs_bc T CX j) 2 (fun e1 => ?_) (fun e1 => pk_eq (hs_bc T CX p) 2 (fun e2 => ?_) (fun e2 => pk_eq (hs_bc T CX 0) 2 (fun e3 => ?_) (fun e3 => pk_eq (hs_bc T CX j) 0 (fun e4 => ?_) (fun e4 => pk_eq (hs_bc T CX p) 0 (fun e5 => ?_) (fun e5 => ?_)))))
      · rw [if_pos (Or.inl e1), hs_yl3] at hp; exact hp
      · rw [if_pos (Or.inr (Or.inl e2)), hs_yl3] at hp; exact hp
      · rw [if_pos (Or.inr (Or.inr e3)), hs_yl3] at hp; exact hp
      · rw [if_neg (by omega), if_pos e4, hs_yl_lt (by decide)] at hp; exact hp
      · rw [if_neg (by omega), if_neg e4, if_pos e5, hs_yl_lt (by decide)] at hp; exact hp
      · rw [if_neg (by omega), if_neg e4, if_neg e5, hs_yl_lt (by decide)] at hp; exact hp
  · rw [hs_lv_no (fun z => hk z.1), hs_yl3] at hp
    exact hs_yleaf0 hj hk (br_t rfl hp)
theorem hs_15lt {i : Nat} (h : 15 ≤ i) (hi : i < 100) : (15 : Int32) < nI (i + 1) := nI_lt (a := 15) (by omega) (by omega)
theorem hs_xml {post : Int32 → Prop} (hK : hs_K K P) (hp : post (nI (hs_ml (hs_lv K P QC T CX) 15))) : ∀ d i : Nat, i + d = 15 → wX_leastLendingLevel_4 post ql dp sd K P R CE T CX SE DR PR QU DF PT XQ QH QC XL (d + 1) (nI (hs_ml (hs_lv K P QC T CX) i)) (nI (i + 1)) := by
  intro d
  induction d with
  | zero =>
    intro i hi
    have e : i = 15 := by omega
    subst e
    exact br_t (hs_15lt (by omega) (by omega)) hp
  | succ d ih =>
    intro i hi
    have ih' := ih (i + 1) (by omega)
    rw [hs_ml_s] at ih'
    have l1 := hs_ml_le (hs_lv K P QC T CX) i
    have l2 := hs_lv_le K P QC T CX (i + 1)
    refine br_f (hs_nlt15 (by omega)) (hs_xlv (by omega) hK (pk_le (hs_ml (hs_lv K P QC T CX) i) (hs_lv K P QC T CX (i + 1)) (fun a => nm_r (nI_1 (i + 1)) ?_) (fun a => nm_r (nI_1 (i + 1)) ?_)))
    · rw [if_neg (by omega)] at ih'; exact ih'
    · rw [if_pos a] at ih'; exact ih'
theorem hs_xml0 {post : Int32 → Prop} (hK : hs_K K P) (hp : post (nI (hs_ml (hs_lv K P QC T CX) 15))) : wpX_leastLendingLevel post (ql, dp, sd, K, P, R, CE, T, CX, SE, DR, PR, QU, DF, PT, XQ, QH, QC, XL) := by
  unfold wpX_leastLendingLevel
  exact ⟨16, hs_xml hK hp 15 0 (by omega)⟩
theorem hs_xmp {post : Int32 → Prop} {v : Nat} {pr : Nat → Nat} (hv : v ≤ 2) (hK : hs_K K P) (hpr : ∀ i, PR i = nI (pr i)) (h3 : ∀ i, pr i ≤ 3) (hp : post (nI (hs_mp (hs_lv K P QC T CX) pr v 3 15))) : ∀ d i : Nat, i + d = 15 → wX_leastPriority_4 post (nI v) ql dp sd K P R CE T CX SE DR PR QU DF PT XQ QH QC XL (d + 1) (nI (hs_mp (hs_lv K P QC T CX) pr v 3 i)) (nI (i + 1)) := by
  intro d
  induction d with
  | zero =>
    intro i hi
    have e : i = 15 := by omega
    subst e
    exact br_t (hs_15lt (by omega) (by omega)) hp
  | succ d ih =>
    intro i hi
    have ih' := ih (i + 1) (by omega)
    rw [hs_mp_s] at ih'
    have l1 := hs_mp_le (hs_lv K P QC T CX) pr v 3 i
    have l2 := hs_lv_le K P QC T CX (i + 1)
    have l3 := h3 (i + 1)
    refine br_f (hs_nlt15 (by omega)) ⟨hs_in (by omega), ?_⟩
    rw [hs_c (by omega), hpr (i + 1)]
    refine pk_le (hs_mp (hs_lv K P QC T CX) pr v 3 i) (pr (i + 1)) (fun a => nm_r (nI_1 (i + 1)) ?_) (fun a => hs_xlv (by omega) hK (pk_eq (hs_lv K P QC T CX (i + 1)) v (fun b => ⟨hs_in (by omega), nm_e (nm_r (nI_1 (i + 1)) ?_)⟩) (fun b => nm_r (nI_1 (i + 1)) ?_)))
    · rw [if_neg (by omega)] at ih'; exact ih'
    · rw [if_pos ⟨a, b⟩] at ih'; exact ih'
    · rw [if_neg (fun z => b z.2)] at ih'; exact ih'
theorem hs_xmp0 {post : Int32 → Prop} {v : Nat} {pr : Nat → Nat} (hv : v ≤ 2) (hK : hs_K K P) (hpr : ∀ i, PR i = nI (pr i)) (h3 : ∀ i, pr i ≤ 3) (hp : post (nI (hs_mp (hs_lv K P QC T CX) pr v 3 15))) : wpX_leastPriority post (ql, dp, sd, K, P, R, CE, T, CX, SE, DR, PR, QU, DF, PT, XQ, QH, QC, XL) (nI v) := by
  unfold wpX_leastPriority
  exact ⟨16, hs_xmp hv hK hpr h3 hp 15 0 (by omega)⟩
theorem hs_xnext {post : Int32 → Prop} {i : Nat} (hi : i < 16) (hp : post (nI (if 15 ≤ i then 1 else i + 1))) : wpX_nextId post (nI i) := by
  unfold wpX_nextId
  refine pk_lt i 15 (fun a => ?_) (fun a => ?_)
  · rw [if_neg (by omega)] at hp; rw [nI_1]; exact hp
  · rw [if_pos a] at hp; exact hp
theorem hs_xfg {post : Int32 → Prop} {v p s m : Nat} {pr : Nat → Nat} (hv : v ≤ 2) (hp3 : p ≤ 3) (hK : hs_K K P) (hpr : ∀ i, PR i = nI (pr i)) (h3 : ∀ i, pr i ≤ 3) (hm : m < 15) (hg : ∀ k, k < m → ¬ (pr (hs_rg s k) = p ∧ hs_lv K P QC T CX (hs_rg s k) = v)) (hM : pr (hs_rg s m) = p ∧ hs_lv K P QC T CX (hs_rg s m) = v) (hp : post (nI (hs_rg s m))) : ∀ d k : Nat, k + d = m → wX_firstOfGroup_14 post (nI v) (nI p) ql dp sd K P R CE T CX SE DR PR QU DF PT XQ QH QC XL (d + 1) (nI (hs_rg s k)) (nI k) := by
  intro d
  induction d with
  | zero =>
    intro k hk
    have e : k = m := by omega
    subst e
    have r := hs_rg_in s k
    refine br_f (nI_ge (b := 15) (by omega) (by omega)) ⟨hs_in (by omega), ?_⟩
    rw [hs_c (by omega), hpr]
    exact br_t (congrArg nI hM.1) (hs_xlv (by omega) hK (br_t (congrArg nI hM.2) hp))
  | succ d ih =>
    intro k hk
    have r := hs_rg_in s k
    have l2 := hs_lv_le K P QC T CX (hs_rg s k)
    have l3 := h3 (hs_rg s k)
    have ih' := ih (k + 1) (by omega)
    rw [hs_rg_s] at ih'
    have nx : wX_firstOfGroup_42 post (wX_firstOfGroup_14 post (nI v) (nI p) ql dp sd K P R CE T CX SE DR PR QU DF PT XQ QH QC XL (d + 1)) (nI v) (nI p) (nI (hs_rg s k)) (nI k) ql dp sd K P R CE T CX SE DR PR QU DF PT XQ QH QC XL := by
      unfold wX_firstOfGroup_42
      exact hs_xnext (by omega) (nm_r (nI_1 k) ih')
    refine br_f (nI_ge (b := 15) (by omega) (by omega)) ⟨hs_in (by omega), ?_⟩
    rw [hs_c (by omega), hpr]
    exact pk_eq (pr (hs_rg s k)) p (fun a => hs_xlv (by omega) hK (pk_eq (hs_lv K P QC T CX (hs_rg s k)) v (fun b => absurd ⟨a, b⟩ (hg k (by omega))) (fun _ => nx))) (fun _ => nx)
theorem hs_v4 {v p : Nat} : nI v * 4 + nI p = nI (v * 4 + p) := by
  rw [show nI v * 4 = nI (v * 4) from pk_mul v 4, nI_add]
theorem hs_xfg0 {post : Int32 → Prop} {v p s m : Nat} {pr : Nat → Nat} (hv : v ≤ 2) (hp3 : p ≤ 3) (hK : hs_K K P) (hpr : ∀ i, PR i = nI (pr i)) (h3 : ∀ i, pr i ≤ 3) (es : PT (v * 4 + p) = nI s) (s1 : 1 ≤ s) (s15 : s ≤ 15) (hm : m < 15) (hg : ∀ k, k < m → ¬ (pr (hs_rg s k) = p ∧ hs_lv K P QC T CX (hs_rg s k) = v)) (hM : pr (hs_rg s m) = p ∧ hs_lv K P QC T CX (hs_rg s m) = v) (hp : post (nI (hs_rg s m))) : wpX_firstOfGroup post (ql, dp, sd, K, P, R, CE, T, CX, SE, DR, PR, QU, DF, PT, XQ, QH, QC, XL) (nI v) (nI p) := by
  unfold wpX_firstOfGroup
  rw [hs_v4]
  refine ⟨vp_in_nI (by omega) (by omega), nm_r (e' := nI (hs_rg s 0)) ?_ ⟨m + 1, hs_xfg hv hp3 hK hpr h3 hm hg hM hp m 0 (by omega)⟩⟩
  rw [nI_clamp (by omega), es, hs_rg_0 s1 s15]
theorem hs_y4 {post : Int32 → SY → Prop} (hK : hs_K K P) (hB : hs_B lk R CE T CX RY EY CY) (H0 : hs_ml (hs_lv K P QC T CX) 15 = 3 → post 0 (lk, ql, dl, sd, K, P, RY, EY, T, CY, SE, DR, PR, QU, DF, YQ, QC, PT, YL)) (H1 : hs_ml (hs_lv K P QC T CX) 15 ≠ 3 → ∃ n, wY_sendOne_44 post (nI (hs_ml (hs_lv K P QC T CX) 15)) lk ql dl sd K P RY EY T CY SE DR PR QU DF YQ QC PT YL n 4 1) : ∀ d i : Nat, i + d = 15 → wY_sendOne_4 post lk ql dl sd K P RY EY T CY SE DR PR QU DF YQ QC PT YL (d + 1) (nI (hs_ml (hs_lv K P QC T CX) i)) (nI (i + 1)) := by
  intro d
  induction d with
  | zero =>
    intro i hi
    have e : i = 15 := by omega
    subst e
    have l1 := hs_ml_le (hs_lv K P QC T CX) 15
    exact br_t (hs_15lt (by omega) (by omega)) (pk_eq (hs_ml (hs_lv K P QC T CX) 15) 3 H0 H1)
  | succ d ih =>
    intro i hi
    have ih' := ih (i + 1) (by omega)
    rw [hs_ml_s] at ih'
    have l1 := hs_ml_le (hs_lv K P QC T CX) i
    have l2 := hs_lv_le K P QC T CX (i + 1)
    refine br_f (hs_nlt15 (by omega)) (hs_ylv (by omega) hK hB ?_)
    by_cases c : hs_lv K P QC T CX (i + 1) = 3
    · rw [if_neg (by omega)] at ih'
      rw [c, hs_yl3]
      exact br_t (by decide) (nm_r (nI_1 (i + 1)) ih')
    · rw [hs_yl_lt c]
      refine br_f (nI_pos (by omega)) (pk_le (hs_ml (hs_lv K P QC T CX) i) (hs_lv K P QC T CX (i + 1)) (fun a => nm_r (nI_1 (i + 1)) ?_) (fun a => nm_r (nI_1 (i + 1)) ?_))
      · rw [if_neg (by omega)] at ih'; exact ih'
      · rw [if_pos a] at ih'; exact ih'
theorem hs_y40 {post : Int32 → SY → Prop} (hK : hs_K K P) (hB : hs_B lk R CE T CX RY EY CY) (H0 : hs_ml (hs_lv K P QC T CX) 15 = 3 → post 0 (lk, ql, dl, sd, K, P, RY, EY, T, CY, SE, DR, PR, QU, DF, YQ, QC, PT, YL)) (H1 : hs_ml (hs_lv K P QC T CX) 15 ≠ 3 → ∃ n, wY_sendOne_44 post (nI (hs_ml (hs_lv K P QC T CX) 15)) lk ql dl sd K P RY EY T CY SE DR PR QU DF YQ QC PT YL n 4 1) : wpY_sendOne post (lk, ql, dl, sd, K, P, RY, EY, T, CY, SE, DR, PR, QU, DF, YQ, QC, PT, YL) := by
  unfold wpY_sendOne
  exact ⟨16, hs_y4 hK hB H0 H1 15 0 (by omega)⟩
theorem hs_y44 {post : Int32 → SY → Prop} {v p : Nat} {pr : Nat → Nat} {x4 : Int32} (hv : v ≤ 2) (hp3 : p ≤ 3) (hK : hs_K K P) (hB : hs_B lk R CE T CX RY EY CY) (hpr : ∀ i, PR i = nI (pr i)) (h3 : ∀ i, pr i ≤ 3) (ep : hs_mp (hs_lv K P QC T CX) pr v 4 15 = p) (e4 : PT (v * 4 + p) = x4) (H : ∃ n, wY_sendOne_102 post (nI v) (nI p) (nI (v * 4 + p)) x4 lk ql dl sd K P RY EY T CY SE DR PR QU DF YQ QC PT YL n 0 0) : ∀ d i : Nat, i + d = 15 → wY_sendOne_44 post (nI v) lk ql dl sd K P RY EY T CY SE DR PR QU DF YQ QC PT YL (d + 1) (nI (hs_mp (hs_lv K P QC T CX) pr v 4 i)) (nI (i + 1)) := by
  intro d
  induction d with
  | zero =>
    intro i hi
    have e : i = 15 := by omega
    subst e
    rw [ep]
    exact br_t (hs_15lt (by omega) (by omega)) (nm_r hs_v4 ⟨vp_in_nI (by omega) (by omega), nm_r (by rw [nI_clamp (by omega), e4]) H⟩)
  | succ d ih =>
    intro i hi
    have ih' := ih (i + 1) (by omega)
    rw [hs_mp_s] at ih'
    have l1 := hs_mp_le (hs_lv K P QC T CX) pr v 4 i
    have l2 := hs_lv_le K P QC T CX (i + 1)
    have l3 := h3 (i + 1)
    refine br_f (hs_nlt15 (by omega)) (hs_ylv (by omega) hK hB ?_)
    by_cases b : hs_lv K P QC T CX (i + 1) = v
    · rw [b, hs_yl_lt (by omega)]
      refine br_t rfl ⟨hs_in (by omega), ?_⟩
      rw [hs_c (by omega), hpr (i + 1)]
      refine pk_le (hs_mp (hs_lv K P QC T CX) pr v 4 i) (pr (i + 1)) (fun a => nm_r (nI_1 (i + 1)) ?_) (fun a => ⟨hs_in (by omega), nm_e (nm_r (nI_1 (i + 1)) ?_)⟩)
      · rw [if_neg (by omega)] at ih'; exact ih'
      · rw [if_pos ⟨a, b⟩] at ih'; exact ih'
    · rw [if_neg (fun z => b z.2)] at ih'
      exact br_f (hs_yl_ne l2 hv b) (nm_r (nI_1 (i + 1)) ih')
theorem hs_y102b {post : Int32 → SY → Prop} {v p L : Nat} {x3 x4 s : Int32} (h1 : 1 ≤ L) (hL : L < 16) (es : YQ (L * 8) = s) (H : ∃ n, wY_sendOne_181 post (nI v) x3 (nI L) s lk ql dl sd n 0 K P RY EY T CY SE DR PR QU DF YQ QC PT YL) : ∀ d i : Nat, i + d = 15 → wY_sendOne_102 post (nI v) (nI p) x3 x4 lk ql dl sd K P RY EY T CY SE DR PR QU DF YQ QC PT YL (d + 1) (nI L) (nI i) := by
  intro d
  induction d with
  | zero =>
    intro i hi
    refine br_t (nI_le (a := 15) (by omega) (by omega)) (br_f (nI_ne0 (by omega) (by omega)) ?_)
    rw [show nI L * 8 = nI (L * 8) from pk_mul L 8]
    exact ⟨vp_in_nI (by omega) (by omega), nm_r (by rw [nI_clamp (by omega), es]) H⟩
  | succ d ih =>
    intro i hi
    exact br_f (nI_ge (b := 15) (by omega) (by omega)) ⟨by decide, fun y _ => br_f (nI_ne0 (by omega) (by omega)) (nm_r (nI_1 i) (ih (i + 1) (by omega)))⟩
theorem hs_x7 {s k : Nat} (s1 : 1 ≤ s) (s15 : s ≤ 15) (hk : k < 15) : (((nI s - 1) + nI k) - ((nI s - 1) + nI k) / 15 * 15) + 1 = nI (hs_rg s k) := by
  rw [show nI s - 1 = nI (s - 1) from pk_sub (b := 1) s1, nI_add]
  exact (congrArg (fun z => z + 1) (pk_rem (a := s - 1 + k) (d := 15) (by omega) (by omega) (by omega))).trans (nI_1 _)
theorem hs_y102 {post : Int32 → SY → Prop} {v p s m : Nat} {pr : Nat → Nat} {x3 z : Int32} (hv : v ≤ 2) (hp3 : p ≤ 3) (hK : hs_K K P) (hB : hs_B lk R CE T CX RY EY CY) (hpr : ∀ i, PR i = nI (pr i)) (h3 : ∀ i, pr i ≤ 3) (s1 : 1 ≤ s) (s15 : s ≤ 15) (hm : m < 15) (hg : ∀ k, k < m → ¬ (pr (hs_rg s k) = p ∧ hs_lv K P QC T CX (hs_rg s k) = v)) (hM : pr (hs_rg s m) = p ∧ hs_lv K P QC T CX (hs_rg s m) = v) (es : YQ (hs_rg s m * 8) = z) (H : ∃ n, wY_sendOne_181 post (nI v) x3 (nI (hs_rg s m)) z lk ql dl sd n 0 K P RY EY T CY SE DR PR QU DF YQ QC PT YL) : ∀ d k : Nat, k + d = m → wY_sendOne_102 post (nI v) (nI p) x3 (nI s) lk ql dl sd K P RY EY T CY SE DR PR QU DF YQ QC PT YL (15 - m + d + 1) 0 (nI k) := by
  intro d
  induction d with
  | zero =>
    intro k hk
    have e : k = m := by omega
    subst e
    have r := hs_rg_in s k
    refine br_f (nI_ge (b := 15) (by omega) (by omega)) ⟨by decide, nm_r (hs_x7 s1 s15 hm) (br_t rfl (hs_ylv (by omega) hK hB ?_))⟩
    rw [hM.2, hs_yl_lt (by omega)]
    refine br_t rfl ⟨hs_in (by omega), ?_⟩
    rw [hs_c (by omega), hpr]
    refine br_t (congrArg nI hM.1) (nm_r (nI_1 k) ?_)
    have b := hs_y102b (v := v) (p := p) (x3 := x3) (x4 := nI s) r.1 (by omega) es H (15 - k - 1) (k + 1) (by omega)
    rw [show 15 - k - 1 + 1 = 15 - k + 0 by omega] at b
    exact b
  | succ d ih =>
    intro k hk
    have r := hs_rg_in s k
    have l2 := hs_lv_le K P QC T CX (hs_rg s k)
    have l3 := h3 (hs_rg s k)
    have ih' := ih (k + 1) (by omega)
    refine br_f (nI_ge (b := 15) (by omega) (by omega)) ⟨by decide, nm_r (hs_x7 s1 s15 (by omega)) (br_t rfl (hs_ylv (by omega) hK hB ?_))⟩
    by_cases b : hs_lv K P QC T CX (hs_rg s k) = v
    · rw [b, hs_yl_lt (by omega)]
      refine br_t rfl ⟨hs_in (by omega), ?_⟩
      rw [hs_c (by omega), hpr]
      exact pk_eq (pr (hs_rg s k)) p (fun a => absurd ⟨a, b⟩ (hg k (by omega))) (fun _ => nm_r (nI_1 k) ih')
    · exact br_f (hs_yl_ne l2 hv b) (nm_r (nI_1 k) ih')
end HSG
end
section
/-! one send: what it does to each array, X's sendHead, Y's sendOne behind its scan -/
def hs_dn (f : Nat → Int64) (i : Nat) (k : Int64) : Nat → Int64 := vp_updL f i (f i - k)
def hs_up (f : Nat → Int64) (i : Nat) (k : Int64) : Nat → Int64 := vp_updL f i (f i + k)
def hs_t1 (v : Nat) (T : Nat → Int64) (L : Nat) (k : Int64) : Nat → Int64 := if v = 0 then hs_dn T L k else T
def hs_t2 (v : Nat) (T : Nat → Int64) (I : Nat) (k : Int64) : Nat → Int64 := if 1 < v then T else hs_dn T I k
def hs_df (DF : Nat → Int32) (at' : Nat) (s q : Int32) : Nat → Int32 := if 0 ≤ DF at' - s then upd DF at' (DF at' - s) else upd DF at' (DF at' - s + q)
def hs_pt (DF PT : Nat → Int32) (L at' pi : Nat) (s : Int32) : Nat → Int32 := if 0 ≤ DF at' - s then upd PT pi (nI L) else upd PT pi (nI (if 15 ≤ L then 1 else L + 1))
/-- Y's row of 8 at b, moved by one in its first j places -/
def hs_sh (q : Nat → Int32) (b j : Nat) : Nat → Int32 := fun k => if b ≤ k ∧ k < b + j then q (k + 1) else q k
/-- Y's log, moved by one above place j -/
def hs_ls (g : Nat → Int32) (j : Nat) : Nat → Int32 := fun k => if j < k ∧ k < 64 then g (k - 1) else g k
theorem hs_sh_0 (q : Nat → Int32) (b : Nat) : hs_sh q b 0 = q := by
  funext k; unfold hs_sh; rw [if_neg (by omega)]
theorem hs_sh_s (q : Nat → Int32) (b j : Nat) : upd (hs_sh q b j) (b + j) (hs_sh q b j (b + j + 1)) = hs_sh q b (j + 1) := by
  funext k
  by_cases e : k = b + j
  · subst e; rw [pk_us]; unfold hs_sh; rw [if_neg (by omega), if_pos (by omega)]
  · rw [pk_un e]; unfold hs_sh
    by_cases c : b ≤ k ∧ k < b + j
    · rw [if_pos c, if_pos (by omega)]
    · rw [if_neg c, if_neg (by omega)]
theorem hs_ls_63 (g : Nat → Int32) : hs_ls g 63 = g := by
  funext k; unfold hs_ls; rw [if_neg (by omega)]
theorem hs_ls_s (g : Nat → Int32) (j : Nat) (hj : j < 63) : upd (hs_ls g (j + 1)) (j + 1) (hs_ls g (j + 1) j) = hs_ls g j := by
  funext k
  by_cases e : k = j + 1
  · subst e; rw [pk_us]; unfold hs_ls; rw [if_neg (by omega), if_pos (by omega)]; rfl
  · rw [pk_un e]; unfold hs_ls
    by_cases c : j + 1 < k ∧ k < 64
    · rw [if_pos c, if_pos (by omega)]
    · rw [if_neg c, if_neg (by omega)]
section HSH
variable {ql dp sd : Int32} {lk dl : Int64} {K P R CE PR QU DF PT XQ QH QC XL YQ YL : Nat → Int32} {T CX SE DR RY EY CY : Nat → Int64}
theorem hs_xch34 {post : SX → Prop} {j : Nat} {s : Int32} (hj : j < 16) (hp : post (ql, dp, sd, K, P, R, CE, T, CX, hs_up SE j s.toInt64, DR, PR, QU, DF, PT, XQ, QH, QC, XL)) : wX_charge_34 post (nI j) s ql dp sd K P R CE T CX SE DR PR QU DF PT XQ QH QC XL := by
  unfold wX_charge_34
  refine ⟨hs_in hj, hs_in hj, nm_e ?_⟩
  rw [hs_c hj]; exact hp
theorem hs_xch1 {post : SX → Prop} {j : Nat} {s b : Int32} (hj : j < 16) (hb : ¬ b = 0) (hp : post (ql, dp, sd, K, P, R, CE, hs_dn T j (16 * s.toInt64), hs_dn CX j (16 * s.toInt64), hs_up SE j s.toInt64, DR, PR, QU, DF, PT, XQ, QH, QC, XL)) : wpX_charge post (ql, dp, sd, K, P, R, CE, T, CX, SE, DR, PR, QU, DF, PT, XQ, QH, QC, XL) (nI j) s b := by
  unfold wpX_charge
  refine nm_e ⟨hs_in hj, hs_in hj, nm_e (br_f hb ⟨hs_in hj, hs_in hj, nm_e ?_⟩)⟩
  rw [hs_c hj]
  exact hs_xch34 hj hp
theorem hs_xch0 {post : SX → Prop} {j : Nat} {s b : Int32} (hj : j < 16) (hb : b = 0) (hp : post (ql, dp, sd, K, P, R, CE, T, hs_dn CX j (16 * s.toInt64), hs_up SE j s.toInt64, DR, PR, QU, DF, PT, XQ, QH, QC, XL)) : wpX_charge post (ql, dp, sd, K, P, R, CE, T, CX, SE, DR, PR, QU, DF, PT, XQ, QH, QC, XL) (nI j) s b := by
  unfold wpX_charge
  refine nm_e ⟨hs_in hj, hs_in hj, nm_e (br_t hb ?_)⟩
  rw [hs_c hj]
  exact hs_xch34 hj hp
theorem hs_xsd {post : SX → Prop} {L v p : Nat} {s : Int32} (hL : L < 16) (hv : v ≤ 2) (hp3 : p ≤ 3) (hp : post (ql, dp, sd, K, P, R, CE, T, CX, SE, DR, PR, QU, hs_df DF (L * 3 + v) s (QU L), hs_pt DF PT L (L * 3 + v) (v * 4 + p) s, XQ, QH, QC, XL)) : wpX_spendDeficit post (ql, dp, sd, K, P, R, CE, T, CX, SE, DR, PR, QU, DF, PT, XQ, QH, QC, XL) (nI L) (nI v) (nI p) s := by
  have c48 : (nI (L * 3 + v)).toNatClampNeg = L * 3 + v := nI_clamp (by omega)
  have c12 : (nI (v * 4 + p)).toNatClampNeg = v * 4 + p := nI_clamp (by omega)
  have i48 : vp_in (nI (L * 3 + v)) 48 := vp_in_nI (by omega) (by omega)
  have i12 : vp_in (nI (v * 4 + p)) 12 := vp_in_nI (by omega) (by omega)
  unfold hs_df hs_pt at hp
  unfold wpX_spendDeficit
  refine nm_r hs_d48 (nm_r hs_v4 ⟨i48, i48, nm_e ⟨i48, ?_⟩⟩)
  rw [c48, c12, hs_c hL, pk_us]
  refine br_c (fun a => ⟨i12, nm_e ?_⟩) (fun a => ⟨i48, hs_in hL, i48, nm_e (hs_xnext hL ⟨i12, nm_e ?_⟩)⟩)
  · rw [if_pos a, if_pos a] at hp; exact hp
  · rw [if_neg a, if_neg a] at hp; rw [hs_uu]; exact hp
theorem hs_xth {post : Int32 → SX → Prop} {L c h : Nat} (hL : L < 16) (ec : QC L = nI (c + 1)) (eh : QH L = nI h) (hh : h < 8) (hp : post (XQ (L * 8 + h)) (ql, dp, sd, K, P, R, CE, T, CX, SE, DR, PR, QU, DF, PT, XQ, upd QH L (nI ((h + 1) % 8)), upd QC L (nI c), XL)) : wpX_takeHead post (ql, dp, sd, K, P, R, CE, T, CX, SE, DR, PR, QU, DF, PT, XQ, QH, QC, XL) (nI L) := by
  unfold wpX_takeHead
  refine hs_xslot (i := 0) hL eh hh (by omega) ⟨hs_in hL, hs_in hL, nm_e ⟨hs_in hL, hs_in hL, nm_e ⟨vp_in_nI (by omega) (by omega), ?_⟩⟩⟩
  have e1 : (nI h + 1) &&& 7 = nI ((h + 1) % 8) := by
    rw [nI_1]; exact pk_andN (by omega) 3 (by decide)
  rw [hs_c hL, eh, ec, e1, nI_pred, nI_clamp (by omega), show L * 8 + (h + 0) % 8 = L * 8 + h by omega]
  exact hp
theorem hs_x42 {post : SX → Prop} {L I v p : Nat} {s z0 : Int32} (hL : L < 16) (hI : I < 16) (hv : v ≤ 2) (hp3 : p ≤ 3) (hz : z0 = if 1 < v then 0 else 1) (hp : post (ql, dp, sd + 1, K, P, R, CE, hs_dn (hs_t2 v T I (16 * s.toInt64)) 0 (16 * s.toInt64), hs_dn (hs_dn CX I (16 * s.toInt64)) 0 (16 * s.toInt64), hs_up (hs_up SE I s.toInt64) 0 s.toInt64, DR, PR, QU, hs_df DF (L * 3 + v) s (QU L), hs_pt DF PT L (L * 3 + v) (v * 4 + p) s, XQ, QH, QC, upd XL (sd &&& 63).toNatClampNeg ((nI L + (16 * nI v)) + (64 * s)))) : wX_sendHead_42 post (nI L) (nI v) (nI p) s z0 s (nI I) ql dp sd K P R CE T CX SE DR PR QU DF PT XQ QH QC XL := by
  unfold wX_sendHead_42
  unfold hs_t2 at hp
  by_cases c : 1 < v
  · rw [if_pos c] at hz hp
    exact hs_xch0 hI hz (hs_xch1 (j := 0) (by omega) (by decide) (hs_xsd hL hv hp3 ⟨pk_andIn _ 6 (by decide) (by decide), nm_e (nm_e hp)⟩))
  · rw [if_neg c] at hz hp
    exact hs_xch1 hI (by rw [hz]; decide) (hs_xch1 (j := 0) (by omega) (by decide) (hs_xsd hL hv hp3 ⟨pk_andIn _ 6 (by decide) (by decide), nm_e (nm_e hp)⟩))
theorem hs_x20 {post : SX → Prop} {L I v p : Nat} {s z0 : Int32} (hL : L < 16) (hI : I < 16) (eI : P L = nI I) (hv : v ≤ 2) (hp3 : p ≤ 3) (hz : z0 = if v = 0 then 1 else 0) (hp : post (ql, dp, sd + 1, K, P, R, CE, hs_dn (hs_t2 v (hs_t1 v T L (16 * s.toInt64)) I (16 * s.toInt64)) 0 (16 * s.toInt64), hs_dn (hs_dn (hs_dn CX L (16 * s.toInt64)) I (16 * s.toInt64)) 0 (16 * s.toInt64), hs_up (hs_up (hs_up SE L s.toInt64) I s.toInt64) 0 s.toInt64, DR, PR, QU, hs_df DF (L * 3 + v) s (QU L), hs_pt DF PT L (L * 3 + v) (v * 4 + p) s, XQ, QH, QC, upd XL (sd &&& 63).toNatClampNeg ((nI L + (16 * nI v)) + (64 * s)))) : wX_sendHead_20 post (nI L) (nI v) (nI p) s z0 s (nI L) ql dp sd K P R CE T CX SE DR PR QU DF PT XQ QH QC XL := by
  unfold wX_sendHead_20
  unfold hs_t1 at hp
  by_cases c : v = 0
  · rw [if_pos c] at hz hp
    refine hs_xch1 hL (by rw [hz]; decide) ⟨hs_in hL, ?_⟩
    rw [hs_c hL, eI]
    exact pk_lt 1 v (fun a => hs_x42 hL hI hv hp3 (by rw [if_pos a]) hp) (fun a => hs_x42 hL hI hv hp3 (by rw [if_neg (by omega)]) hp)
  · rw [if_neg c] at hz hp
    refine hs_xch0 hL hz ⟨hs_in hL, ?_⟩
    rw [hs_c hL, eI]
    exact pk_lt 1 v (fun a => hs_x42 hL hI hv hp3 (by rw [if_pos a]) hp) (fun a => hs_x42 hL hI hv hp3 (by rw [if_neg (by omega)]) hp)
theorem hs_xsend {post : SX → Prop} {L I v p c h : Nat} {s : Int32} (hL : L < 16) (hI : I < 16) (eI : P L = nI I) (hv : v ≤ 2) (hp3 : p ≤ 3) (ec : QC L = nI (c + 1)) (eh : QH L = nI h) (hh : h < 8) (es : XQ (L * 8 + h) = s) (hp : post (ql, dp, sd + 1, K, P, R, CE, hs_dn (hs_t2 v (hs_t1 v T L (16 * s.toInt64)) I (16 * s.toInt64)) 0 (16 * s.toInt64), hs_dn (hs_dn (hs_dn CX L (16 * s.toInt64)) I (16 * s.toInt64)) 0 (16 * s.toInt64), hs_up (hs_up (hs_up SE L s.toInt64) I s.toInt64) 0 s.toInt64, DR, PR, QU, hs_df DF (L * 3 + v) s (QU L), hs_pt DF PT L (L * 3 + v) (v * 4 + p) s, XQ, upd QH L (nI ((h + 1) % 8)), upd QC L (nI c), upd XL (sd &&& 63).toNatClampNeg ((nI L + (16 * nI v)) + (64 * s)))) : wpX_sendHead post (ql, dp, sd, K, P, R, CE, T, CX, SE, DR, PR, QU, DF, PT, XQ, QH, QC, XL) (nI L) (nI v) (nI p) := by
  unfold wpX_sendHead
  refine hs_xth hL ec eh hh ?_
  rw [es]
  exact pk_eq v 0 (fun a => hs_x20 hL hI eI hv hp3 (by rw [if_pos a]) hp) (fun a => hs_x20 hL hI eI hv hp3 (by rw [if_neg a]) hp)
theorem hs_y444 {post : Int32 → SY → Prop} {x1 x5 x6 : Int32} (H : post 1 (lk, ql, dl, sd + 1, K, P, RY, EY, T, CY, SE, DR, PR, QU, DF, YQ, QC, PT, upd (hs_ls YL 0) 0 ((x5 + (16 * x1)) + (64 * x6)))) : ∀ d : Nat, d ≤ 63 → wY_sendOne_444 post x1 x5 x6 lk ql dl sd (d + 1) (nI d) K P RY EY T CY SE DR PR QU DF YQ QC PT (hs_ls YL d) := by
  intro d
  induction d with
  | zero =>
    intro _
    exact br_t (nI_lt (b := 1) (by omega) (by omega)) (nm_e (nm_e H))
  | succ d ih =>
    intro hd
    refine br_f (nI_nlt (b := 1) (by omega) (by omega)) ?_
    rw [nI_pred]
    refine ⟨vp_in_nI (by omega) (by omega), vp_in_nI (by omega) (by omega), nm_r ?_ (nm_r (pk_m1 d) (ih (by omega)))⟩
    rw [nI_clamp (by omega), nI_clamp (by omega), hs_ls_s YL d (by omega)]
theorem hs_y4440 {post : Int32 → SY → Prop} {x1 x5 x6 : Int32} (H : post 1 (lk, ql, dl, sd + 1, K, P, RY, EY, T, CY, SE, DR, PR, QU, DF, YQ, QC, PT, upd (hs_ls YL 0) 0 ((x5 + (16 * x1)) + (64 * x6)))) : wY_sendOne_444 post x1 x5 x6 lk ql dl sd 64 63 K P RY EY T CY SE DR PR QU DF YQ QC PT YL := by
  have h : wY_sendOne_444 post x1 x5 x6 lk ql dl sd 64 (nI 63) K P RY EY T CY SE DR PR QU DF YQ QC PT (hs_ls YL 63) := hs_y444 H 63 (by omega)
  rw [hs_ls_63] at h
  exact h
theorem hs_y308 {post : Int32 → SY → Prop} {L I v p : Nat} {s : Int32} {k : Int64} (hL : L < 16) (hI : I < 16) (hv : v ≤ 2) (hp3 : p ≤ 3) (hp : post 1 (lk, ql, dl, sd + 1, K, P, RY, EY, hs_dn T 0 k, CY, hs_up (hs_up (hs_up SE L s.toInt64) I s.toInt64) 0 s.toInt64, DR, PR, QU, hs_df DF (L * 3 + v) s (QU L), YQ, QC, hs_pt DF PT L (L * 3 + v) (v * 4 + p) s, upd (hs_ls YL 0) 0 ((nI L + (16 * nI v)) + (64 * s)))) : wY_sendOne_308 post (nI v) (nI (v * 4 + p)) (nI L) s k (nI I) lk ql dl sd K P RY EY T CY SE DR PR QU DF YQ QC PT YL := by
  have c48 : (nI (L * 3 + v)).toNatClampNeg = L * 3 + v := nI_clamp (by omega)
  have c12 : (nI (v * 4 + p)).toNatClampNeg = v * 4 + p := nI_clamp (by omega)
  have i48 : vp_in (nI (L * 3 + v)) 48 := vp_in_nI (by omega) (by omega)
  have i12 : vp_in (nI (v * 4 + p)) 12 := vp_in_nI (by omega) (by omega)
  unfold hs_df hs_pt at hp
  unfold wY_sendOne_308
  rw [hs_d48, c48, c12, hs_c hL, hs_c hI]
  refine nm_e ⟨hs_in hL, hs_in hL, nm_e ⟨hs_in hI, hs_in hI, nm_e (nm_e ⟨i48, i48, nm_e ⟨i48, ?_⟩⟩)⟩⟩
  rw [pk_us]
  refine br_c (fun a => ⟨i12, nm_e ⟨64, hs_y4440 ?_⟩⟩) (fun a => ⟨i48, hs_in hL, i48, nm_e (pk_eq L 15 (fun e => ⟨i12, nm_e ⟨64, hs_y4440 ?_⟩⟩) (fun e => ⟨i12, nm_e ⟨64, hs_y4440 ?_⟩⟩))⟩)
  · rw [if_pos a, if_pos a] at hp; exact hp
  · rw [if_neg a, if_neg a, if_pos (by omega)] at hp; rw [hs_uu]; exact hp
  · rw [if_neg a, if_neg a, if_neg (by omega)] at hp; rw [hs_uu, nI_1]; exact hp
theorem hs_y279 {post : Int32 → SY → Prop} {L I v p : Nat} {s : Int32} {k : Int64} (hL : L < 16) (hI : I < 16) (hv : v ≤ 2) (hp3 : p ≤ 3) (hp : post 1 (lk, ql, dl, sd + 1, K, P, RY, EY, hs_dn (hs_t2 v T I k) 0 k, hs_dn CY I k, hs_up (hs_up (hs_up SE L s.toInt64) I s.toInt64) 0 s.toInt64, DR, PR, QU, hs_df DF (L * 3 + v) s (QU L), YQ, QC, hs_pt DF PT L (L * 3 + v) (v * 4 + p) s, upd (hs_ls YL 0) 0 ((nI L + (16 * nI v)) + (64 * s)))) : wY_sendOne_279 post (nI v) (nI (v * 4 + p)) (nI L) s k (nI I) lk ql dl sd K P RY EY T CY SE DR PR QU DF YQ QC PT YL := by
  unfold wY_sendOne_279
  unfold hs_t2 at hp
  rw [hs_c hI]
  refine ⟨hs_in hI, hs_in hI, nm_e (pk_lt 1 v (fun a => hs_y308 hL hI hv hp3 ?_) (fun a => ⟨hs_in hI, hs_in hI, nm_e (hs_y308 hL hI hv hp3 ?_)⟩))⟩
  · rw [if_pos a] at hp; exact hp
  · rw [if_neg (by omega)] at hp; exact hp
theorem hs_y181 {post : Int32 → SY → Prop} {L I v p c : Nat} {s : Int32} (hL : L < 16) (hI : I < 16) (eI : P L = nI I) (hv : v ≤ 2) (hp3 : p ≤ 3) (ec : QC L = nI (c + 1)) (hp : post 1 (lk, ql, dl, sd + 1, K, P, RY, EY, hs_dn (hs_t2 v (hs_t1 v T L (16 * s.toInt64)) I (16 * s.toInt64)) 0 (16 * s.toInt64), hs_dn (hs_dn CY L (16 * s.toInt64)) I (16 * s.toInt64), hs_up (hs_up (hs_up SE L s.toInt64) I s.toInt64) 0 s.toInt64, DR, PR, QU, hs_df DF (L * 3 + v) s (QU L), hs_sh YQ (L * 8) 7, upd QC L (nI c), hs_pt DF PT L (L * 3 + v) (v * 4 + p) s, upd (hs_ls YL 0) 0 ((nI L + (16 * nI v)) + (64 * s)))) : ∀ d j : Nat, j + d = 7 → wY_sendOne_181 post (nI v) (nI (v * 4 + p)) (nI L) s lk ql dl sd (d + 1) (nI j) K P RY EY T CY SE DR PR QU DF (hs_sh YQ (L * 8) j) QC PT YL := by
  unfold hs_t1 at hp
  intro d
  induction d with
  | zero =>
    intro j hj
    have e : j = 7 := by omega
    subst e
    refine br_t (nI_le (a := 7) (by omega) (by omega)) ?_
    rw [hs_c hL, ec, eI, nI_pred]
    refine ⟨hs_in hL, hs_in hL, nm_e (nm_e ⟨hs_in hL, nm_e ⟨hs_in hL, hs_in hL, nm_e (pk_eq v 0 (fun a => ⟨hs_in hL, hs_in hL, nm_e (hs_y279 hL hI hv hp3 ?_)⟩) (fun a => hs_y279 hL hI hv hp3 ?_))⟩⟩)⟩
    · rw [if_pos a] at hp; exact hp
    · rw [if_neg a] at hp; exact hp
  | succ d ih =>
    intro j hj
    have e8 : nI L * 8 + nI j = nI (L * 8 + j) := by
      rw [show nI L * 8 = nI (L * 8) from pk_mul L 8, nI_add]
    refine br_f (nI_ge (b := 7) (by omega) (by omega)) ?_
    rw [e8, nI_1 (L * 8 + j)]
    refine ⟨vp_in_nI (by omega) (by omega), vp_in_nI (by omega) (by omega), nm_r ?_ (nm_r (nI_1 j) (ih (j + 1) (by omega)))⟩
    rw [nI_clamp (by omega), nI_clamp (by omega), hs_sh_s]
theorem hs_y1810 {post : Int32 → SY → Prop} {L I v p c : Nat} {s : Int32} (hL : L < 16) (hI : I < 16) (eI : P L = nI I) (hv : v ≤ 2) (hp3 : p ≤ 3) (ec : QC L = nI (c + 1)) (hp : post 1 (lk, ql, dl, sd + 1, K, P, RY, EY, hs_dn (hs_t2 v (hs_t1 v T L (16 * s.toInt64)) I (16 * s.toInt64)) 0 (16 * s.toInt64), hs_dn (hs_dn CY L (16 * s.toInt64)) I (16 * s.toInt64), hs_up (hs_up (hs_up SE L s.toInt64) I s.toInt64) 0 s.toInt64, DR, PR, QU, hs_df DF (L * 3 + v) s (QU L), hs_sh YQ (L * 8) 7, upd QC L (nI c), hs_pt DF PT L (L * 3 + v) (v * 4 + p) s, upd (hs_ls YL 0) 0 ((nI L + (16 * nI v)) + (64 * s)))) : ∃ n, wY_sendOne_181 post (nI v) (nI (v * 4 + p)) (nI L) s lk ql dl sd n 0 K P RY EY T CY SE DR PR QU DF YQ QC PT YL := by
  have h : wY_sendOne_181 post (nI v) (nI (v * 4 + p)) (nI L) s lk ql dl sd 8 (nI 0) K P RY EY T CY SE DR PR QU DF (hs_sh YQ (L * 8) 0) QC PT YL := hs_y181 hL hI eI hv hp3 ec hp 7 0 (by omega)
  rw [hs_sh_0] at h
  exact ⟨8, h⟩
end HSH
end
section
/-! one send keeps the relation; both sides' step put together -/
theorem hs_dn_s (f : Nat → Int64) (i : Nat) (k : Int64) : hs_dn f i k i = f i - k := pk_uLs
theorem hs_dn_n {f : Nat → Int64} {i j : Nat} {k : Int64} (h : j ≠ i) : hs_dn f i k j = f j := pk_uLn h
theorem hs_up_n {f : Nat → Int64} {i j : Nat} {k : Int64} (h : j ≠ i) : hs_up f i k j = f j := pk_uLn h
theorem hs_dn_cg {f g : Nat → Int64} {a : Nat} {k : Int64} (h : ∀ i, i ≠ 0 → f i = g i) (ha : a ≠ 0) : ∀ i, i ≠ 0 → hs_dn f a k i = hs_dn g a k i := by
  intro i hi
  by_cases e : i = a
  · subst e; rw [hs_dn_s, hs_dn_s, h i hi]
  · rw [hs_dn_n e, hs_dn_n e]; exact h i hi
theorem hs_t1_0 {T : Nat → Int64} {v L : Nat} {k : Int64} (h : L ≠ 0) : hs_t1 v T L k 0 = T 0 := by
  unfold hs_t1
  split
  · exact hs_dn_n (Ne.symm h)
  · rfl
theorem hs_t2_0 {T : Nat → Int64} {v I : Nat} {k : Int64} (h : I ≠ 0) : hs_t2 v T I k 0 = T 0 := by
  unfold hs_t2
  split
  · rfl
  · exact hs_dn_n (Ne.symm h)
theorem hs_df_n {DF : Nat → Int32} {a j : Nat} {s q : Int32} (h : j ≠ a) : hs_df DF a s q j = DF j := by
  unfold hs_df
  split
  · exact pk_un h
  · exact pk_un h
section HSI
variable {ql dp sd : Int32} {lk dl : Int64} {K P R CE PR QU DF PT XQ QH QC XL YQ YL : Nat → Int32} {T CX SE DR RY EY CY : Nat → Int64}
theorem hs_z_send {L I v c : Nat} {s q : Int32} {k : Int64} (hK : hs_K K P) (hZ : hs_Z K P SE DR PR DF QC) (hL : L < 16) (hv : v ≤ 2) (kL : K L = 3) (kI : K I = 2) : hs_Z K P (hs_up (hs_up (hs_up SE L k) I k) 0 k) DR PR (hs_df DF (L * 3 + v) s q) (upd QC L (nI c)) := by
  intro i hi h0
  have nL : i ≠ L := fun e => by rw [e, kL] at h0; exact absurd h0 (by decide)
  have nI' : i ≠ I := fun e => by rw [e, kI] at h0; exact absurd h0 (by decide)
  have n0 : i ≠ 0 := fun e => by rw [e, hK.1] at h0; exact absurd h0 (by decide)
  obtain ⟨z1, z2, z3, z4, z5, z6, z7, z8⟩ := hZ i hi h0
  exact ⟨z1, by rw [hs_up_n n0, hs_up_n nI', hs_up_n nL]; exact z2, z3, z4, by rw [pk_un nL]; exact z5, by rw [hs_df_n (by omega)]; exact z6, by rw [hs_df_n (by omega)]; exact z7, by rw [hs_df_n (by omega)]; exact z8⟩
theorem hs_b_send {L I v : Nat} {k : Int64} (hB : hs_B lk R CE T CX RY EY CY) (hL : L ≠ 0) (hI : I ≠ 0) : hs_B lk R CE (hs_dn (hs_t2 v (hs_t1 v T L k) I k) 0 k) (hs_dn (hs_dn (hs_dn CX L k) I k) 0 k) RY EY (hs_dn (hs_dn CY L k) I k) := by
  refine ⟨hB.1, hB.2.1, ?_, fun i hi => ⟨(hB.2.2.2 i hi).1, (hB.2.2.2 i hi).2.1, ?_⟩⟩
  · rw [hs_dn_s, hs_dn_s, hs_dn_n (Ne.symm hI), hs_dn_n (Ne.symm hL), hs_t2_0 hI, hs_t1_0 hL, hB.2.2.1]
  · rw [hs_dn_n hi]
    exact hs_dn_cg (hs_dn_cg (fun i hi => (hB.2.2.2 i hi).2.2) hL) hI i hi
theorem hs_p_send {L v p a : Nat} {s : Int32} (hP : hs_P PR PT) (h1 : 1 ≤ L) (hL : L ≤ 15) : hs_P PR (hs_pt DF PT L a (v * 4 + p) s) := by
  refine ⟨hP.1, fun j hj => ?_⟩
  unfold hs_pt
  by_cases e : j = v * 4 + p
  · subst e
    split
    · exact ⟨L, h1, hL, pk_us⟩
    · refine ⟨if 15 ≤ L then 1 else L + 1, ?_, ?_, pk_us⟩
      · split <;> omega
      · split <;> omega
  · split
    · rw [pk_un e]; exact hP.2 j hj
    · rw [pk_un e]; exact hP.2 j hj
theorem hs_step {n : Nat} {u : SX} {w : SY} (h : hs_R n u w) :
    ((∀ post : Int32 → Prop, post 3 → wpX_leastLendingLevel post u) ∧ (∀ post : Int32 → SY → Prop, post 0 w → wpY_sendOne post w)) ∨
    ∃ (u' : SX) (w' : SY) (a b c : Int32), 1 ≤ n ∧ hs_R (n - 1) u' w' ∧ ¬ a = 3 ∧ (∀ post : Int32 → Prop, post a → wpX_leastLendingLevel post u) ∧ (∀ post : Int32 → Prop, post b → wpX_leastPriority post u a) ∧ (∀ post : Int32 → Prop, post c → wpX_firstOfGroup post u a b) ∧ (∀ post : SX → Prop, post u' → wpX_sendHead post u c a b) ∧ (∀ post : Int32 → SY → Prop, post 1 w' → wpY_sendOne post w) := by
  obtain ⟨ql, dp, sd, lk, dl, K, P, R, CE, PR, QU, DF, PT, XQ, QH, QC, XL, YQ, YL, T, CX, SE, DR, RY, EY, CY, rfl, rfl, hA, hK, hZ, hB, hP, hQ, hL, rfl⟩ := h
  by_cases hm : hs_ml (hs_lv K P QC T CX) 15 = 3
  · exact Or.inl ⟨fun post hp => hs_xml0 hK (by rw [hm]; exact hp), fun post hp => hs_y40 hK hB (fun _ => hp) (fun z => absurd hm z)⟩
  · have lm := hs_ml_le (hs_lv K P QC T CX) 15
    obtain ⟨i0, a0, b0, e0⟩ := hs_ml_ex (hs_lv K P QC T CX) 15 (by omega)
    generalize hv : hs_ml (hs_lv K P QC T CX) 15 = v at hm lm e0
    have hv2 : v ≤ 2 := by omega
    have hpr : ∀ i, PR i = nI (PR i).toNatClampNeg := fun i => by
      obtain ⟨p, p4, ep⟩ := hP.1 i
      rw [ep, nI_clamp (by omega)]
    have h3 : ∀ i, (fun i => (PR i).toNatClampNeg) i ≤ 3 := fun i => by
      obtain ⟨p, p4, ep⟩ := hP.1 i
      show (PR i).toNatClampNeg ≤ 3
      rw [ep, nI_clamp (by omega)]; omega
    have q1 := hs_mp_lt (hs_lv K P QC T CX) (fun i => (PR i).toNatClampNeg) v 15 h3 i0 a0 b0 e0
    have q2 : (PR i0).toNatClampNeg ≤ 3 := h3 i0
    have q34 := hs_mp_34 (hs_lv K P QC T CX) (fun i => (PR i).toNatClampNeg) v 15 h3
    obtain ⟨i1, a1, b1, e1, f1⟩ := hs_mp_ex (hs_lv K P QC T CX) (fun i => (PR i).toNatClampNeg) v 15 (by omega)
    rw [if_neg (by omega)] at q34
    generalize hp : hs_mp (hs_lv K P QC T CX) (fun i => (PR i).toNatClampNeg) v 4 15 = p at q1 q34 f1
    have hp3 : p ≤ 3 := by omega
    obtain ⟨s, s1, s15, es⟩ := hP.2 (v * 4 + p) (by omega)
    obtain ⟨m, hm15, hM, hg⟩ := hs_least (fun k => (fun i => (PR i).toNatClampNeg) (hs_rg s k) = p ∧ hs_lv K P QC T CX (hs_rg s k) = v) 15 (by
      obtain ⟨k, hk, ek⟩ := hs_rg_ex s1 s15 a1 b1
      exact ⟨k, hk, by rw [ek]; exact ⟨f1, e1⟩⟩)
    have rin := hs_rg_in s m
    obtain ⟨kL, qL⟩ := hs_lv_lt (K := K) (P := P) (QC := QC) (T := T) (C := CX) (i := hs_rg s m) (by rw [hM.2]; omega)
    obtain ⟨I, I0, I16, eI, kI⟩ := hK.2.2 (hs_rg s m) (by omega) kL
    obtain ⟨c', g, c8, g8, ec', eg, rq⟩ := hQ (hs_rg s m) (by omega)
    obtain ⟨c, rfl⟩ : ∃ c, c' = c + 1 := by
      refine ⟨c' - 1, ?_⟩
      have : c' ≠ 0 := fun e => by rw [e, nI_0] at ec'; exact qL ec'
      omega
    have hz : XQ (hs_rg s m * 8 + g) = YQ (hs_rg s m * 8) := by
      have := rq 0 (by omega)
      rw [show (g + 0) % 8 = g by omega] at this
      exact this
    have ht := hs_tot_up QC 15 (hs_rg s m) c rin.1 rin.2 (by omega) ec'
    have key := hs_mkR (R := R) (CE := CE) (QU := QU) hA hK (hs_z_send (s := YQ (hs_rg s m * 8)) (q := QU (hs_rg s m)) (k := (YQ (hs_rg s m * 8)).toInt64) (c := c) (v := v) hK hZ (by omega) hv2 kL kI) (hs_b_send (v := v) (k := 16 * (YQ (hs_rg s m * 8)).toInt64) (L := hs_rg s m) (I := I) hB (by omega) I0) (hs_p_send (DF := DF) (L := hs_rg s m) (v := v) (p := p) (a := hs_rg s m * 3 + v) (s := YQ (hs_rg s m * 8)) hP rin.1 rin.2) (hs_q_take (YQ' := hs_sh YQ (hs_rg s m * 8) 7) hQ (by omega) (by omega) g8 ec' eg (fun j hj => by unfold hs_sh; rw [if_pos (by omega)]) (fun k hk => by unfold hs_sh; rw [if_neg (by omega)])) (hs_lg_step (e := (nI (hs_rg s m) + (16 * nI v)) + (64 * YQ (hs_rg s m * 8))) (YL' := upd (hs_ls YL 0) 0 ((nI (hs_rg s m) + (16 * nI v)) + (64 * YQ (hs_rg s m * 8)))) hL pk_us (fun k hk => by rw [pk_un (by omega)]; unfold hs_ls; rw [if_pos (by omega)]; rfl))
    rw [show hs_tot (upd QC (hs_rg s m) (nI c)) 15 = hs_tot QC 15 - 1 by omega] at key
    refine Or.inr ⟨_, _, nI v, nI p, nI (hs_rg s m), by omega, key, ?_, ?_, ?_, ?_, ?_, ?_⟩
    · intro e
      have := (nI_eq (a := v) (b := 3) (by omega) (by omega)).mp e
      omega
    · intro post hpost
      exact hs_xml0 hK (by rw [hv]; exact hpost)
    · intro post hpost
      exact hs_xmp0 (pr := fun i => (PR i).toNatClampNeg) hv2 hK hpr h3 (by rw [q34]; exact hpost)
    · intro post hpost
      exact hs_xfg0 (pr := fun i => (PR i).toNatClampNeg) hv2 hp3 hK hpr h3 es s1 s15 hm15 hg hM hpost
    · intro post hpost
      exact hs_xsend (by omega) I16 eI hv2 hp3 ec' eg g8 hz hpost
    · intro post hpost
      refine hs_y40 hK hB (fun z => absurd (hv.symm.trans z) hm) (fun _ => ⟨16, ?_⟩)
      rw [hv]
      refine hs_y44 (pr := fun i => (PR i).toNatClampNeg) hv2 hp3 hK hB hpr h3 hp es ⟨15 - m + m + 1, ?_⟩ 15 0 (by omega)
      exact hs_y102 (pr := fun i => (PR i).toNatClampNeg) hv2 hp3 hK hB hpr h3 s1 s15 hm15 hg hM rfl (hs_y1810 (by omega) I16 eI hv2 hp3 ec' hpost) m 0 (by omega)
end HSI
end
section
/-! the refill of both sides -/
def hs_rf (d b : Int64) (r : Int32) : Int64 := if r.toInt64 * d ≤ b + r.toInt64 then r.toInt64 * d else b + r.toInt64
/-- the buckets f of the existing ids below i refilled -/
def hs_rt (K R : Nat → Int32) (d : Int64) (f : Nat → Int64) (i : Nat) : Nat → Int64 := fun j => if j < i ∧ ¬ K j = 0 then hs_rf d (f j) (R j) else f j
/-- the same but for the root -/
def hs_ry (K R : Nat → Int32) (d : Int64) (f : Nat → Int64) (i : Nat) : Nat → Int64 := fun j => if (j < i ∧ ¬ j = 0) ∧ ¬ K j = 0 then hs_rf d (f j) (R j) else f j
theorem hs_rt_0 (K R : Nat → Int32) (d : Int64) (f : Nat → Int64) : hs_rt K R d f 0 = f := by
  funext j; unfold hs_rt; rw [if_neg (fun z => absurd z.1 (by omega))]
theorem hs_ry_0 (K R : Nat → Int32) (d : Int64) (f : Nat → Int64) : hs_ry K R d f 0 = f := by
  funext j; unfold hs_ry; rw [if_neg (fun z => absurd z.1.1 (by omega))]
theorem hs_rt_at (K R : Nat → Int32) (d : Int64) (f : Nat → Int64) (i : Nat) : hs_rt K R d f i i = f i := by
  unfold hs_rt; rw [if_neg (fun z => absurd z.1 (by omega))]
theorem hs_ry_at (K R : Nat → Int32) (d : Int64) (f : Nat → Int64) (i : Nat) : hs_ry K R d f i i = f i := by
  unfold hs_ry; rw [if_neg (fun z => absurd z.1.1 (by omega))]
theorem hs_rt_z {K R : Nat → Int32} {d : Int64} {f : Nat → Int64} {i : Nat} (h : K i = 0) : hs_rt K R d f (i + 1) = hs_rt K R d f i := by
  funext j
  unfold hs_rt
  by_cases e : j = i
  · subst e; rw [if_neg (fun z => z.2 h), if_neg (fun z => z.2 h)]
  · by_cases c : j < i ∧ ¬ K j = 0
    · rw [if_pos c, if_pos ⟨by omega, c.2⟩]
    · rw [if_neg c, if_neg (fun z => c ⟨by omega, z.2⟩)]
theorem hs_ry_z {K R : Nat → Int32} {d : Int64} {f : Nat → Int64} {i : Nat} (h : i = 0 ∨ K i = 0) : hs_ry K R d f (i + 1) = hs_ry K R d f i := by
  funext j
  unfold hs_ry
  by_cases e : j = i
  · subst e
    rw [if_neg (fun z => h.elim (fun y => z.1.2 y) (fun y => z.2 y)), if_neg (fun z => absurd z.1.1 (by omega))]
  · by_cases c : (j < i ∧ ¬ j = 0) ∧ ¬ K j = 0
    · rw [if_pos c, if_pos ⟨⟨by omega, c.1.2⟩, c.2⟩]
    · rw [if_neg c, if_neg (fun z => c ⟨⟨by omega, z.1.2⟩, z.2⟩)]
theorem hs_rt_s {K R : Nat → Int32} {d : Int64} {f : Nat → Int64} {i : Nat} (h : ¬ K i = 0) : vp_updL (hs_rt K R d f i) i (hs_rf d (f i) (R i)) = hs_rt K R d f (i + 1) := by
  funext j
  by_cases e : j = i
  · subst e; rw [pk_uLs]; unfold hs_rt; rw [if_pos ⟨by omega, h⟩]
  · rw [pk_uLn e]
    unfold hs_rt
    by_cases c : j < i ∧ ¬ K j = 0
    · rw [if_pos c, if_pos ⟨by omega, c.2⟩]
    · rw [if_neg c, if_neg (fun z => c ⟨by omega, z.2⟩)]
theorem hs_ry_s {K R : Nat → Int32} {d : Int64} {f : Nat → Int64} {i : Nat} (h0 : ¬ i = 0) (h : ¬ K i = 0) : vp_updL (hs_ry K R d f i) i (hs_rf d (f i) (R i)) = hs_ry K R d f (i + 1) := by
  funext j
  by_cases e : j = i
  · subst e; rw [pk_uLs]; unfold hs_ry; rw [if_pos ⟨⟨by omega, h0⟩, h⟩]
  · rw [pk_uLn e]
    unfold hs_ry
    by_cases c : (j < i ∧ ¬ j = 0) ∧ ¬ K j = 0
    · rw [if_pos c, if_pos ⟨⟨by omega, c.1.2⟩, c.2⟩]
    · rw [if_neg c, if_neg (fun z => c ⟨⟨by omega, z.1.2⟩, z.2⟩)]
abbrev hs_JT : Type := Int32 → Int32 → Int64 → Int32 → Int64 → Int32 → (Nat → Int32) → (Nat → Int32) → (Nat → Int64) → (Nat → Int64) → (Nat → Int64) → (Nat → Int64) → (Nat → Int64) → (Nat → Int64) → (Nat → Int32) → (Nat → Int32) → (Nat → Int32) → (Nat → Int32) → (Nat → Int32) → (Nat → Int32) → (Nat → Int32) → Prop
section HSJ
variable {ql dp sd : Int32} {lk dl : Int64} {K P R CE PR QU DF PT XQ QH QC XL YQ YL : Nat → Int32} {T CX SE DR RY EY CY : Nat → Int64}
theorem hs_xrf {post : Int64 → Prop} {b : Int64} {r : Int32} (hp : post (hs_rf dp.toInt64 b r)) : wpX_refilled post (ql, dp, sd, K, P, R, CE, T, CX, SE, DR, PR, QU, DF, PT, XQ, QH, QC, XL) b r := by
  unfold wpX_refilled
  unfold hs_rf at hp
  refine nm_e (nm_e (br_c (fun a => ?_) (fun a => ?_)))
  · rw [if_pos a] at hp; exact hp
  · rw [if_neg a] at hp; exact hp
theorem hs_xra {post : SX → Prop} (hp : post (ql, dp, sd, K, P, R, CE, hs_rt K R dp.toInt64 T 16, hs_rt K CE dp.toInt64 CX 16, SE, DR, PR, QU, DF, PT, XQ, QH, QC, XL)) : ∀ d i : Nat, i + d = 16 → wX_refillAll_2 post ql dp sd (d + 1) (nI i) K P R CE (hs_rt K R dp.toInt64 T i) (hs_rt K CE dp.toInt64 CX i) SE DR PR QU DF PT XQ QH QC XL := by
  intro d
  induction d with
  | zero =>
    intro i hi
    have e : i = 16 := by omega
    subst e
    exact br_t (nI_lt (a := 15) (by omega) (by omega)) hp
  | succ d ih =>
    intro i hi
    have ih' := ih (i + 1) (by omega)
    have hi16 : i < 16 := by omega
    refine br_f (hs_nlt15 hi16) ⟨hs_in hi16, ?_⟩
    rw [hs_c hi16]
    refine br_c (fun a => nm_r (nI_1 i) ?_) (fun a => ⟨hs_in hi16, hs_in hi16, hs_xrf ⟨hs_in hi16, nm_e ⟨hs_in hi16, hs_in hi16, hs_xrf ⟨hs_in hi16, nm_e (nm_r (nI_1 i) ?_)⟩⟩⟩⟩)
    · rw [hs_rt_z a, hs_rt_z a] at ih'; exact ih'
    · rw [hs_rt_at, hs_rt_at, hs_rt_s a, hs_rt_s a]; exact ih'
theorem hs_xra0 {post : SX → Prop} (hp : post (ql, dp, sd, K, P, R, CE, hs_rt K R dp.toInt64 T 16, hs_rt K CE dp.toInt64 CX 16, SE, DR, PR, QU, DF, PT, XQ, QH, QC, XL)) : wpX_refillAll post (ql, dp, sd, K, P, R, CE, T, CX, SE, DR, PR, QU, DF, PT, XQ, QH, QC, XL) := by
  unfold wpX_refillAll
  have h : wX_refillAll_2 post ql dp sd 17 (nI 0) K P R CE (hs_rt K R dp.toInt64 T 0) (hs_rt K CE dp.toInt64 CX 0) SE DR PR QU DF PT XQ QH QC XL := hs_xra hp 16 0 (by omega)
  rw [hs_rt_0, hs_rt_0] at h
  exact ⟨17, h⟩
theorem hs_y171 {post : Int32 → SY → Prop} {J25 : hs_JT} {J34 : Int32 → (Nat → Int32) → (Nat → Int32) → (Nat → Int64) → (Nat → Int64) → (Nat → Int64) → (Nat → Int64) → (Nat → Int64) → (Nat → Int64) → (Nat → Int32) → (Nat → Int32) → (Nat → Int32) → (Nat → Int32) → (Nat → Int32) → (Nat → Int32) → (Nat → Int32) → Prop} {x2 x3 x4 : Int32} {z : Int64} {i : Nat} (hi : i < 16) (e2 : EY i = (CE i).toInt64) (H : J34 (nI (i + 1)) K P RY EY (vp_updL T i z) (vp_updL CY i (hs_rf dl (CY i) (CE i))) SE DR PR QU DF YQ QC PT YL) : wY_run_171 post J25 J34 x2 x3 x4 (nI i) z (nI i) lk ql dl sd K P RY EY T CY SE DR PR QU DF YQ QC PT YL := by
  unfold wY_run_171
  unfold hs_rf at H
  rw [hs_c hi, e2]
  refine ⟨hs_in hi, nm_e ⟨hs_in hi, hs_in hi, nm_e ⟨hs_in hi, br_c (fun a => ⟨hs_in hi, hs_in hi, nm_e (nm_r (nI_1 i) ?_)⟩) (fun a => ⟨hs_in hi, nm_e (nm_r (nI_1 i) ?_)⟩)⟩⟩⟩
  · rw [if_pos a] at H; exact H
  · rw [if_neg a] at H; exact H
theorem hs_y34 {post : Int32 → SY → Prop} {J25 : hs_JT} {x2 x3 x4 : Int32} (hK : hs_K K P) (e1 : lk = (R 0).toInt64) (e2 : ∀ i, i ≠ 0 → RY i = (R i).toInt64 ∧ EY i = (CE i).toInt64) (H : ∃ n, wY_run_240 post J25 x2 x4 n x3 0 lk ql dl sd K P RY EY (hs_rt K R dl T 16) (hs_ry K CE dl CY 16) SE DR PR QU DF YQ QC PT YL) : ∀ d i : Nat, i + d = 16 → wY_run_34 post J25 x2 x3 x4 lk ql dl sd (d + 1) (nI i) K P RY EY (hs_rt K R dl T i) (hs_ry K CE dl CY i) SE DR PR QU DF YQ QC PT YL := by
  intro d
  induction d with
  | zero =>
    intro i hi
    have e : i = 16 := by omega
    subst e
    exact br_t (nI_le (a := 16) (by omega) (by omega)) H
  | succ d ih =>
    intro i hi
    have ih' := ih (i + 1) (by omega)
    have hi16 : i < 16 := by omega
    refine br_f (nI_ge (b := 16) (by omega) (by omega)) ⟨hs_in hi16, ?_⟩
    rw [hs_c hi16]
    by_cases z : i = 0
    · subst z
      have k0 : ¬ K 0 = 0 := by rw [hK.1]; decide
      rw [hs_ry_z (Or.inl rfl), ← hs_rt_s k0] at ih'
      unfold hs_rf at ih'
      refine br_t hK.1 ?_
      rw [hs_rt_at, e1]
      refine nm_e (br_c (fun a => nm_e (nm_r (nI_1 0) ?_)) (fun a => nm_e (nm_r (nI_1 0) ?_)))
      · rw [if_pos a, e1] at ih'; exact ih'
      · rw [if_neg a, e1] at ih'; exact ih'
    · refine br_f (hK.2.1 i hi16 z) ⟨hs_in hi16, br_c (fun a => nm_r (nI_1 i) ?_) (fun a => ⟨hs_in hi16, hs_in hi16, ?_⟩)⟩
      · rw [hs_rt_z a, hs_ry_z (Or.inr a)] at ih'; exact ih'
      · rw [hs_rt_at, (e2 i z).1]
        rw [← hs_rt_s a, ← hs_ry_s z a] at ih'
        refine nm_e ⟨hs_in hi16, br_c (fun b => ⟨hs_in hi16, hs_y171 hi16 (e2 i z).2 ?_⟩) (fun b => hs_y171 hi16 (e2 i z).2 ?_)⟩
        · rw [hs_ry_at]
          rw [show hs_rf dl (T i) (R i) = (R i).toInt64 * dl from if_pos b] at ih'
          exact ih'
        · rw [hs_ry_at]
          rw [show hs_rf dl (T i) (R i) = T i + (R i).toInt64 from if_neg b] at ih'
          exact ih'
theorem hs_y340 {post : Int32 → SY → Prop} {J25 : hs_JT} {x2 x3 x4 : Int32} (hK : hs_K K P) (e1 : lk = (R 0).toInt64) (e2 : ∀ i, i ≠ 0 → RY i = (R i).toInt64 ∧ EY i = (CE i).toInt64) (H : ∃ n, wY_run_240 post J25 x2 x4 n x3 0 lk ql dl sd K P RY EY (hs_rt K R dl T 16) (hs_ry K CE dl CY 16) SE DR PR QU DF YQ QC PT YL) : ∃ n, wY_run_34 post J25 x2 x3 x4 lk ql dl sd n 0 K P RY EY T CY SE DR PR QU DF YQ QC PT YL := by
  have h : wY_run_34 post J25 x2 x3 x4 lk ql dl sd 17 (nI 0) K P RY EY (hs_rt K R dl T 0) (hs_ry K CE dl CY 0) SE DR PR QU DF YQ QC PT YL := hs_y34 hK e1 e2 H 16 0 (by omega)
  rw [hs_rt_0, hs_ry_0] at h
  exact ⟨17, h⟩
theorem hs_b_fill {d : Int64} (hK : hs_K K P) (hB : hs_B lk R CE T CX RY EY CY) : hs_B lk R CE (hs_rt K R d T 16) (hs_rt K CE d CX 16) RY EY (hs_ry K CE d CY 16) := by
  have k0 : ¬ K 0 = 0 := by rw [hK.1]; decide
  refine ⟨hB.1, hB.2.1, ?_, fun i hi => ⟨(hB.2.2.2 i hi).1, (hB.2.2.2 i hi).2.1, ?_⟩⟩
  · unfold hs_rt
    rw [if_pos ⟨by omega, k0⟩, if_pos ⟨by omega, k0⟩, hB.2.1, hB.2.2.1]
  · unfold hs_rt hs_ry
    rw [(hB.2.2.2 i hi).2.2]
    by_cases c : i < 16 ∧ ¬ K i = 0
    · rw [if_pos c, if_pos ⟨⟨c.1, hi⟩, c.2⟩]
    · rw [if_neg c, if_neg (fun z => c ⟨z.1.1, z.2⟩)]
end HSJ
end
section
/-! run: the send loop by the packets left, the ticks by what is left -/
section HSK
def hs_WX (post : Int32 → SX → Prop) (n : Nat) (x : Int32) (u : SX) : Prop := match u with
  | (ql, dp, sd, K, P, R, CE, T, CX, SE, DR, PR, QU, DF, PT, XQ, QH, QC, XL) => wX_sendWhileEligible_2 post n x ql dp sd K P R CE T CX SE DR PR QU DF PT XQ QH QC XL
def hs_VX (post : Int32 → SX → Prop) (x2 : Int32) (n : Nat) (x3 x4 : Int32) (u : SX) : Prop := match u with
  | (ql, dp, sd, K, P, R, CE, T, CX, SE, DR, PR, QU, DF, PT, XQ, QH, QC, XL) => wX_run_18 post x2 n x3 x4 ql dp sd K P R CE T CX SE DR PR QU DF PT XQ QH QC XL
def hs_J (J : hs_JT) (x3 x4 : Int32) (w : SY) : Prop := match w with
  | (lk, ql, dl, sd, K, P, RY, EY, T, CY, SE, DR, PR, QU, DF, YQ, QC, PT, YL) => J x3 x4 lk ql dl sd K P RY EY T CY SE DR PR QU DF YQ QC PT YL
def hs_WY (post : Int32 → SY → Prop) (J : hs_JT) (x2 x4 : Int32) (n : Nat) (x3 x5 : Int32) (w : SY) : Prop := match w with
  | (lk, ql, dl, sd, K, P, RY, EY, T, CY, SE, DR, PR, QU, DF, YQ, QC, PT, YL) => wY_run_240 post J x2 x4 n x3 x5 lk ql dl sd K P RY EY T CY SE DR PR QU DF YQ QC PT YL
def hs_FY (post : Int32 → SY → Prop) (J : hs_JT) (x2 x3 x4 : Int32) (w : SY) : Prop := match w with
  | (lk, ql, dl, sd, K, P, RY, EY, T, CY, SE, DR, PR, QU, DF, YQ, QC, PT, YL) => ∃ n, wY_run_34 post J x2 x3 x4 lk ql dl sd n 0 K P RY EY T CY SE DR PR QU DF YQ QC PT YL
def hs_VY (post : Int32 → SY → Prop) (x2 : Int32) (n : Nat) (x3 x4 : Int32) (w : SY) : Prop := match w with
  | (lk, ql, dl, sd, K, P, RY, EY, T, CY, SE, DR, PR, QU, DF, YQ, QC, PT, YL) => wY_run_25 post x2 n x3 x4 lk ql dl sd K P RY EY T CY SE DR PR QU DF YQ QC PT YL
variable {ql dp sd : Int32} {lk dl : Int64} {K P R CE PR QU DF PT XQ QH QC XL YQ YL : Nat → Int32} {T CX SE DR RY EY CY : Nat → Int64}
theorem hs_VXi {post : Int32 → SX → Prop} {x2 : Int32} {n : Nat} {x3 x4 : Int32} (h : hs_VX post x2 n x3 x4 (ql, dp, sd, K, P, R, CE, T, CX, SE, DR, PR, QU, DF, PT, XQ, QH, QC, XL)) : wX_run_18 post x2 n x3 x4 ql dp sd K P R CE T CX SE DR PR QU DF PT XQ QH QC XL := h
theorem hs_VYi {post : Int32 → SY → Prop} {x2 : Int32} {n : Nat} {x3 x4 : Int32} (h : hs_VY post x2 n x3 x4 (lk, ql, dl, sd, K, P, RY, EY, T, CY, SE, DR, PR, QU, DF, YQ, QC, PT, YL)) : wY_run_25 post x2 n x3 x4 lk ql dl sd K P RY EY T CY SE DR PR QU DF YQ QC PT YL := h
theorem hs_R_le {n : Nat} {u : SX} {w : SY} (h : hs_R n u w) : n ≤ 120 := by
  obtain ⟨ql, dp, sd, lk, dl, K, P, R, CE, PR, QU, DF, PT, XQ, QH, QC, XL, YQ, YL, T, CX, SE, DR, RY, EY, CY, rfl, rfl, hA, hK, hZ, hB, hP, hQ, hL, rfl⟩ := h
  exact hs_q_tot hQ
theorem hs_refill {n : Nat} {u : SX} {w : SY} (h : hs_R n u w) : ∃ (u' : SX) (w' : SY), hs_R n u' w' ∧ (∀ post : SX → Prop, post u' → wpX_refillAll post u) ∧ (∀ (post : Int32 → SY → Prop) (J : hs_JT) (x2 x3 x4 : Int32), (∃ m, hs_WY post J x2 x4 m x3 0 w') → hs_FY post J x2 x3 x4 w) := by
  obtain ⟨ql, dp, sd, lk, dl, K, P, R, CE, PR, QU, DF, PT, XQ, QH, QC, XL, YQ, YL, T, CX, SE, DR, RY, EY, CY, rfl, rfl, hA, hK, hZ, hB, hP, hQ, hL, rfl⟩ := h
  have hB' := hs_b_fill (d := dl) hK hB
  refine ⟨_, _, hs_mkR (QU := QU) hA hK hZ hB' hP hQ hL, fun post hp => hs_xra0 ?_, fun post J x2 x3 x4 H => ?_⟩
  · rw [← hA.2]; exact hp
  · exact hs_y340 hK hB.1 (fun i hi => ⟨(hB.2.2.2 i hi).1, (hB.2.2.2 i hi).2.1⟩) H
theorem hs_sends : ∀ (n : Nat) (u : SX) (w : SY), hs_R n u w → ∃ (m : Nat) (u' : SX) (w' : SY), m ≤ n ∧ hs_R (n - m) u' w' ∧ (∀ (post : Int32 → SX → Prop) (f c : Nat), c + m < 128 → post (nI (c + m)) u' → hs_WX post (f + m + 1) (nI c) u) ∧ (∀ (post : Int32 → SY → Prop) (J : hs_JT) (x2 x4 : Int32) (f c : Nat) (b : Int32), c + m < 121 → hs_J J (b + nI m) (x4 + 1) w' → hs_WY post J x2 x4 (f + m + 1) b (nI c) w) := by
  intro n
  induction n with
  | zero =>
    intro u w h
    have st := hs_step h
    obtain ⟨ql, dp, sd, lk, dl, K, P, R, CE, PR, QU, DF, PT, XQ, QH, QC, XL, YQ, YL, T, CX, SE, DR, RY, EY, CY, rfl, rfl, hI⟩ := h
    rcases st with ⟨hx, hy⟩ | ⟨_, _, _, _, _, bad, _⟩
    · refine ⟨0, (ql, dp, sd, K, P, R, CE, T, CX, SE, DR, PR, QU, DF, PT, XQ, QH, QC, XL), (lk, ql, dl, sd, K, P, RY, EY, T, CY, SE, DR, PR, QU, DF, YQ, QC, PT, YL), Nat.le_refl 0, ⟨ql, dp, sd, lk, dl, K, P, R, CE, PR, QU, DF, PT, XQ, QH, QC, XL, YQ, YL, T, CX, SE, DR, RY, EY, CY, rfl, rfl, hI⟩, ?_, ?_⟩
      · intro post f c hc hp
        show wX_sendWhileEligible_2 post (f + 1) (nI c) ql dp sd K P R CE T CX SE DR PR QU DF PT XQ QH QC XL
        exact br_f (nI_ge (b := 128) (by omega) (by omega)) (hx _ (br_t rfl hp))
      · intro post J x2 x4 f c b hc hp
        have e : b + nI 0 = b := by rw [nI_0, Int32.add_zero]
        rw [e] at hp
        show wY_run_240 post J x2 x4 (f + 1) b (nI c) lk ql dl sd K P RY EY T CY SE DR PR QU DF YQ QC PT YL
        exact br_f (nI_ge (b := 121) (by omega) (by omega)) (hy _ (br_t rfl (nm_e hp)))
    · omega
  | succ n ih =>
    intro u w h
    have st := hs_step h
    obtain ⟨ql, dp, sd, lk, dl, K, P, R, CE, PR, QU, DF, PT, XQ, QH, QC, XL, YQ, YL, T, CX, SE, DR, RY, EY, CY, rfl, rfl, hI⟩ := h
    rcases st with ⟨hx, hy⟩ | ⟨u1, w1, a, b', c', _, h1, ha, hxa, hxb, hxc, hxs, hys⟩
    · refine ⟨0, (ql, dp, sd, K, P, R, CE, T, CX, SE, DR, PR, QU, DF, PT, XQ, QH, QC, XL), (lk, ql, dl, sd, K, P, RY, EY, T, CY, SE, DR, PR, QU, DF, YQ, QC, PT, YL), Nat.zero_le _, ⟨ql, dp, sd, lk, dl, K, P, R, CE, PR, QU, DF, PT, XQ, QH, QC, XL, YQ, YL, T, CX, SE, DR, RY, EY, CY, rfl, rfl, hI⟩, ?_, ?_⟩
      · intro post f c hc hp
        show wX_sendWhileEligible_2 post (f + 1) (nI c) ql dp sd K P R CE T CX SE DR PR QU DF PT XQ QH QC XL
        exact br_f (nI_ge (b := 128) (by omega) (by omega)) (hx _ (br_t rfl hp))
      · intro post J x2 x4 f c b hc hp
        have e : b + nI 0 = b := by rw [nI_0, Int32.add_zero]
        rw [e] at hp
        show wY_run_240 post J x2 x4 (f + 1) b (nI c) lk ql dl sd K P RY EY T CY SE DR PR QU DF YQ QC PT YL
        exact br_f (nI_ge (b := 121) (by omega) (by omega)) (hy _ (br_t rfl (nm_e hp)))
    · rw [Nat.add_sub_cancel] at h1
      obtain ⟨m, u2, w2, hm, h2, gx, gy⟩ := ih u1 w1 h1
      refine ⟨m + 1, u2, w2, by omega, by rw [show n + 1 - (m + 1) = n - m by omega]; exact h2, ?_, ?_⟩
      · intro post f c hc hp
        have g := gx post f (c + 1) (by omega) (by rw [show c + 1 + m = c + (m + 1) by omega]; exact hp)
        clear gx gy hys h2
        obtain ⟨ql1, dp1, sd1, lk1, dl1, K1, P1, R1, CE1, PR1, QU1, DF1, PT1, XQ1, QH1, QC1, XL1, YQ1, YL1, T1, CX1, SE1, DR1, RY1, EY1, CY1, rfl, rfl, hI1⟩ := h1
        show wX_sendWhileEligible_2 post (f + m + 1 + 1) (nI c) ql dp sd K P R CE T CX SE DR PR QU DF PT XQ QH QC XL
        exact br_f (nI_ge (b := 128) (by omega) (by omega)) (hxa _ (br_f ha (hxb _ (hxc _ (hxs _ (nm_r (nI_1 c) g))))))
      · intro post J x2 x4 f c b hc hp
        have e : b + nI (m + 1) = b + 1 + nI m := by rw [nI_succ]; grind
        rw [e] at hp
        have g := gy post J x2 x4 f (c + 1) (b + 1) (by omega) hp
        obtain ⟨ql1, dp1, sd1, lk1, dl1, K1, P1, R1, CE1, PR1, QU1, DF1, PT1, XQ1, QH1, QC1, XL1, YQ1, YL1, T1, CX1, SE1, DR1, RY1, EY1, CY1, rfl, rfl, hI1⟩ := h1
        show wY_run_240 post J x2 x4 (f + m + 1 + 1) b (nI c) lk ql dl sd K P RY EY T CY SE DR PR QU DF YQ QC PT YL
        exact br_f (nI_ge (b := 121) (by omega) (by omega)) (hys _ (br_f (by decide) (nm_e (nm_r (nI_1 c) g))))
theorem hs_ticks {k : Nat} (hk : k ≤ 64) : ∀ (d t n : Nat) (b : Int32) (u : SX) (w : SY), t + d = k → hs_R n u w → ∃ (r : Int32) (n' : Nat) (u' : SX) (w' : SY), hs_R n' u' w' ∧ (∀ post : Int32 → SX → Prop, post r u' → hs_VX post (nI k) (d + 1) b (nI t) u) ∧ (∀ post : Int32 → SY → Prop, post r w' → hs_VY post (nI k) (d + 1) b (nI t) w) := by
  intro d
  induction d with
  | zero =>
    intro t n b u w ht h
    have e : t = k := by omega
    subst e
    refine ⟨b, n, u, w, h, ?_, ?_⟩
    all_goals
      intro post hp
      obtain ⟨ql, dp, sd, lk, dl, K, P, R, CE, PR, QU, DF, PT, XQ, QH, QC, XL, YQ, YL, T, CX, SE, DR, RY, EY, CY, rfl, rfl, hI⟩ := h
    · show wX_run_18 post (nI t) 1 b (nI t) ql dp sd K P R CE T CX SE DR PR QU DF PT XQ QH QC XL
      exact br_t (nI_le (Nat.le_refl t) (by omega)) hp
    · show wY_run_25 post (nI t) 1 b (nI t) lk ql dl sd K P RY EY T CY SE DR PR QU DF YQ QC PT YL
      exact br_t (nI_le (Nat.le_refl t) (by omega)) hp
  | succ d ih =>
    intro t n b u w ht h
    obtain ⟨u1, w1, h1, rx, ry⟩ := hs_refill h
    have hn := hs_R_le h1
    obtain ⟨m, u2, w2, hm, h2, sx, sy⟩ := hs_sends n u1 w1 h1
    obtain ⟨r, n', u3, w3, h3, tx, ty⟩ := ih (t + 1) (n - m) (b + nI m) u2 w2 (by omega) h2
    refine ⟨r, n', u3, w3, h3, ?_, ?_⟩
    · intro post hp
      have g := tx post hp
      have s := sx (fun r_23 u => hs_VX post (nI k) (d + 1) (b + r_23) (nI (t + 1)) u) 0 0 (by omega) (by rw [show 0 + m = m by omega]; exact g)
      clear sx sy tx ty ry h3
      obtain ⟨ql, dp, sd, lk, dl, K, P, R, CE, PR, QU, DF, PT, XQ, QH, QC, XL, YQ, YL, T, CX, SE, DR, RY, EY, CY, rfl, rfl, hI⟩ := h
      obtain ⟨ql1, dp1, sd1, lk1, dl1, K1, P1, R1, CE1, PR1, QU1, DF1, PT1, XQ1, QH1, QC1, XL1, YQ1, YL1, T1, CX1, SE1, DR1, RY1, EY1, CY1, rfl, rfl, hI1⟩ := h1
      show wX_run_18 post (nI k) (d + 1 + 1) b (nI t) ql dp sd K P R CE T CX SE DR PR QU DF PT XQ QH QC XL
      refine br_f (nI_ge (by omega) (by omega)) (rx _ ⟨0 + m + 1, ?_⟩)
      have hpost : (fun (r_23 : Int32) (u : SX) => hs_VX post (nI k) (d + 1) (b + r_23) (nI (t + 1)) u) = (fun r_23 u => match u with | (ql, dp, sd, K, P, R, CE, T, CX, SE, DR, PR, QU, DF, PT, XQ, QH, QC, XL) => ∀ x3 : Int32, x3 = b + r_23 → ∀ x4 : Int32, x4 = nI t + 1 → wX_run_18 post (nI k) (d + 1) x3 x4 ql dp sd K P R CE T CX SE DR PR QU DF PT XQ QH QC XL) := by
        funext r_23 u
        obtain ⟨ql, dp, sd, K, P, R, CE, T, CX, SE, DR, PR, QU, DF, PT, XQ, QH, QC, XL⟩ := u
        apply propext
        constructor
        · intro z x3 e3 x4 e4
          subst e3 e4
          rw [nI_1]; exact z
        · intro z
          have z' := z _ rfl _ rfl
          rw [nI_1] at z'; exact z'
      rw [hpost] at s
      exact s
    · intro post hp
      have g := ty post hp
      have s := sy post (wY_run_25 post (nI k) (d + 1)) (nI k) (nI t) 0 0 b (by omega) (by
        rw [nI_1]
        obtain ⟨lk, ql, dl, sd, K, P, RY, EY, T, CY, SE, DR, PR, QU, DF, YQ, QC, PT, YL⟩ := w2
        exact g)
      have f := ry post (wY_run_25 post (nI k) (d + 1)) (nI k) b (nI t) ⟨_, s⟩
      clear sx sy tx ty rx ry h3
      obtain ⟨ql, dp, sd, lk, dl, K, P, R, CE, PR, QU, DF, PT, XQ, QH, QC, XL, YQ, YL, T, CX, SE, DR, RY, EY, CY, rfl, rfl, hI⟩ := h
      show wY_run_25 post (nI k) (d + 1 + 1) b (nI t) lk ql dl sd K P RY EY T CY SE DR PR QU DF YQ QC PT YL
      exact br_f (nI_ge (by omega) (by omega)) f
end HSK
end
section
theorem i_vc_run {k : Nat} {u : SX} {v : SY} (I : i_Rel k u v) (hk : k + 5 ≤ 2563) (v1 : Int32) : wpX_run (fun r u' => wpY_run (fun r' v' => r' = r ∧ i_Rel (k + 5) u' v') v v1) u v1 := by
  obtain ⟨n, h⟩ := I
  by_cases c : 1 ≤ v1
  · have h0 : ¬ v1 < 0 := by
      rw [Int32.le_iff_toInt_le, show (1 : Int32).toInt = 1 from by decide] at c
      rw [Int32.lt_iff_toInt_lt, show (0 : Int32).toInt = 0 from by decide]; omega
    by_cases e : v1 ≤ 64
    · obtain ⟨t, ht, rfl⟩ := nI_of2 (n := 64) (by decide) h0 e
      obtain ⟨r, n', u', w', h', gx, gy⟩ := hs_ticks ht t 0 n 0 u v (by omega) h
      obtain ⟨ql, dp, sd, lk, dl, K, P, R, CE, PR, QU, DF, PT, XQ, QH, QC, XL, YQ, YL, T, CX, SE, DR, RY, EY, CY, rfl, rfl, hI⟩ := h
      unfold wpX_run
      refine br_t e ⟨t + 1, hs_VXi (gx _ ?_)⟩
      unfold wpY_run
      exact br_t c (br_t e ⟨t + 1, hs_VYi (gy _ ⟨rfl, n', h'⟩)⟩)
    · obtain ⟨r, n', u', w', h', gx, gy⟩ := hs_ticks (k := 64) (by omega) 64 0 n 0 u v (by omega) h
      obtain ⟨ql, dp, sd, lk, dl, K, P, R, CE, PR, QU, DF, PT, XQ, QH, QC, XL, YQ, YL, T, CX, SE, DR, RY, EY, CY, rfl, rfl, hI⟩ := h
      unfold wpX_run
      refine br_f e ⟨65, hs_VXi (gx _ ?_)⟩
      unfold wpY_run
      exact br_t c (br_f e ⟨65, hs_VYi (gy _ ⟨rfl, n', h'⟩)⟩)
  · have c' := c
    rw [Int32.le_iff_toInt_le, show (1 : Int32).toInt = 1 from by decide] at c'
    have h64 : v1 ≤ 64 := by
      rw [Int32.le_iff_toInt_le, show (64 : Int32).toInt = 64 from by decide]; omega
    have h0 : v1 ≤ 0 := by
      rw [Int32.le_iff_toInt_le, show (0 : Int32).toInt = 0 from by decide]; omega
    have J : i_Rel (k + 5) u v := ⟨n, h⟩
    obtain ⟨ql, dp, sd, lk, dl, K, P, R, CE, PR, QU, DF, PT, XQ, QH, QC, XL, YQ, YL, T, CX, SE, DR, RY, EY, CY, rfl, rfl, hI⟩ := h
    unfold wpX_run wpY_run
    exact br_t h64 ⟨1, br_t h0 (br_f c ⟨rfl, J⟩)⟩
end
