/-! texts read: figures -/
def digS (t : Nat → Nat) (n : Nat) : Nat → Nat → Nat → Nat → Nat × Nat × Nat
  | 0, q, c, v => (c, v, q)
  | f + 1, q, c, v => if q < n ∧ 48 ≤ t q ∧ t q ≤ 57 then digS t n f (q + 1) (c + 1) (10 * v + t q - 48) else (c, v, q)
def dg (t : Nat → Nat) (n q : Nat) : Nat × Nat × Nat := digS t n 4 q 0 0
def figS (t : Nat → Nat) (n many : Nat) : Nat → Nat → (Nat → Nat) → Option (Nat × (Nat → Nat))
  | 0, q, vs => some (q, vs)
  | r + 1, q, vs => if 1 ≤ (dg t n q).1 ∧ (dg t n q).1 ≤ 3 ∧ (dg t n q).2.2 < n ∧ t (dg t n q).2.2 = (if r = 0 then 59 else 44) then figS t n many r ((dg t n q).2.2 + 1) (fun j => if j = many - (r + 1) then (dg t n q).2.1 else vs j) else none
theorem digS_bd (t : Nat → Nat) (n : Nat) : ∀ (f q c v : Nat), v < 10 ^ c → (digS t n f q c v).2.1 < 10 ^ (digS t n f q c v).1 ∧ q ≤ (digS t n f q c v).2.2 ∧ (digS t n f q c v).2.2 ≤ q + f ∧ c ≤ (digS t n f q c v).1 ∧ (digS t n f q c v).1 ≤ c + f
  | 0, q, c, v, h => ⟨h, Nat.le_refl _, Nat.le_refl _, Nat.le_refl _, Nat.le_refl _⟩
  | f + 1, q, c, v, h => by
    unfold digS
    by_cases hc : q < n ∧ 48 ≤ t q ∧ t q ≤ 57
    · rw [if_pos hc]
      have hp : (10 : Nat) ^ (c + 1) = 10 ^ c * 10 := Nat.pow_succ 10 c
      obtain ⟨h1, h2, h3, h4, h5⟩ := digS_bd t n f (q + 1) (c + 1) (10 * v + t q - 48) (by rw [hp]; generalize (10 : Nat) ^ c = x at *; omega)
      exact ⟨h1, by omega, by omega, by omega, by omega⟩
    · rw [if_neg hc]
      exact ⟨h, Nat.le_refl _, by dsimp only; omega, Nat.le_refl _, by dsimp only; omega⟩
theorem dg_bd (t : Nat → Nat) (n q : Nat) : q ≤ (dg t n q).2.2 ∧ (dg t n q).2.2 ≤ q + 4 ∧ (dg t n q).1 ≤ 4 ∧ (dg t n q).2.1 ≤ 9999 ∧ ((dg t n q).1 ≤ 3 → (dg t n q).2.1 ≤ 999) := by
  obtain ⟨h1, h2, h3, h4, h5⟩ := digS_bd t n 4 q 0 0 (by decide)
  unfold dg
  refine ⟨h2, h3, by omega, ?_, fun h => ?_⟩
  · have : (10 : Nat) ^ (digS t n 4 q 0 0).1 ≤ 10 ^ 4 := Nat.pow_le_pow_right (by omega) (by omega)
    have e : (10 : Nat) ^ 4 = 10000 := by decide
    omega
  · have : (10 : Nat) ^ (digS t n 4 q 0 0).1 ≤ 10 ^ 3 := Nat.pow_le_pow_right (by omega) h
    have e : (10 : Nat) ^ 3 = 1000 := by decide
    omega
theorem figS_bd {t : Nat → Nat} {n many : Nat} : ∀ {r q : Nat} {vs : Nat → Nat} {q2 : Nat} {vs2 : Nat → Nat}, figS t n many r q vs = some (q2, vs2) → q + r ≤ q2 ∧ (q ≤ n → q2 ≤ n) ∧ ((∀ j, vs j ≤ 999) → ∀ j, vs2 j ≤ 999)
  | 0, q, vs, q2, vs2, h => by
    have e : (q, vs) = (q2, vs2) := Option.some.inj h
    have e1 : q = q2 := congrArg Prod.fst e
    have e2 : vs = vs2 := congrArg Prod.snd e
    exact ⟨by omega, fun z => by omega, fun z => by rw [← e2]; exact z⟩
  | r + 1, q, vs, q2, vs2, h => by
    unfold figS at h
    obtain ⟨d1, d2, d3, d4, d5⟩ := dg_bd t n q
    by_cases hc : 1 ≤ (dg t n q).1 ∧ (dg t n q).1 ≤ 3 ∧ (dg t n q).2.2 < n ∧ t (dg t n q).2.2 = (if r = 0 then 59 else 44)
    · rw [if_pos hc] at h
      obtain ⟨h1, h2, h3⟩ := figS_bd h
      refine ⟨by omega, fun z => h2 (by omega), fun z => h3 (fun j => ?_)⟩
      by_cases hj : j = many - (r + 1)
      · rw [if_pos hj]; exact d5 hc.2.1
      · rw [if_neg hj]; exact z j
    · rw [if_neg hc] at h; exact absurd h (by simp)
/-! the class -/
def TE (S : St) (t : Nat → Nat) (n : Nat) : Prop := n ≤ 300 ∧ (∀ k, k < n → t k < 256) ∧ S.1 1 1 = iI n ∧ ∀ k, k < n → S.1 2 k = iI (t k)
theorem TE_fr {S S2 : St} {t : Nat → Nat} {n : Nat} {P : Nat → Nat → Prop} (h : TE S t n) (hf : Fr P S S2) (hp : ∀ a k, P a k → 3 ≤ a) : TE S2 t n := by
  obtain ⟨h1, h2, h3, h4⟩ := h
  exact ⟨h1, h2, (hf.1 1 1 (fun z => by have := hp _ _ z; omega)).trans h3, fun k hk => (hf.1 2 k (fun z => by have := hp _ _ z; omega)).trans (h4 k hk)⟩
theorem E_byteAt {S : St} {t : Nat → Nat} {n q : Nat} (h : TE S t n) (hq : q ≤ 1000) : f_X7_byteAt 1 (iI q) S = some (if q < n then iI (t q) else iI (-1), S) := by
  obtain ⟨h1, h2, h3, h4⟩ := h
  unfold f_X7_byteAt
  dsimp only [Nat.reduceAdd]
  rw [show (0 : Int32) = iI 0 from rfl, if_neg (by rw [iI_lt (by omega) (by omega)]; omega), h3]
  by_cases hc : q < n
  · rw [if_neg (by rw [iI_le (by omega) (by omega)]; omega), if_pos hc, ob_iI (by omega), iI_nat (by omega), h4 q hc]
  · rw [if_pos (by rw [iI_le (by omega) (by omega)]; omega), if_neg hc, iI_n1]
theorem within_iI {z : Int} {a b : Nat} {S : St} (hz : -1000 ≤ z ∧ z ≤ 100000) (ha : a ≤ 100000) (hb : b ≤ 100000) : f_X9_isWithin (iI z) (iI a) (iI b) S = some (bI (decide ((a : Int) ≤ z ∧ z ≤ b)), S) := by
  rw [sp_within, iI_toInt (by omega), iI_toInt (by omega), iI_toInt (by omega)]
  by_cases hc : (a : Int) ≤ z ∧ z ≤ b
  · rw [if_neg (by omega), decide_eq_true hc]; rfl
  · rw [if_pos (by omega), decide_eq_false hc]; rfl
theorem in_iI {z : Int} {a b : Int} {S : St} (hz : -1000 ≤ z ∧ z ≤ 100000) (ha : -1000 ≤ a ∧ a ≤ 100000) (hb : -1000 ≤ b ∧ b ≤ 100000) : f_X10_in (Int32.toInt64 (iI z)) (lI a) (lI b) S = some (bI (decide (a ≤ z ∧ z ≤ b)), S) := by
  rw [sp_in, Int32.toInt_toInt64, iI_toInt (by omega), lI_toInt (by omega), lI_toInt (by omega)]
  by_cases hc : a ≤ z ∧ z ≤ b
  · rw [if_neg (by omega), decide_eq_true hc]; rfl
  · rw [if_pos (by omega), decide_eq_false hc]; rfl
def P31 (a k : Nat) : Prop := a = 3 ∧ k = 1
theorem E_number {t : Nat → Nat} {n : Nat} : ∀ (f N q c v : Nat) (S : St), c + f = 4 → f < N → q ≤ 600 + c → S.1 3 1 = iI q → TE S t n →
    ∃ S2 : St, f_X3_readNumber_L4 N 3 1 (iI v) (iI c) S = some (if 1 ≤ (digS t n f q c v).1 ∧ (digS t n f q c v).1 ≤ 3 then iI (digS t n f q c v).2.1 else iI (-1), S2) ∧ S2.1 3 1 = iI (digS t n f q c v).2.2 ∧ Fr P31 S S2 := by
  intro f
  induction f with
  | zero =>
    intro N q c v S hc hN hq h31 hT
    obtain ⟨N, rfl⟩ : ∃ k, N = k + 1 := ⟨N - 1, by omega⟩
    refine ⟨S, ?_, h31, Fr.rf⟩
    have e : digS t n 0 q c v = (c, v, q) := rfl
    rw [e]
    dsimp only
    rw [f_X3_readNumber_L4, show (3 : Int32) = iI 3 from rfl, if_pos (by rw [iI_lt (by omega) (by omega)]; omega), if_neg (by omega)]
    unfold f_X3_readNumber_J60
    rw [show (1 : Int32) = iI 1 from rfl, show (3 : Int32) = iI 3 from rfl, if_neg (by rw [iI_lt (by omega) (by omega)]; omega), if_pos (by rw [iI_lt (by omega) (by omega)]; omega), iI_neg]
  | succ f ih =>
    intro N q c v S hc hN hq h31 hT
    obtain ⟨N, rfl⟩ : ∃ k, N = k + 1 := ⟨N - 1, by omega⟩
    have hb := E_byteAt (q := q) hT (by omega)
    have h2 := hT.2.1
    have hpre : ∀ R : Option (Int32 × St), (if bI (decide ((48 : Int) ≤ (if q < n then (t q : Int) else -1) ∧ (if q < n then (t q : Int) else -1) ≤ 57)) = 0 then f_X3_readNumber_J60 3 1 (iI v) (iI c) S else f_X3_readNumber_L4 N 3 1 (iI v * (10 : Int32) + (if q < n then iI (t q) else iI (-1)) - (48 : Int32)) (iI (c + 1 : Nat)) (pI S 3 1 (iI (q + 1 : Nat)))) = R → f_X3_readNumber_L4 (N + 1) 3 1 (iI v) (iI c) S = R := by
      intro R hR
      have hx : (if q < n then iI (t q) else iI (-1)) = iI (if q < n then (t q : Int) else -1) := by
        by_cases hqn : q < n
        · rw [if_pos hqn, if_pos hqn]
        · rw [if_neg hqn, if_neg hqn]
      have hzb : -1000 ≤ (if q < n then (t q : Int) else -1) ∧ (if q < n then (t q : Int) else -1) ≤ 100000 := by
        by_cases hqn : q < n
        · have := h2 q hqn
          rw [if_pos hqn]; omega
        · rw [if_neg hqn]; omega
      rw [f_X3_readNumber_L4, show (3 : Int32) = iI 3 from rfl, if_neg (by rw [iI_lt (by omega) (by omega)]; omega), h31, bd_ok hb, hx]
      have hw := within_iI (z := if q < n then (t q : Int) else -1) (a := 48) (b := 57) (S := S) hzb (by omega) (by omega)
      have hw' : f_X9_isWithin (iI (if q < n then (t q : Int) else -1)) 48 57 S = some (bI (decide ((48 : Int) ≤ (if q < n then (t q : Int) else -1) ∧ (if q < n then (t q : Int) else -1) ≤ 57)), S) := hw
      rw [bd_ok hw', h31, bd_ok hb, sq_k, h31, sq_k, show iI q + (1 : Int32) = iI (q + 1 : Nat) from iI_add q 1, show iI c + (1 : Int32) = iI (c + 1 : Nat) from iI_add c 1]
      exact hR
    by_cases hd : q < n ∧ 48 ≤ t q ∧ t q ≤ 57
    · have e : digS t n (f + 1) q c v = digS t n f (q + 1) (c + 1) (10 * v + t q - 48) := by
        show (if q < n ∧ 48 ≤ t q ∧ t q ≤ 57 then _ else _) = _
        rw [if_pos hd]
      have hw31 : P31 3 1 := ⟨rfl, rfl⟩
      have f1 : Fr P31 S (pI S 3 1 (iI (q + 1 : Nat))) := Fr.pI hw31
      obtain ⟨S2, y1, y2, y3⟩ := ih N (q + 1) (c + 1) (10 * v + t q - 48) (pI S 3 1 (iI (q + 1 : Nat))) (by omega) (by omega) (by omega) (by rw [pI_1, if_pos ⟨rfl, rfl⟩]) (TE_fr hT f1 (fun a k z => by have := z.1; omega))
      rw [e]
      refine ⟨S2, hpre _ ?_, y2, f1.tr y3⟩
      rw [if_pos hd.1, decide_eq_true (by omega), if_neg (by decide), if_pos hd.1]
      have ev : iI v * (10 : Int32) + iI (t q) - (48 : Int32) = iI (10 * v + t q - 48 : Nat) := by
        rw [show (10 : Int32) = iI 10 from rfl, show (48 : Int32) = iI 48 from rfl, iI_mul, iI_add, iI_sub]; congr 1; omega
      rw [ev]
      exact y1
    · have e : digS t n (f + 1) q c v = (c, v, q) := by
        show (if q < n ∧ 48 ≤ t q ∧ t q ≤ 57 then _ else _) = _
        rw [if_neg hd]
      rw [e]
      refine ⟨S, hpre _ ?_, h31, Fr.rf⟩
      rw [decide_eq_false (by
        by_cases hqn : q < n
        · rw [if_pos hqn]; omega
        · rw [if_neg hqn]; omega), if_pos (by decide)]
      unfold f_X3_readNumber_J60
      rw [show (1 : Int32) = iI 1 from rfl, show (3 : Int32) = iI 3 from rfl]
      dsimp only
      by_cases h1 : 1 ≤ c
      · rw [if_neg (by rw [iI_lt (by omega) (by omega)]; omega), if_neg (by rw [iI_lt (by omega) (by omega)]; omega), if_pos (by omega)]
      · rw [if_pos (by rw [iI_lt (by omega) (by omega)]; omega), if_neg (by omega), iI_neg]
def P34 (a _ : Nat) : Prop := a = 3 ∨ a = 4
theorem E_numbers {t : Nat → Nat} {n many : Nat} (hm : many ≤ 5) : ∀ (r N q : Nat) (vs : Nat → Nat) (S : St), r ≤ many → r < N → q ≤ n → S.1 3 1 = iI q → TE S t n → (∀ j, j < many - r → S.1 4 j = iI (vs j)) →
    ∃ (S2 : St) (b : Bool), f_X3_readNumbers_L14 N 3 1 (iI many) (iI (many - r : Nat)) S = some (bI b, S2) ∧ Fr P34 S S2 ∧ (figS t n many r q vs = none → b = false) ∧ ∀ q2 vs2, figS t n many r q vs = some (q2, vs2) → b = true ∧ S2.1 3 1 = iI q2 ∧ ∀ j, j < many → S2.1 4 j = iI (vs2 j) := by
  intro r
  induction r with
  | zero =>
    intro N q vs S hr hN hq h31 hT hv
    obtain ⟨N, rfl⟩ : ∃ k, N = k + 1 := ⟨N - 1, by omega⟩
    refine ⟨S, true, ?_, Fr.rf, fun h => absurd h (by unfold figS; simp), fun q2 vs2 h => ?_⟩
    · rw [f_X3_readNumbers_L14, if_pos (by rw [iI_le (by omega) (by omega)]; omega)]; rfl
    · have e : (q, vs) = (q2, vs2) := Option.some.inj h
      have e1 : q = q2 := congrArg Prod.fst e
      have e2 : vs = vs2 := congrArg Prod.snd e
      refine ⟨rfl, by rw [← e1]; exact h31, fun j hj => by rw [← e2]; exact hv j (by omega)⟩
  | succ r ih =>
    intro N q vs S hr hN hq h31 hT hv
    obtain ⟨N, rfl⟩ : ∃ k, N = k + 1 := ⟨N - 1, by omega⟩
    have h300 := hT.1
    obtain ⟨d1, d2, d3, d4, d5⟩ := dg_bd t n q
    obtain ⟨S1, z1, z2, z3⟩ := E_number (t := t) (n := n) 4 FU q 0 0 S (by omega) (by unfold FU; omega) (by omega) h31 hT
    have z2' : S1.1 3 1 = iI (dg t n q).2.2 := z2
    have z1' : f_X3_readNumber 3 1 S = some (if 1 ≤ (dg t n q).1 ∧ (dg t n q).1 ≤ 3 then iI (dg t n q).2.1 else iI (-1), S1) := z1
    have hf : figS t n many (r + 1) q vs = if 1 ≤ (dg t n q).1 ∧ (dg t n q).1 ≤ 3 ∧ (dg t n q).2.2 < n ∧ t (dg t n q).2.2 = (if r = 0 then 59 else 44) then figS t n many r ((dg t n q).2.2 + 1) (fun j => if j = many - (r + 1) then (dg t n q).2.1 else vs j) else none := rfl
    rw [hf]
    generalize dg t n q = d at *
    have hw4 : P34 4 (many - (r + 1)) := Or.inr rfl
    have f1 : Fr P34 S S1 := z3.wk (fun a k h => Or.inl h.1)
    have hT1 : TE S1 t n := TE_fr hT f1 (fun a k z => by rcases z with z | z <;> omega)
    by_cases hc : 1 ≤ d.1 ∧ d.1 ≤ 3
    · rw [if_pos hc] at z1'
      obtain ⟨S3, hS3⟩ : ∃ S3, S3 = pI S1 4 (many - (r + 1)) (iI d.2.1) := ⟨_, rfl⟩
      have f3 : Fr P34 S S3 := by rw [hS3]; exact f1.tr (Fr.pI hw4)
      have hT3 : TE S3 t n := TE_fr hT f3 (fun a k z => by rcases z with z | z <;> omega)
      have h313 : S3.1 3 1 = iI d.2.2 := by rw [hS3, pI_row (by omega)]; exact z2'
      have hb := E_byteAt (q := d.2.2) hT3 (by omega)
      have h43 : S3.1 4 (many - (r + 1)) = iI d.2.1 := by rw [hS3, pI_1, if_pos ⟨rfl, rfl⟩]
      have hd999 := d5 hc.2
      have pre : ∀ R : Option (Int32 × St), f_X3_readNumbers_J61 3 1 (iI many) (fun l3 S => f_X3_readNumbers_L14 N 3 1 (iI many) l3 S) (iI (many - (r + 1) : Nat)) (if d.2.2 < n then iI (t d.2.2) else iI (-1)) (iI (if r = 0 then 59 else 44 : Nat)) S3 = R → f_X3_readNumbers_L14 (N + 1) 3 1 (iI many) (iI (many - (r + 1) : Nat)) S = R := by
        intro R hR
        rw [f_X3_readNumbers_L14, if_neg (by rw [iI_le (by omega) (by omega)]; omega), bd_ok z1', ob_iI (by omega), iI_nat (by omega)]
        dsimp only [Nat.reduceAdd]
        rw [sq_k, ← hS3, ob_iI (by omega), h43, if_neg (by rw [show (0 : Int32) = iI 0 from rfl, iI_lt (by omega) (by omega)]; omega), h313, bd_ok hb, show (1 : Int32) = iI 1 from rfl, iI_sub]
        by_cases hr0 : r = 0
        · rw [if_pos hr0] at hR
          rw [if_pos (by rw [iI_le (by omega) (by omega)]; omega)]
          exact hR
        · rw [if_neg hr0] at hR
          rw [if_neg (by rw [iI_le (by omega) (by omega)]; omega)]
          exact hR
      by_cases hs : d.2.2 < n ∧ t d.2.2 = (if r = 0 then 59 else 44)
      · rw [if_pos ⟨hc.1, hc.2, hs⟩]
        have hw3 : P34 3 1 := Or.inl rfl
        obtain ⟨S4, hS4⟩ : ∃ S4, S4 = pI S3 3 1 (iI (d.2.2 + 1 : Nat)) := ⟨_, rfl⟩
        have f4 : Fr P34 S S4 := by rw [hS4]; exact f3.tr (Fr.pI hw3)
        obtain ⟨S2, b, y1, y2, y3, y4⟩ := ih N (d.2.2 + 1) (fun j => if j = many - (r + 1) then d.2.1 else vs j) S4 (by omega) (by omega) (by omega) (by rw [hS4, pI_1, if_pos ⟨rfl, rfl⟩]) (TE_fr hT f4 (fun a k z => by rcases z with z | z <;> omega)) (fun j hj => by
          rw [hS4, pI_row (by omega), hS3, pI_1]
          by_cases hj2 : j = many - (r + 1)
          · rw [if_pos ⟨rfl, hj2⟩, if_pos hj2]
          · rw [if_neg (fun z => hj2 z.2), if_neg hj2, z3.1 4 j (by unfold P31; omega)]; exact hv j (by omega))
        refine ⟨S2, b, pre _ ?_, f4.tr y2, y3, y4⟩
        unfold f_X3_readNumbers_J61
        rw [if_pos hs.1, if_pos (by rw [hs.2]), h313, sq_k, show iI d.2.2 + (1 : Int32) = iI (d.2.2 + 1 : Nat) from iI_add _ 1, ← hS4, show iI (many - (r + 1) : Nat) + (1 : Int32) = iI (many - r : Nat) by rw [show many - r = many - (r + 1) + 1 by omega]; exact iI_add _ 1]
        exact y1
      · rw [if_neg (fun z => hs z.2.2)]
        refine ⟨S3, false, pre _ ?_, f3, fun _ => rfl, fun q2 vs2 h => absurd h (by simp)⟩
        unfold f_X3_readNumbers_J61
        by_cases hn : d.2.2 < n
        · have := hT.2.1 _ hn
          rw [if_pos hn, if_neg (by
            rw [iI_eq (by omega) (by by_cases hr0 : r = 0 <;> simp [hr0])]
            intro z
            exact hs ⟨hn, by omega⟩)]
          rfl
        · rw [if_neg hn, if_neg (by
            rw [iI_eq (by omega) (by by_cases hr0 : r = 0 <;> simp [hr0])]
            omega)]
          rfl
    · rw [if_neg hc] at z1'
      rw [if_neg (fun z => hc ⟨z.1, z.2.1⟩)]
      refine ⟨pI S1 4 (many - (r + 1)) (iI (-1)), false, ?_, f1.tr (Fr.pI hw4), fun _ => rfl, fun q2 vs2 h => absurd h (by simp)⟩
      rw [f_X3_readNumbers_L14, if_neg (by rw [iI_le (by omega) (by omega)]; omega), bd_ok z1', ob_iI (by omega), iI_nat (by omega)]
      dsimp only [Nat.reduceAdd]
      have h41 : (pI S1 4 (many - (r + 1)) (iI (-1))).1 4 (many - (r + 1)) = iI (-1) := by rw [pI_1, if_pos ⟨rfl, rfl⟩]
      rw [sq_k, ob_iI (by omega), h41, if_pos (by rw [show (0 : Int32) = iI 0 from rfl, iI_lt (by omega) (by omega)]; omega)]
      rfl
/-! the reference -/
def TM (S : St) (t : Nat → Nat) (n : Nat) : Prop := n ≤ 300 ∧ (∀ k, k < n → t k < 256) ∧ S.1 103 0 = iI n ∧ ∀ k, k < n → S.1 104 k = iI (t k)
def PRd (a k : Nat) : Prop := (a = 103 ∧ k = 25) ∨ (a = 105 ∧ 10 ≤ k) ∨ (a = 106 ∧ k = 1) ∨ (107 ≤ a ∧ a ≤ 113 ∧ 6 ≤ k) ∨ (114 ≤ a ∧ a ≤ 115 ∧ 18 ≤ k) ∨ a = 120
theorem TM_fr {S S2 : St} {t : Nat → Nat} {n : Nat} (h : TM S t n) (hf : Fr PRd S S2) : TM S2 t n := by
  obtain ⟨h1, h2, h3, h4⟩ := h
  exact ⟨h1, h2, (hf.1 103 0 (by unfold PRd; omega)).trans h3, fun k hk => (hf.1 104 k (by unfold PRd; omega)).trans (h4 k hk)⟩
theorem M_byteAt {S : St} {t : Nat → Nat} {n q : Nat} (h : TM S t n) (hq : q ≤ 1000) : f_X10_byteAt 103 (iI q) S = some (iI (if q < n then t q else 0 : Nat), S) := by
  obtain ⟨h1, h2, h3, h4⟩ := h
  unfold f_X10_byteAt
  dsimp only [Nat.reduceAdd]
  rw [h3]
  by_cases hc : q < n
  · rw [if_neg (by rw [iI_le (by omega) (by omega)]; omega), if_pos hc, ob_iI (by omega), iI_nat (by omega), h4 q hc]
  · rw [if_pos (by rw [iI_le (by omega) (by omega)]; omega), if_neg hc]; rfl
def P25 (a k : Nat) : Prop := a = 103 ∧ k = 25
theorem P25_rd {a k : Nat} (h : P25 a k) : PRd a k := Or.inl h
theorem M_number {t : Nat → Nat} {n : Nat} (kb2 : Int32 → St → Option (Int32 × St)) (a1 l2 : Int32) : ∀ (f N q c v : Nat) (S : St), c + f = 4 → f < N → q ≤ 600 + c → S.1 103 25 = iI q → TM S t n →
    ∃ S2 : St, f_X10_figures_L12 N 103 a1 kb2 l2 (iI c) (iI v) S = f_X10_figures_J73 103 a1 kb2 l2 (iI (digS t n f q c v).1) (iI (digS t n f q c v).2.1) S2 ∧ S2.1 103 25 = iI (digS t n f q c v).2.2 ∧ Fr P25 S S2 := by
  intro f
  induction f with
  | zero =>
    intro N q c v S hc hN hq h25 hT
    obtain ⟨N, rfl⟩ : ∃ k, N = k + 1 := ⟨N - 1, by omega⟩
    refine ⟨S, ?_, h25, Fr.rf⟩
    have e : digS t n 0 q c v = (c, v, q) := rfl
    rw [e]
    dsimp only
    have hb := M_byteAt (q := q) hT (by omega)
    have hx : (if q < n then t q else 0) < 256 := by
      by_cases hqn : q < n
      · rw [if_pos hqn]; exact hT.2.1 q hqn
      · rw [if_neg hqn]; omega
    have hw := in_iI (z := ((if q < n then t q else 0 : Nat) : Int)) (a := 48) (b := 57) (S := S) (by omega) (by omega) (by omega)
    have hw' : f_X10_in (Int32.toInt64 (iI ((if q < n then t q else 0 : Nat) : Int))) 48 57 S = some (bI (decide ((48 : Int) ≤ ((if q < n then t q else 0 : Nat) : Int) ∧ ((if q < n then t q else 0 : Nat) : Int) ≤ 57)), S) := hw
    rw [f_X10_figures_L12, h25, bd_ok hb, bd_ok hw', show (4 : Int32) = iI 4 from rfl]
    cases hb2 : decide ((48 : Int) ≤ ((if q < n then t q else 0 : Nat) : Int) ∧ ((if q < n then t q else 0 : Nat) : Int) ≤ 57)
    · rw [if_pos (by decide)]
    · rw [if_neg (by decide), if_pos (by rw [iI_le (by omega) (by omega)]; omega)]
  | succ f ih =>
    intro N q c v S hc hN hq h25 hT
    obtain ⟨N, rfl⟩ : ∃ k, N = k + 1 := ⟨N - 1, by omega⟩
    have hb := M_byteAt (q := q) hT (by omega)
    have hx : (if q < n then t q else 0) < 256 := by
      by_cases hqn : q < n
      · rw [if_pos hqn]; exact hT.2.1 q hqn
      · rw [if_neg hqn]; omega
    have hw := in_iI (z := ((if q < n then t q else 0 : Nat) : Int)) (a := 48) (b := 57) (S := S) (by omega) (by omega) (by omega)
    have hw' : f_X10_in (Int32.toInt64 (iI ((if q < n then t q else 0 : Nat) : Int))) 48 57 S = some (bI (decide ((48 : Int) ≤ ((if q < n then t q else 0 : Nat) : Int) ∧ ((if q < n then t q else 0 : Nat) : Int) ≤ 57)), S) := hw
    by_cases hd : q < n ∧ 48 ≤ t q ∧ t q ≤ 57
    · have e : digS t n (f + 1) q c v = digS t n f (q + 1) (c + 1) (10 * v + t q - 48) := by
        show (if q < n ∧ 48 ≤ t q ∧ t q ≤ 57 then _ else _) = _
        rw [if_pos hd]
      have hw25 : P25 103 25 := ⟨rfl, rfl⟩
      have f1 : Fr P25 S (pI S 103 25 (iI (q + 1 : Nat))) := Fr.pI hw25
      obtain ⟨S2, y1, y2, y3⟩ := ih N (q + 1) (c + 1) (10 * v + t q - 48) (pI S 103 25 (iI (q + 1 : Nat))) (by omega) (by omega) (by omega) (by rw [pI_1, if_pos ⟨rfl, rfl⟩]) (TM_fr hT (f1.wk (fun _ _ => P25_rd)))
      rw [e]
      refine ⟨S2, ?_, y2, f1.tr y3⟩
      have ev : (10 : Int32) * iI v + iI (t q) - (48 : Int32) = iI (10 * v + t q - 48 : Nat) := by
        rw [show (10 : Int32) = iI 10 from rfl, show (48 : Int32) = iI 48 from rfl, iI_mul, iI_add, iI_sub]; congr 1; omega
      rw [f_X10_figures_L12, h25, bd_ok hb, bd_ok hw', show (4 : Int32) = iI 4 from rfl, if_pos hd.1, decide_eq_true (by omega), if_neg (by decide), if_neg (by rw [iI_le (by omega) (by omega)]; omega)]
      rw [if_pos hd.1] at hb
      rw [h25, bd_ok hb, sq_k, h25, sq_k, show iI q + (1 : Int32) = iI (q + 1 : Nat) from iI_add q 1, show iI c + (1 : Int32) = iI (c + 1 : Nat) from iI_add c 1, ev]
      exact y1
    · have e : digS t n (f + 1) q c v = (c, v, q) := by
        show (if q < n ∧ 48 ≤ t q ∧ t q ≤ 57 then _ else _) = _
        rw [if_neg hd]
      rw [e]
      refine ⟨S, ?_, h25, Fr.rf⟩
      rw [f_X10_figures_L12, h25, bd_ok hb, bd_ok hw', decide_eq_false (by
        by_cases hqn : q < n
        · rw [if_pos hqn]; omega
        · rw [if_neg hqn]; omega), if_pos (by decide)]
def P119 (a k : Nat) : Prop := (a = 103 ∧ k = 25) ∨ a = 120
theorem P119_rd {a k : Nat} (h : P119 a k) : PRd a k := by unfold P119 at h; unfold PRd; omega
theorem M_numbers {t : Nat → Nat} {n many : Nat} (hm : many ≤ 5) : ∀ (r N q : Nat) (vs : Nat → Nat) (S : St), r ≤ many → r < N → q ≤ n → S.1 103 25 = iI q → TM S t n → (∀ j, j < many - r → S.1 120 j = iI (vs j)) →
    ∃ (S2 : St) (b : Bool), f_X10_figures_L2 N 103 (iI many) (iI (many - r : Nat)) S = some (bI b, S2) ∧ Fr P119 S S2 ∧ (figS t n many r q vs = none → b = false) ∧ ∀ q2 vs2, figS t n many r q vs = some (q2, vs2) → b = true ∧ S2.1 103 25 = iI q2 ∧ ∀ j, j < many → S2.1 120 j = iI (vs2 j) := by
  intro r
  induction r with
  | zero =>
    intro N q vs S hr hN hq h25 hT hv
    obtain ⟨N, rfl⟩ : ∃ k, N = k + 1 := ⟨N - 1, by omega⟩
    refine ⟨S, true, ?_, Fr.rf, fun h => absurd h (by unfold figS; simp), fun q2 vs2 h => ?_⟩
    · rw [f_X10_figures_L2, if_pos (by rw [iI_le (by omega) (by omega)]; omega)]; rfl
    · have e : (q, vs) = (q2, vs2) := Option.some.inj h
      have e1 : q = q2 := congrArg Prod.fst e
      have e2 : vs = vs2 := congrArg Prod.snd e
      refine ⟨rfl, by rw [← e1]; exact h25, fun j hj => by rw [← e2]; exact hv j (by omega)⟩
  | succ r ih =>
    intro N q vs S hr hN hq h25 hT hv
    obtain ⟨N, rfl⟩ : ∃ k, N = k + 1 := ⟨N - 1, by omega⟩
    have h300 := hT.1
    obtain ⟨d1, d2, d3, d4, d5⟩ := dg_bd t n q
    obtain ⟨S1, z1, z2, z3⟩ := M_number (t := t) (n := n) (fun l2 S => f_X10_figures_L2 N 103 (iI many) l2 S) (iI many) (iI (many - (r + 1) : Nat)) 4 FU q 0 0 S (by omega) (by unfold FU; omega) (by omega) h25 hT
    have z2' : S1.1 103 25 = iI (dg t n q).2.2 := z2
    have z1' : f_X10_figures_L12 FU 103 (iI many) (fun l2 S => f_X10_figures_L2 N 103 (iI many) l2 S) (iI (many - (r + 1) : Nat)) 0 0 S = f_X10_figures_J73 103 (iI many) (fun l2 S => f_X10_figures_L2 N 103 (iI many) l2 S) (iI (many - (r + 1) : Nat)) (iI (dg t n q).1) (iI (dg t n q).2.1) S1 := z1
    have hf : figS t n many (r + 1) q vs = if 1 ≤ (dg t n q).1 ∧ (dg t n q).1 ≤ 3 ∧ (dg t n q).2.2 < n ∧ t (dg t n q).2.2 = (if r = 0 then 59 else 44) then figS t n many r ((dg t n q).2.2 + 1) (fun j => if j = many - (r + 1) then (dg t n q).2.1 else vs j) else none := rfl
    rw [hf]
    generalize dg t n q = d at *
    have f1 : Fr P119 S S1 := z3.wk (fun a k h => Or.inl h)
    have hT1 : TM S1 t n := TM_fr hT (f1.wk (fun _ _ => P119_rd))
    have hw := in_iI (z := (d.1 : Int)) (a := 1) (b := 3) (S := S1) (by omega) (by omega) (by omega)
    have hw' : f_X10_in (Int32.toInt64 (iI d.1)) 1 3 S1 = some (bI (decide ((1 : Int) ≤ (d.1 : Int) ∧ (d.1 : Int) ≤ 3)), S1) := hw
    have hb := M_byteAt (q := d.2.2) hT1 (by omega)
    have pre : ∀ R : Option (Int32 × St), (if bI (decide ((1 : Int) ≤ (d.1 : Int) ∧ (d.1 : Int) ≤ 3)) = 0 then some ((0 : Int32), S1) else f_X10_figures_J107 103 (iI many) (fun l2 S => f_X10_figures_L2 N 103 (iI many) l2 S) (iI (many - (r + 1) : Nat)) (iI d.2.1) (iI (if d.2.2 < n then t d.2.2 else 0 : Nat)) (iI (if r = 0 then 59 else 44 : Nat)) S1) = R → f_X10_figures_L2 (N + 1) 103 (iI many) (iI (many - (r + 1) : Nat)) S = R := by
      intro R hR
      rw [f_X10_figures_L2, if_neg (by rw [iI_le (by omega) (by omega)]; omega), z1']
      unfold f_X10_figures_J73
      rw [bd_ok hw', z2', bd_ok hb, show (1 : Int32) = iI 1 from rfl, iI_sub]
      by_cases hr0 : r = 0
      · rw [if_pos hr0] at hR
        rw [if_pos (show iI ((many : Int) - 1) ≤ iI (many - (r + 1) : Nat) by rw [iI_le (by omega) (by omega)]; omega)]
        exact hR
      · rw [if_neg hr0] at hR
        rw [if_neg (show ¬ iI ((many : Int) - 1) ≤ iI (many - (r + 1) : Nat) by rw [iI_le (by omega) (by omega)]; omega)]
        exact hR
    by_cases hc : 1 ≤ d.1 ∧ d.1 ≤ 3
    · by_cases hs : d.2.2 < n ∧ t d.2.2 = (if r = 0 then 59 else 44)
      · rw [if_pos ⟨hc.1, hc.2, hs⟩]
        have hw119 : P119 120 (many - (r + 1)) := Or.inr rfl
        have hw25 : P119 103 25 := Or.inl ⟨rfl, rfl⟩
        obtain ⟨S4, hS4⟩ : ∃ S4, S4 = pI (pI S1 120 (many - (r + 1)) (iI d.2.1)) 103 25 (iI (d.2.2 + 1 : Nat)) := ⟨_, rfl⟩
        have f4 : Fr P119 S S4 := by rw [hS4]; exact (f1.tr (Fr.pI hw119)).tr (Fr.pI hw25)
        obtain ⟨S2, b, y1, y2, y3, y4⟩ := ih N (d.2.2 + 1) (fun j => if j = many - (r + 1) then d.2.1 else vs j) S4 (by omega) (by omega) (by omega) (by rw [hS4, pI_1, if_pos ⟨rfl, rfl⟩]) (TM_fr hT (f4.wk (fun _ _ => P119_rd))) (fun j hj => by
          rw [hS4, pI_row (by omega), pI_1]
          by_cases hj2 : j = many - (r + 1)
          · rw [if_pos ⟨rfl, hj2⟩, if_pos hj2]
          · rw [if_neg (fun z => hj2 z.2), if_neg hj2, z3.1 120 j (by unfold P25; omega)]; exact hv j (by omega))
        refine ⟨S2, b, pre _ ?_, f4.tr y2, y3, y4⟩
        rw [decide_eq_true (by omega), if_neg (by decide)]
        unfold f_X10_figures_J107
        rw [if_pos hs.1, if_pos (by rw [hs.2]), ob_iI (by omega), iI_nat (by omega)]
        dsimp only [Nat.reduceAdd]
        rw [sq_k, pI_row (by omega), z2', sq_k, show iI d.2.2 + (1 : Int32) = iI (d.2.2 + 1 : Nat) from iI_add _ 1, ← hS4, show iI (many - (r + 1) : Nat) + (1 : Int32) = iI (many - r : Nat) by rw [show many - r = many - (r + 1) + 1 by omega]; exact iI_add _ 1]
        exact y1
      · rw [if_neg (fun z => hs z.2.2)]
        refine ⟨S1, false, pre _ ?_, f1, fun _ => rfl, fun q2 vs2 h => absurd h (by simp)⟩
        rw [decide_eq_true (by omega), if_neg (by decide)]
        unfold f_X10_figures_J107
        by_cases hn : d.2.2 < n
        · have := hT.2.1 _ hn
          rw [if_pos hn, if_neg (by
            rw [iI_eq (by omega) (by by_cases hr0 : r = 0 <;> simp [hr0])]
            intro z
            exact hs ⟨hn, by omega⟩)]
          rfl
        · rw [if_neg hn, if_neg (by
            rw [iI_eq (by omega) (by by_cases hr0 : r = 0 <;> simp [hr0])]
            by_cases hr0 : r = 0
            · rw [if_pos hr0]; omega
            · rw [if_neg hr0]; omega)]
          rfl
    · rw [if_neg (fun z => hc ⟨z.1, z.2.1⟩)]
      refine ⟨S1, false, pre _ ?_, f1, fun _ => rfl, fun q2 vs2 h => absurd h (by simp)⟩
      rw [decide_eq_false (by omega), if_pos (by decide)]
      rfl
