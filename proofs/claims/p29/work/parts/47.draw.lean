/-! evenings by draws -/
def drawD (t i : Nat) : Nat := (7919 * t + 6151 * i + 1) * (7919 * t + 6151 * i + 1) % 65521 % 10
def pickS (B : Bd) (s d : Nat) : Nat → Nat → Nat → Nat
  | 0, _, _ => 0
  | m + 1, k, acc => if d < acc + B 6 (3 * s + k) then B 5 (3 * s + k) else pickS B s d m (k + 1) (acc + B 6 (3 * s + k))
def drawW (B : Bd) (L t p : Nat) : Nat := pickS B (soL B L p) (drawD t (atL B L p)) (B 4 (soL B L p)) 0 0
theorem sq_num {n : Nat} (h : n ≤ 100000000) : Int64.toInt32 (((lI n * lI n) - (lI n * lI n) / (65521 : Int64) * (65521 : Int64)) - ((lI n * lI n) - (lI n * lI n) / (65521 : Int64) * (65521 : Int64)) / (10 : Int64) * (10 : Int64)) = iI (n * n % 65521 % 10 : Nat) := by
  have hm : n * n ≤ 100000000 * 100000000 := Nat.mul_le_mul h h
  have e : lI n * lI n = lI (n * n : Nat) := by rw [lI_mul]; congr 1
  rw [e, show (65521 : Int64) = lI 65521 from rfl, show (10 : Int64) = lI 10 from rfl]
  generalize n * n = q at *
  rw [lI_rem (by omega) (by omega), lI_rem (by omega) (by omega), lI_i]
  congr 1
theorem draw_num {t i : Nat} (ht : t ≤ 9999) (hi : i < 8) : (((7919 : Int64) * (Int32.toInt64 (iI t))) + ((6151 : Int64) * (Int32.toInt64 (iI i)))) + (1 : Int64) = lI (7919 * t + 6151 * i + 1 : Nat) := by
  rw [iI_l (by omega), iI_l (by omega), show (7919 : Int64) = lI 7919 from rfl, show (6151 : Int64) = lI 6151 from rfl, show (1 : Int64) = lI 1 from rfl, lI_mul, lI_mul, lI_add, lI_add]
  congr 1
theorem dn {t i : Nat} (h : 7919 * t + 6151 * i + 1 ≤ 100000000) : Int64.toInt32 (((lI (7919 * t + 6151 * i + 1 : Nat) * lI (7919 * t + 6151 * i + 1 : Nat)) - (lI (7919 * t + 6151 * i + 1 : Nat) * lI (7919 * t + 6151 * i + 1 : Nat)) / (65521 : Int64) * (65521 : Int64)) - ((lI (7919 * t + 6151 * i + 1 : Nat) * lI (7919 * t + 6151 * i + 1 : Nat)) - (lI (7919 * t + 6151 * i + 1 : Nat) * lI (7919 * t + 6151 * i + 1 : Nat)) / (65521 : Int64) * (65521 : Int64)) / (10 : Int64) * (10 : Int64)) = iI (drawD t i) := by
  unfold drawD; exact sq_num h
theorem drawD_lt (t i : Nat) : drawD t i < 10 := Nat.mod_lt _ (by omega)
theorem pickS_le {B : Bd} {s d : Nat} (h : ∀ k, k < B 4 s → B 5 (3 * s + k) ≤ 30) : ∀ (m k acc : Nat), k + m = B 4 s → pickS B s d m k acc ≤ 30
  | 0, _, _, _ => Nat.zero_le _
  | m + 1, k, acc, hk => by
    unfold pickS
    by_cases hc : d < acc + B 6 (3 * s + k)
    · rw [if_pos hc]; exact h k (by omega)
    · rw [if_neg hc]; exact pickS_le h m (k + 1) _ (by omega)
theorem drawW_le {B : Bd} {L t p : Nat} (hV : VB B) (hL : L ≤ 30) (hp : p < cntL B L) : drawW B L t p ≤ 30 := by
  obtain ⟨f1, f2, f3, f4, f5, f6, f7, f8, f9, f10, f11⟩ := at_facts hV hL hp
  exact pickS_le (fun k hk => (f11 k hk).1) _ _ _ (by omega)
theorem E_worthBy {S : St} {B : Bd} {L c p d : Nat} (hV : VB B) (hL : L ≤ 30) (hC : CE S c B L) (hp : p < cntL B L) (hd : d < 10) :
    f_X0_worthBy c (iI p) (iI d) S = some (iI (pickS B (soL B L p) d (B 4 (soL B L p)) 0 0), S) := by
  obtain ⟨f1, f2, f3, f4, f5, f6, f7, f8, f9, f10, f11⟩ := at_facts hV hL hp
  have hng : B 9 1 ≤ 8 := hV.2.1.2.2.2
  obtain ⟨x1, x2, x3, x4, x5, x6, x7, x8⟩ := hC.2 p hp
  have key : ∀ (m N k acc : Nat), k + m = B 4 (soL B L p) → m < N → acc ≤ 1000 + 100 * k → f_X0_worthBy_L19 N c (iI p) (iI d) (iI acc) (iI k) S = some (iI (pickS B (soL B L p) d m k acc), S) := by
    intro m
    induction m with
    | zero =>
      intro N k acc hk hN ha
      obtain ⟨N, rfl⟩ : ∃ k, N = k + 1 := ⟨N - 1, by omega⟩
      rw [f_X0_worthBy_L19, ob_iI (by omega), iI_nat (by omega), x7, if_pos (by rw [iI_le (by omega) (by omega)]; omega)]; rfl
    | succ m ih =>
      intro N k acc hk hN ha
      obtain ⟨N, rfl⟩ : ∃ k, N = k + 1 := ⟨N - 1, by omega⟩
      have h6 := (f11 k (by omega)).2.2
      have e1 : (iI p * (3 : Int32)) + iI k = iI (3 * p + k : Nat) := by
        rw [show (3 : Int32) = iI 3 from rfl, iI_mul, iI_add]; congr 1; omega
      rw [f_X0_worthBy_L19, ob_iI (by omega), iI_nat (by omega), x7, if_neg (by rw [iI_le (by omega) (by omega)]; omega), e1, ob_iI (by omega), iI_nat (by omega), (x8 k (by omega)).2, (x8 k (by omega)).1]
      dsimp only [sq]
      rw [show iI acc + iI (B 6 (3 * soL B L p + k)) = iI (acc + B 6 (3 * soL B L p + k) : Nat) from iI_add _ _, ob_iI (by omega), show iI k + (1 : Int32) = iI (k + 1 : Nat) from iI_add k 1]
      unfold pickS
      by_cases hc : d < acc + B 6 (3 * soL B L p + k)
      · rw [if_neg (by rw [iI_le (by omega) (by omega)]; omega), if_pos hc]
      · rw [if_pos (by rw [iI_le (by omega) (by omega)]; omega), if_neg hc]
        exact ih N (k + 1) _ (by omega) (by omega) (by omega)
  unfold f_X0_worthBy
  rw [if_neg (by rw [show (0 : Int32) = iI 0 from rfl, iI_lt (by omega) (by omega)]; omega), hC.1, if_pos (by rw [iI_lt (by omega) (by omega)]; omega)]
  exact key _ FU 0 0 (by omega) (by unfold FU; omega) (by omega)
theorem E_drawn {S : St} {B : Bd} {L t p : Nat} (hV : VB B) (hL : L ≤ 30) (hC : CE S 25 B L) (hp : p < cntL B L) (ht : t ≤ 9999) : f_X9_drawnWorth 0 (iI t) (iI p) S = some (iI (drawW B L t p), S) := by
  obtain ⟨f1, f2, f3, f4, f5, f6, f7, f8, f9, f10, f11⟩ := at_facts hV hL hp
  have hng : B 9 1 ≤ 8 := hV.2.1.2.2.2
  obtain ⟨x1, x2, x3, x4, x5, x6, x7, x8⟩ := hC.2 p hp
  unfold f_X9_drawnWorth
  rw [ob_iI (by omega), iI_nat (by omega)]
  dsimp only [sq, Nat.reduceAdd]
  rw [x1, draw_num ht (by omega), dn (by omega)]
  rw [bd_ok (E_worthBy (d := drawD t (atL B L p)) hV hL hC hp (drawD_lt _ _))]
  rfl
/-- the class's evening, played to the end -/
theorem E_evLoop {B : Bd} {L P sh bar e t : Nat} (hV : VB B) (hL : L ≤ 30) (hP : P = 5 ∨ P = 15) (hsh : sh ≤ 2) (hbar : bar ≤ 60) (he : e ≤ 9) (ht : t ≤ 9999) : ∀ (m N p : Nat) (S : St), p + m = cntL B L → m < N → GA S B L 25 P sh bar e 0 (-1) → GP S B L bar e sh 0 0 (drawW B L t) p →
    ∃ S2 : St, f_X9_playEvening_L6 N 0 (iI t) (iI p) S = some ((), S2) ∧ GP S2 B L bar e sh 0 0 (drawW B L t) (cntL B L) ∧ Fr PPly S S2 := by
  intro m
  have hng : B 9 1 ≤ 8 := hV.2.1.2.2.2
  have hcl := cntL_le B L
  induction m with
  | zero =>
    intro N p S hp hN hG hGP
    obtain ⟨N, rfl⟩ : ∃ k, N = k + 1 := ⟨N - 1, by omega⟩
    have : p = cntL B L := by omega
    subst this
    refine ⟨S, ?_, hGP, Fr.rf⟩
    rw [f_X9_playEvening_L6]
    dsimp only [Nat.reduceAdd]
    rw [hG.2.2.1, if_pos (by rw [iI_le (by omega) (by omega)]; omega)]
  | succ m ih =>
    intro N p S hp hN hG hGP
    obtain ⟨N, rfl⟩ : ∃ k, N = k + 1 := ⟨N - 1, by omega⟩
    have hw := drawW_le (t := t) hV hL (show p < cntL B L by omega)
    obtain ⟨S1, e1, e2, e3⟩ := E_play (R := 0) (rq := 0) (rb := -1) hV hL (Or.inl rfl) hP hG.1 hG.2.1 hG.2.2 hsh hbar he (by omega) (by omega) (by omega) (show p < cntL B L by omega) (by omega) hGP
    obtain ⟨S2, e4, e5, e6⟩ := ih N (p + 1) S1 (by omega) (by omega) (GA_fr (Or.inl rfl) hP hG e3 ply_68) e2
    refine ⟨S2, ?_, e5, e3.tr e6⟩
    rw [f_X9_playEvening_L6]
    dsimp only [Nat.reduceAdd]
    rw [hG.2.2.1, if_neg (by rw [iI_le (by omega) (by omega)]; omega), bd_ok (E_drawn hV hL hG.2.2 (by omega) ht), bd_ok e1]
    rw [show iI p + (1 : Int32) = iI (p + 1 : Nat) from iI_add p 1]
    exact e4
theorem ply_PEs (a k : Nat) (h : PPly a k) : PEs a k := by unfold PPly at h; unfold PEs; omega
theorem PEs_PE (a k : Nat) (h : PEs a k) : PE a k := by unfold PEs at h; unfold PE; omega
theorem P47_PE (a k : Nat) (h : P47 a k) : PE a k := by unfold P47 at h; unfold PE; omega
theorem E_evening {S : St} {T : Tst} {t : Nat} (hV : VT T) (hE : IE S T) (ht : t ≤ 9999) : ∃ (P : Nat) (S2 : St), (P = 5 ∨ P = 15) ∧ f_X9_playEvening 0 (iI t) S = some ((), S2) ∧ GA S2 (tB T) (tB T 0 2) 25 P (tS T) (tB T 0 0) (tB T 0 5) 0 (-1) ∧ GP S2 (tB T) (tB T 0 2) (tB T 0 0) (tB T 0 5) (tS T) 0 0 (drawW (tB T) (tB T 0 2) t) (cntL (tB T) (tB T 0 2)) ∧ IE S2 T ∧ Fr PE S S2 := by
  obtain ⟨P, S1, p1, e1, e2, e3, e4, e5, e6, e7⟩ := E_setGame hE
  have hVB := VT_B hV
  have hng : tB T 9 1 ≤ 8 := hVB.2.1.2.2.2
  have hcl := cntL_le (tB T) (tB T 0 2)
  obtain ⟨S2, q1, q2, q3⟩ := E_evLoop (t := t) hVB (VT_L hV) p1 hV.2.2.2.2.1 hVB.1.2.1 hVB.1.2.2.2.2.2.2.1 ht (cntL (tB T) (tB T 0 2)) FU 0 S1 (by omega) (by unfold FU; omega) ⟨e2, e3, e4⟩ (GP_0 e5 _ _ _ _ _ _ _ _)
  refine ⟨P, S2, p1, ?_, GA_fr (Or.inl rfl) p1 ⟨e2, e3, e4⟩ q3 ply_68, q2, IE_scr e6 (q3.wk ply_PEs) (ZE_ply e5 q3), (e7.wk P47_PE).tr ((q3.wk ply_PEs).wk PEs_PE)⟩
  unfold f_X9_playEvening
  rw [bd_ok e1]
  exact q1
/-- the reference's evening -/
theorem M_pick {B : Bd} {s d i l2 : Nat} (hV : VB B) (hs : s < B 9 0) (hd : d < 10) (hi : i < 8) (a1 : Int32) (kb : Int32 → St → Option (Unit × St)) {S : St} (hB : BM S B) : ∀ (m N k : Nat), k + m + 1 = B 4 s → m < N →
    f_X10_goEvening_L77 N 103 a1 kb (iI l2) (iI i) (iI d) (iI (3 * s + k : Nat)) (iI (natTo (fun k => B 6 (3 * s + k)) (k + 1))) S = kb (iI (l2 + 1 : Nat)) (pI S 122 i (iI (pickS B s d (m + 1) k (natTo (fun k => B 6 (3 * s + k)) k)))) := by
  obtain ⟨v1, v2, v3, v4, v5, v6, v7⟩ := hV.2.2.1 s hs
  have hs6 : B 9 0 ≤ 6 := hV.2.1.2.1
  obtain ⟨b1, b2, b3, b4, b5⟩ := hB.2.2.2.1 s hs
  have hsum : ∀ k, k ≤ B 4 s → natTo (fun k => B 6 (3 * s + k)) k ≤ 100 * k := by
    intro k
    induction k with
    | zero => intro _; exact Nat.le_refl _
    | succ k ih => intro h; have := ih (by omega); have := (v7 k (by omega)).2.2; show natTo (fun k => B 6 (3 * s + k)) k + B 6 (3 * s + k) ≤ 100 * (k + 1); omega
  intro m
  induction m with
  | zero =>
    intro N k hk hN
    obtain ⟨N, rfl⟩ : ∃ k, N = k + 1 := ⟨N - 1, by omega⟩
    have hk1 : k + 1 = B 4 s := by omega
    have hh : natTo (fun k => B 6 (3 * s + k)) (k + 1) = 10 := by rw [hk1]; exact v6
    have h2 : natTo (fun k => B 6 (3 * s + k)) k + B 6 (3 * s + k) = 10 := hh
    rw [f_X10_goEvening_L77, hh, if_pos (by rw [iI_lt (by omega) (by omega)]; omega), ob_iI (by omega), ob_iI (by omega), iI_nat (by omega), iI_nat (by omega)]
    dsimp only [sq, Nat.reduceAdd]
    rw [(b5 k (by omega)).1, show iI l2 + (1 : Int32) = iI (l2 + 1 : Nat) from iI_add l2 1]
    unfold pickS
    rw [if_pos (by omega)]
  | succ m ih =>
    intro N k hk hN
    obtain ⟨N, rfl⟩ : ∃ k, N = k + 1 := ⟨N - 1, by omega⟩
    have hb := hsum (k + 1) (by omega)
    have h2 : natTo (fun k => B 6 (3 * s + k)) (k + 1) = natTo (fun k => B 6 (3 * s + k)) k + B 6 (3 * s + k) := rfl
    rw [f_X10_goEvening_L77]
    rw [show pickS B s d (m + 1 + 1) k (natTo (fun k => B 6 (3 * s + k)) k) = if d < natTo (fun k => B 6 (3 * s + k)) k + B 6 (3 * s + k) then B 5 (3 * s + k) else pickS B s d (m + 1) (k + 1) (natTo (fun k => B 6 (3 * s + k)) k + B 6 (3 * s + k)) from rfl, ← h2]
    by_cases hc : d < natTo (fun k => B 6 (3 * s + k)) (k + 1)
    · rw [if_pos (by rw [iI_lt (by omega) (by omega)]; omega), if_pos hc, ob_iI (by omega), ob_iI (by omega), iI_nat (by omega), iI_nat (by omega)]
      dsimp only [sq, Nat.reduceAdd]
      rw [(b5 k (by omega)).1, show iI l2 + (1 : Int32) = iI (l2 + 1 : Nat) from iI_add l2 1]
    · rw [if_neg (by rw [iI_lt (by omega) (by omega)]; omega), if_neg hc, show iI (3 * s + k : Nat) + (1 : Int32) = iI (3 * s + (k + 1) : Nat) from iI_add _ 1, ob_iI (by omega), iI_nat (by omega)]
      dsimp only [sq, Nat.reduceAdd]
      rw [(b5 (k + 1) (by omega)).2, iI_add]
      exact ih N (k + 1) (by omega) (by omega)
def P121 (a _ : Nat) : Prop := a = 122
theorem MG_121 {S S2 : St} {B : Bd} {L bar e sh R : Nat} {D : Int} (h : MG S B L bar e sh R D) (hf : Fr P121 S S2) : MG S2 B L bar e sh R D := MG_fr h (fun a k h1 h2 => hf.1 a k (by unfold P121; omega))
set_option maxRecDepth 100000 in
theorem M_evLoop {B : Bd} {L sh bar e t : Nat} (hV : VB B) (hL : L ≤ 30) (hsh : sh ≤ 2) (hbar : bar ≤ 60) (he : e ≤ 9) (ht : t ≤ 9999) : ∀ (m N p : Nat) (S : St), p + m = cntL B L → m < N → MG S B L bar e sh 0 (-4) → (∀ q, q < p → S.1 122 (atL B L q) = iI (drawW B L t q)) →
    ∃ S2 : St, f_X10_goEvening_L10 N 103 (iI t) (iI p) S = some ((), S2) ∧ MG S2 B L bar e sh 0 (-4) ∧ MP S2 B L bar e sh 0 0 (drawW B L t) (cntL B L) ∧ S2.1 103 32 = iI (endS B L bar e sh 0 0 (drawW B L t)).1 ∧ Fr PScr S S2 := by
  intro m
  have hng : B 9 1 ≤ 8 := hV.2.1.2.2.2
  have hcl := cntL_le B L
  induction m with
  | zero =>
    intro N p S hp hN hG hq
    obtain ⟨N, rfl⟩ : ∃ k, N = k + 1 := ⟨N - 1, by omega⟩
    have : p = cntL B L := by omega
    subst this
    obtain ⟨S2, e1, e2, e3, e4⟩ := M_goAll (R := 0) (D := -4) (rq := 0) (w := drawW B L t) hV hL hsh hbar he (by omega) (Or.inl ⟨by omega, by omega, rfl⟩) (fun p hp => by have := drawW_le (t := t) hV hL hp; omega) hG hq
    refine ⟨S2, ?_, MG_go hG e2, e3, e4, e2.wk (fun a k h => by unfold PGo at h; unfold PScr; omega)⟩
    have ho : S.1 103 27 = iI (cntL B L) := hG.2.1.1
    rw [f_X10_goEvening_L10, ho, if_pos (by rw [iI_le (by omega) (by omega)]; omega), bd_ok e1]
  | succ m ih =>
    intro N p S hp hN hG hq
    obtain ⟨N, rfl⟩ : ∃ k, N = k + 1 := ⟨N - 1, by omega⟩
    obtain ⟨f1, f2, f3, f4, f5, f6, f7, f8, f9, f10, f11⟩ := at_facts hV hL (show p < cntL B L by omega)
    have ho : S.1 103 27 = iI (cntL B L) := hG.2.1.1
    have hok : S.1 121 p = iI (atL B L p) := hG.2.1.2 p (show p < cntL B L by omega)
    have hsk : S.1 116 (atL B L p) = iI (soL B L p) := (hG.1.2.2.2.2 _ f1).1
    have h6 := ((hG.1.2.2.2.1 _ f4).2.2.2.2 0 (by omega)).2
    have hd := drawD_lt t (atL B L p)
    have hf : Fr P121 S (pI S 122 (atL B L p) (iI (drawW B L t p))) := Fr.pI rfl
    obtain ⟨S2, e1, e2, e3, e4, e5⟩ := ih N (p + 1) (pI S 122 (atL B L p) (iI (drawW B L t p))) (by omega) (by omega) (MG_121 hG hf) (fun q hqp => by
      rw [pI_1]
      by_cases hc : q = p
      · subst hc; rw [if_pos ⟨rfl, rfl⟩]
      · rw [if_neg (fun z => hc (atL_inj (by omega) (by omega) z.2))]; exact hq q (by omega))
    refine ⟨S2, ?_, e2, e3, e4, (hf.wk (fun a k h => by unfold P121 at h; unfold PScr; omega)).tr e5⟩
    rw [f_X10_goEvening_L10, ho, if_neg (by rw [iI_le (by omega) (by omega)]; omega), ob_iI (by omega), iI_nat (by omega)]
    dsimp only [sq, Nat.reduceAdd]
    rw [hok, draw_num ht (by omega), dn (by omega), ob_iI (by omega), iI_nat (by omega), hsk, show (3 : Int32) * iI (soL B L p) = iI (3 * soL B L p + 0 : Nat) by rw [show (3 : Int32) = iI 3 from rfl, iI_mul, show (3 : Int) * (soL B L p : Int) = ((3 * soL B L p + 0 : Nat) : Int) by omega], ob_iI (by omega), iI_nat (by omega), h6]
    have hp := M_pick (i := atL B L p) (l2 := p) (d := drawD t (atL B L p)) hV f4 hd (by omega) (iI t) (fun l2 S => f_X10_goEvening_L10 N 103 (iI t) l2 S) hG.1 (B 4 (soL B L p) - 1) FU 0 (by omega) (by unfold FU; omega)
    have h1 : natTo (fun k => B 6 (3 * soL B L p + k)) (0 + 1) = B 6 (3 * soL B L p + 0) := Nat.zero_add _
    have hdw : pickS B (soL B L p) (drawD t (atL B L p)) (B 4 (soL B L p)) 0 (natTo (fun k => B 6 (3 * soL B L p + k)) 0) = drawW B L t p := rfl
    rw [h1, show B 4 (soL B L p) - 1 + 1 = B 4 (soL B L p) by omega, hdw] at hp
    rw [hp]
    exact e1
theorem M_evening {S : St} {T : Tst} {t : Nat} (hV : VT T) (hM : IM S T) (ht : t ≤ 9999) : ∃ S2 : St, f_X10_goEvening 103 (iI t) S = some ((), S2) ∧ MG S2 (tB T) (tB T 0 2) (tB T 0 0) (tB T 0 5) (tS T) 0 (-4) ∧ MP S2 (tB T) (tB T 0 2) (tB T 0 0) (tB T 0 5) (tS T) 0 0 (drawW (tB T) (tB T 0 2) t) (cntL (tB T) (tB T 0 2)) ∧ S2.1 103 32 = iI (endS (tB T) (tB T 0 2) (tB T 0 0) (tB T 0 5) (tS T) 0 0 (drawW (tB T) (tB T 0 2) t)).1 ∧ Fr PScr S S2 := by
  obtain ⟨S1, S2, e1, e2, e3, e4, e5, e6⟩ := M_start hV hM
  have hVB := VT_B hV
  have hng : tB T 9 1 ≤ 8 := hVB.2.1.2.2.2
  have hcl := cntL_le (tB T) (tB T 0 2)
  obtain ⟨q1, q2, q3, q4, q5, q6⟩ := e4
  obtain ⟨S3, z1, z2, z3, z4, z5⟩ := M_evLoop (t := t) hVB (VT_L hV) hV.2.2.2.2.1 hVB.1.2.1 hVB.1.2.2.2.2.2.2.1 ht (cntL (tB T) (tB T 0 2)) FU 0 S2 (by omega) (by unfold FU; omega) ⟨e3.2.2.1, e5, q1, q2, q3, q4, q5, q6⟩ (fun q h => absurd h (Nat.not_lt_zero _))
  refine ⟨S3, ?_, z2, z3, z4, e6.tr z5⟩
  unfold f_X10_goEvening
  rw [bd_ok e1, bd_ok e2]
  exact z1
