/-! the class's gifts at rest -/
def PRst (a _ : Nat) : Prop := a = 85 ∨ a = 97 ∨ a = 98
def RE (S : St) (B : Bd) (L : Nat) : Prop := S.2.2 85 0 = 25 ∧ S.1 85 1 = iI (B 0 0) ∧ S.1 85 2 = iI (B 0 1) ∧ S.1 85 3 = iI (B 0 4) ∧ CE S 25 B L ∧ ∀ p, p < cntL B L → S.1 97 p = iI (mostG B (atL B L p))
theorem RE_98 {S S2 : St} {B : Bd} {L : Nat} (h : RE S B L) (hf : Fr (fun a _ => a = 98) S S2) : RE S2 B L := by
  obtain ⟨h1, h2, h3, h4, h5, h6⟩ := h
  have r : ∀ a, a ≠ 98 → S2.1 a = S.1 a := fun a ha => funext fun k => hf.1 a k ha
  refine ⟨?_, ?_, ?_, ?_, CE_row h5 (fun j hj => r _ (by omega)), ?_⟩
  · rw [hf.2.2 85 0 (by omega)]; exact h1
  · rw [r 85 (by omega)]; exact h2
  · rw [r 85 (by omega)]; exact h3
  · rw [r 85 (by omega)]; exact h4
  · rw [r 97 (by omega)]; exact h6
theorem mostG_le {B : Bd} {i : Nat} (hV : VB B) (hi : i < B 9 1) : mostG B i ≤ 30 ∧ mostG B i ≤ mostS B (B 7 i) ∧ mostS B (B 7 i) ≤ 30 := by
  have wi := (hV.2.2.2 i hi).1
  have := mostS_le hV wi
  unfold mostG
  omega
theorem E_take {S : St} {B : Bd} {P L : Nat} (hV : VB B) (hL : L ≤ 30) (hP : P = 5 ∨ P = 15) (hB : BE S P B) (hC : CE S 25 B L) : ∃ S2 : St, f_X4_take 85 P 25 S = some ((), S2) ∧ RE S2 B L ∧ Fr PRst S S2 := by
  have hn := cntL_le B L
  have hng : B 9 1 ≤ 8 := hV.2.1.2.2.2
  have h0k : kdE 25 = 0 := kdE_c (Or.inl rfl)
  have key : ∀ (m N p : Nat) (S : St), p + m = cntL B L → m < N → S.2.2 85 0 = 25 → CE S 25 B L → (∀ q, q < p → S.1 97 q = iI (mostG B (atL B L q))) →
      ∃ S2 : St, f_X4_take_L31 N 85 P 25 (iI p) S = some ((), S2) ∧ (∀ q, q < cntL B L → S2.1 97 q = iI (mostG B (atL B L q))) ∧ Fr (fun a _ => a = 97) S S2 := by
    intro m
    induction m with
    | zero =>
      intro N p S hp hN h0 hC hq
      obtain ⟨N, rfl⟩ : ∃ k, N = k + 1 := ⟨N - 1, by omega⟩
      refine ⟨S, ?_, fun q hq2 => hq q (by omega), Fr.rf⟩
      rw [f_X4_take_L31, h0, ck_pos h0k, hC.1, if_pos (by rw [iI_le (by omega) (by omega)]; omega)]
    | succ m ih =>
      intro N p S hp hN h0 hC hq
      obtain ⟨N, rfl⟩ : ∃ k, N = k + 1 := ⟨N - 1, by omega⟩
      have hpc : p < cntL B L := by omega
      obtain ⟨f1, f2, f3, f4, f5, f6, f7, f8, f9, f10, f11⟩ := at_facts hV hL hpc
      obtain ⟨x1, x2, x3, x4, x5, x6, x7, x8⟩ := hC.2 p hpc
      have hm := mostS_le hV f4
      have hw : ∀ k, (fun (a _ : Nat) => a = 97) 97 k := fun _ => rfl
      have f97 : Fr (fun a _ => a = 97) S (pI S 97 p (iI (mostG B (atL B L p)))) := Fr.pI (P := fun a _ => a = 97) (hw p)
      obtain ⟨S2, z1, z2, z3⟩ := ih N (p + 1) (pI S 97 p (iI (mostG B (atL B L p)))) (by omega) (by omega) h0 (CE_row hC (fun j hj => by rw [pI_row (by omega)])) (fun q hq2 => by
        rw [pI_1]
        by_cases h : q = p
        · rw [if_pos ⟨rfl, h⟩, h]
        · rw [if_neg (fun z => h z.2)]; exact hq q (by omega))
      refine ⟨S2, ?_, z2, f97.tr z3⟩
      have hmin : imin (iI (mostS B (soL B L p))) (iI (B 2 (soL B L p))) = iI (mostG B (atL B L p)) := by
        rw [imin_iI (by omega) (by omega)]
        show _ = iI ((min (mostS B (soL B L p)) (B 2 (soL B L p)) : Nat) : Int)
        congr 1; omega
      rw [f_X4_take_L31, h0, ck_pos h0k, hC.1, if_neg (by rw [iI_le (by omega) (by omega)]; omega), ck_pos h0k, ob_iI (by omega), ck_pos h0k, ob_iI (by omega), ob_iI (by omega), iI_nat (by omega), x6, x4, hmin, sq_k, show iI p + (1 : Int32) = iI (p + 1 : Nat) from iI_add p 1]
      exact z1
  obtain ⟨S1, hS1⟩ : ∃ S1, S1 = pI (pI (pI (pR S 85 0 25) 85 1 (iI (B 0 0))) 85 2 (iI (B 0 1))) 85 3 (iI (B 0 4)) := ⟨_, rfl⟩
  have r1 : ∀ a, a ≠ 85 → S1.1 a = S.1 a := fun a ha => by rw [hS1, pI_row ha, pI_row ha, pI_row ha, pR_1]
  have q0 : S1.2.2 85 0 = 25 := by rw [hS1, pI_2, pI_2, pI_2, pR_3, if_pos ⟨rfl, rfl⟩]
  have hw85 : ∀ k, PRst 85 k := fun _ => Or.inl rfl
  have f1 : Fr PRst S S1 := by
    rw [hS1]
    exact (((Fr.pR (hw85 _)).tr (Fr.pI (hw85 _))).tr (Fr.pI (hw85 _))).tr (Fr.pI (hw85 _))
  have hC1 : CE S1 25 B L := CE_row hC (fun j hj => r1 _ (by omega))
  obtain ⟨S2, z1, z2, z3⟩ := key (cntL B L) FU 0 S1 (by omega) (by unfold FU; omega) q0 hC1 (fun q hq => absurd hq (Nat.not_lt_zero _))
  have r2 : ∀ a, a ≠ 97 → S2.1 a = S1.1 a := fun a ha => funext fun k => z3.1 a k ha
  refine ⟨S2, ?_, ⟨?_, ?_, ?_, ?_, CE_row hC1 (fun j hj => r2 _ (by omega)), z2⟩, f1.tr (z3.wk (fun a k h => Or.inr (Or.inl h)))⟩
  · unfold f_X4_take
    have b0 : (pR S 85 0 25).1 P 0 = iI (B 0 0) := hB.1.1
    have b1 : (pI (pR S 85 0 25) 85 1 (iI (B 0 0))).1 P 1 = iI (B 0 1) := by rw [pI_row (by omega), pR_1]; exact hB.1.2.1
    have b4 : (pI (pI (pR S 85 0 25) 85 1 (iI (B 0 0))) 85 2 (iI (B 0 1))).1 P 4 = iI (B 0 4) := by rw [pI_row (by omega), pI_row (by omega), pR_1]; exact hB.1.2.2.2.2.1
    rw [sq_k, sq_k, b0, sq_k, b1, sq_k, b4, ← hS1]
    exact z1
  · rw [z3.2.2 85 0 (by omega)]; exact q0
  · rw [r2 85 (by omega), hS1, pI_1, if_neg (by omega), pI_1, if_neg (by omega), pI_1, if_pos ⟨rfl, rfl⟩]
  · rw [r2 85 (by omega), hS1, pI_1, if_neg (by omega), pI_1, if_pos ⟨rfl, rfl⟩]
  · rw [r2 85 (by omega), hS1, pI_1, if_pos ⟨rfl, rfl⟩]
/-- one row of the table, from s on -/
def gvS (h : Nat → Int) (k lo hi s : Nat) : Int := if 0 < k then sumTo h (s - lo) - sumTo h (s - 1 - hi) else 0
def rwS (V : Nat → Nat → Int) (k lo hi : Nat) (no : Bool) (s : Nat) : Int := (if 0 < k then sumTo (fun x => V x (k - 1)) (s + 1 - lo) - sumTo (fun x => V x (k - 1)) (s - hi) else 0) + (if no = true then V s k else 0)
theorem E_join49 {V : Nat → Nat → Int} {k lo hi SS W : Nat} {no : Bool} (hlo : 1 ≤ lo) (hh : lo ≤ hi + 1) (hhi : hi ≤ 30) (hSS : SS ≤ 60) (hW : W ≤ 8) (hk : k ≤ W) (kb : Int32 → St → Option (Unit × St)) : ∀ (m N s : Nat) (S : St), s + m = SS + 1 → m < N → (∀ x, x ≤ SS → 0 < k → S.2.1 98 (61 * (k - 1) + x) = lI (V x (k - 1))) → (∀ x, s ≤ x → x ≤ SS → S.2.1 98 (61 * k + x) = lI (V x k)) → (∀ x, x < s → S.2.1 98 (61 * k + x) = lI (rwS V k lo hi no x)) →
    ∃ S2 : St, f_X4_join_L49 N 85 (iI lo) (iI hi) (bI no) (iI SS) (iI W) kb (iI k) (iI (61 * k : Nat)) (lI (gvS (fun x => V x (k - 1)) k lo hi s)) (iI s) S = kb (iI ((k : Int) - 1)) S2 ∧ (∀ x, x ≤ SS → S2.2.1 98 (61 * k + x) = lI (rwS V k lo hi no x)) ∧ Fr (fun a q => a = 98 ∧ 61 * k ≤ q ∧ q < 61 * k + 61) S S2 := by
  intro m
  induction m with
  | zero =>
    intro N s S hs hN h1 h2 h3
    obtain ⟨N, rfl⟩ : ∃ k, N = k + 1 := ⟨N - 1, by omega⟩
    refine ⟨S, ?_, fun x hx => h3 x (by omega), Fr.rf⟩
    rw [f_X4_join_L49, if_pos (by rw [iI_lt (by omega) (by omega)]; omega), iI_n1, iI_add]; rfl
  | succ m ih =>
    intro N s S hs hN h1 h2 h3
    obtain ⟨N, rfl⟩ : ∃ k, N = k + 1 := ⟨N - 1, by omega⟩
    have e0 : iI s + (1 : Int32) = iI (s + 1 : Nat) := iI_add s 1
    have hh0 : (fun x => V x (k - 1)) = (fun x => V x (k - 1)) := rfl
    obtain ⟨h, hh1⟩ : ∃ h : Nat → Int, h = fun x => V x (k - 1) := ⟨_, rfl⟩
    have h1' : ∀ x, x ≤ SS → 0 < k → S.2.1 98 (61 * (k - 1) + x) = lI (h x) := by rw [hh1]; exact h1
    have hrw : rwS V k lo hi no s = gvS h k lo hi (s + 1) + (if no = true then V s k else 0) := by
      unfold rwS gvS
      rw [hh1, show s + 1 - 1 - hi = s - hi by omega]
    have x0 : iI (61 * k : Nat) + iI s = iI (61 * k + s : Nat) := iI_add _ _
    -- the write
    have j120 : ∃ S2 : St, f_X4_join_J120 85 (iI lo) (iI hi) (bI no) (iI SS) (iI W) (fun l6 S => kb l6 S) (fun l6 l7 l8 l10 S => f_X4_join_L49 N 85 (iI lo) (iI hi) (bI no) (iI SS) (iI W) kb l6 l7 l8 l10 S) (iI k) (iI (61 * k : Nat)) (lI (gvS h k lo hi (s + 1))) (iI s) S = kb (iI ((k : Int) - 1)) S2 ∧ (∀ x, x ≤ SS → S2.2.1 98 (61 * k + x) = lI (rwS V k lo hi no x)) ∧ Fr (fun a q => a = 98 ∧ 61 * k ≤ q ∧ q < 61 * k + 61) S S2 := by
      have hw : (fun (a q : Nat) => a = 98 ∧ 61 * k ≤ q ∧ q < 61 * k + 61) 98 (61 * k + s) := ⟨rfl, by omega, by omega⟩
      obtain ⟨S3, hS3⟩ : ∃ S3, S3 = pJ S 98 (61 * k + s) (lI (rwS V k lo hi no s)) := ⟨_, rfl⟩
      have f3 : Fr (fun a q => a = 98 ∧ 61 * k ≤ q ∧ q < 61 * k + 61) S S3 := by rw [hS3]; exact Fr.pJ (P := fun a q => a = 98 ∧ 61 * k ≤ q ∧ q < 61 * k + 61) hw
      obtain ⟨S2, z1, z2, z3⟩ := ih N (s + 1) S3 (by omega) (by omega) (fun x hx hk0 => by
          rw [hS3, pJ_2, if_neg (by omega)]; exact h1 x hx hk0) (fun x hx hx2 => by
          rw [hS3, pJ_2, if_neg (by omega)]; exact h2 x (by omega) hx2) (fun x hx => by
          rw [hS3, pJ_2]
          by_cases hc : x = s
          · rw [if_pos ⟨rfl, by omega⟩, hc]
          · rw [if_neg (by omega)]; exact h3 x (by omega))
      rw [← hh1] at z1
      refine ⟨S2, ?_, z2, f3.tr z3⟩
      unfold f_X4_join_J120
      rw [x0, ob_iI (by omega), ob_iI (by omega), iI_nat (by omega), e0]
      dsimp only [Nat.reduceAdd]
      cases no
      · rw [if_pos (by decide), show (0 : Int64) = lI 0 from rfl, lI_add, sq_k]
        have e : gvS h k lo hi (s + 1) + 0 = rwS V k lo hi false s := by rw [hrw]; rfl
        rw [e, ← hS3]
        exact z1
      · rw [if_neg (by decide), ob_iI (by omega), h2 s (Nat.le_refl _) (by omega), lI_add, sq_k]
        have e : gvS h k lo hi (s + 1) + V s k = rwS V k lo hi true s := by rw [hrw]; rfl
        rw [e, ← hS3]
        exact z1
    rw [← hh1]
    obtain ⟨S2, y1, y2, y3⟩ := j120
    refine ⟨S2, ?_, y2, y3⟩
    rw [f_X4_join_L49, if_neg (by rw [iI_lt (by omega) (by omega)]; omega)]
    by_cases hk0 : k = 0
    · subst hk0
      have eg : gvS h 0 lo hi s = gvS h 0 lo hi (s + 1) := rfl
      rw [if_pos (by decide), eg]
      unfold f_X4_join_J87
      rw [if_pos (by decide)]
      exact y1
    have hkp : 0 < k := by omega
    have x1 : lo ≤ s → iI (61 * k : Nat) - (61 : Int32) + iI s - iI lo = iI (61 * (k - 1) + (s - lo) : Nat) := fun q => by
      rw [show (61 : Int32) = iI 61 from rfl, iI_sub, iI_add, iI_sub]; congr 1; omega
    have x2 : hi < s → iI (61 * k : Nat) - (61 : Int32) + iI s - iI hi - (1 : Int32) = iI (61 * (k - 1) + (s - hi - 1) : Nat) := fun q => by
      rw [show (61 : Int32) = iI 61 from rfl, show (1 : Int32) = iI 1 from rfl, iI_sub, iI_add, iI_sub, iI_sub]; congr 1; omega
    -- the second step
    have j87 : f_X4_join_J87 85 (iI lo) (iI hi) (bI no) (iI SS) (iI W) (fun l6 S => kb l6 S) (fun l6 l7 l8 l10 S => f_X4_join_L49 N 85 (iI lo) (iI hi) (bI no) (iI SS) (iI W) kb l6 l7 l8 l10 S) (iI k) (iI (61 * k : Nat)) (lI (sumTo h (s + 1 - lo) - sumTo h (s - 1 - hi))) (iI s) S = kb (iI ((k : Int) - 1)) S2 := by
      unfold f_X4_join_J87
      rw [if_neg (by rw [show (0 : Int32) = iI 0 from rfl, iI_le (by omega) (by omega)]; omega)]
      by_cases hc : s ≤ hi
      · rw [if_pos (by rw [iI_le (by omega) (by omega)]; omega)]
        have e : sumTo h (s + 1 - lo) - sumTo h (s - 1 - hi) = gvS h k lo hi (s + 1) := by
          unfold gvS
          rw [if_pos hkp, show s + 1 - 1 - hi = 0 by omega, show s - 1 - hi = 0 by omega]
        rw [e]; exact y1
      · rw [if_neg (by rw [iI_le (by omega) (by omega)]; omega), x2 (by omega), ob_iI (by omega), iI_nat (by omega)]
        dsimp only [Nat.reduceAdd]
        rw [h1' (s - hi - 1) (by omega) hkp, lI_sub, sq_k]
        have e : sumTo h (s + 1 - lo) - sumTo h (s - 1 - hi) - h (s - hi - 1) = gvS h k lo hi (s + 1) := by
          unfold gvS
          rw [if_pos hkp, show s + 1 - 1 - hi = (s - hi - 1) + 1 by omega, show s - 1 - hi = s - hi - 1 by omega]
          show _ = _ - (sumTo h (s - hi - 1) + h (s - hi - 1))
          omega
        rw [e]; exact y1
    rw [if_neg (by rw [show (0 : Int32) = iI 0 from rfl, iI_le (by omega) (by omega)]; omega)]
    have eg : gvS h k lo hi s = sumTo h (s - lo) - sumTo h (s - 1 - hi) := by unfold gvS; rw [if_pos hkp]
    rw [eg]
    by_cases hc : s < lo
    · rw [if_pos (by rw [iI_lt (by omega) (by omega)]; omega)]
      rw [show s + 1 - lo = s - lo by omega] at j87
      exact j87
    · rw [if_neg (by rw [iI_lt (by omega) (by omega)]; omega), x1 (by omega), ob_iI (by omega), iI_nat (by omega)]
      dsimp only [Nat.reduceAdd]
      rw [h1' (s - lo) (by omega) hkp, lI_add, sq_k]
      have e : sumTo h (s - lo) - sumTo h (s - 1 - hi) + h (s - lo) = sumTo h (s + 1 - lo) - sumTo h (s - 1 - hi) := by
        rw [show s + 1 - lo = (s - lo) + 1 by omega]
        show _ = sumTo h (s - lo) + h (s - lo) - _
        omega
      rw [e]
      exact j87
/-- one giver more joins the table -/
theorem E_join {V : Nat → Nat → Int} {a : Nat → Bool} {lo hi SS W : Nat} {no : Bool} {S : St} (hlo : 1 ≤ lo) (hh : lo ≤ hi + 1) (hhi : hi ≤ 30) (hSS : SS ≤ 60) (hW : W ≤ 8) (ha : ∀ g, g ≤ SS → (0 < g → 1 ≤ W) → (a g = true ↔ (g = 0 ∧ no = true) ∨ (lo ≤ g ∧ g ≤ hi))) (hT : ∀ k s, k ≤ W → s ≤ SS → S.2.1 98 (61 * k + s) = lI (V s k)) :
    ∃ S2 : St, f_X4_join 85 (iI lo) (iI hi) (bI no) (iI SS) (iI W) S = some ((), S2) ∧ (∀ k s, k ≤ W → s ≤ SS → S2.2.1 98 (61 * k + s) = lI (sumTo (rst a V s k) 31)) ∧ Fr (fun a _ => a = 98) S S2 := by
  have key : ∀ (m N : Nat) (S1 : St), m ≤ W + 1 → m < N → (∀ k s, k < m → s ≤ SS → S1.2.1 98 (61 * k + s) = lI (V s k)) → (∀ k s, m ≤ k → k ≤ W → s ≤ SS → S1.2.1 98 (61 * k + s) = lI (rwS V k lo hi no s)) →
      ∃ S2 : St, f_X4_join_L31 N 85 (iI lo) (iI hi) (bI no) (iI SS) (iI W) (iI ((m : Int) - 1)) S1 = some ((), S2) ∧ (∀ k s, k ≤ W → s ≤ SS → S2.2.1 98 (61 * k + s) = lI (rwS V k lo hi no s)) ∧ Fr (fun a _ => a = 98) S1 S2 := by
    intro m
    induction m with
    | zero =>
      intro N S1 hm hN h1 h2
      obtain ⟨N, rfl⟩ : ∃ k, N = k + 1 := ⟨N - 1, by omega⟩
      refine ⟨S1, ?_, fun k s hk hs => h2 k s (Nat.zero_le _) hk hs, Fr.rf⟩
      rw [f_X4_join_L31, if_pos (by decide)]
    | succ m ih =>
      intro N S1 hm hN h1 h2
      obtain ⟨N, rfl⟩ : ∃ k, N = k + 1 := ⟨N - 1, by omega⟩
      obtain ⟨S3, z1, z2, z3⟩ := E_join49 (V := V) (k := m) (no := no) hlo hh hhi hSS hW (by omega) (fun l6 S => f_X4_join_L31 N 85 (iI lo) (iI hi) (bI no) (iI SS) (iI W) l6 S) (SS + 1) FU 0 S1 (by omega) (by unfold FU; omega) (fun x hx hk0 => h1 (m - 1) x (by omega) hx) (fun x _ hx => h1 m x (by omega) hx) (fun x hx => absurd hx (Nat.not_lt_zero _))
      obtain ⟨S2, y1, y2, y3⟩ := ih N S3 (by omega) (by omega) (fun k s hk hs => by
        rw [z3.2.1 98 (61 * k + s) (by omega)]; exact h1 k s (by omega) hs) (fun k s hk hk2 hs => by
        by_cases hc : k = m
        · rw [hc]; exact z2 s hs
        · rw [z3.2.1 98 (61 * k + s) (by omega)]; exact h2 k s (by omega) hk2 hs)
      refine ⟨S2, ?_, y2, (z3.wk (fun _ _ h => h.1)).tr y3⟩
      have eg : gvS (fun x => V x (m - 1)) m lo hi 0 = 0 := by
        unfold gvS
        by_cases h : 0 < m
        · rw [if_pos h, Nat.zero_sub, Nat.zero_sub]; rfl
        · rw [if_neg h]
      rw [eg] at z1
      rw [show (((m + 1 : Nat) : Int) - 1) = m by omega, f_X4_join_L31, if_neg (by rw [show (0 : Int32) = iI 0 from rfl, iI_lt (by omega) (by omega)]; omega), show (61 : Int32) = iI 61 from rfl, iI_mul, sq_k, show ((m : Int) * 61) = ((61 * m : Nat) : Int) by omega]
      exact z1.trans y1
  obtain ⟨S2, z1, z2, z3⟩ := key (W + 1) FU S (Nat.le_refl _) (by unfold FU; omega) (fun k s hk hs => hT k s (by omega) hs) (fun k s hk hk2 _ => absurd hk (by omega))
  refine ⟨S2, ?_, fun k s hk hs => ?_, z3⟩
  · unfold f_X4_join
    rw [show (1 : Int32) = iI 1 from rfl, if_neg (by rw [iI_lt (by omega) (by omega)]; omega), iI_sub, if_neg (by rw [iI_lt (by omega) (by omega)]; omega), show (61 : Int32) = iI 61 from rfl, if_neg (by rw [iI_le (by omega) (by omega)]; omega), show (8 : Int32) = iI 8 from rfl, if_pos (by rw [iI_le (by omega) (by omega)]; omega)]
    rw [show (((W + 1 : Nat) : Int) - 1) = W by omega] at z1
    exact z1
  · rw [z2 k s hk hs, rest_join hlo hh hhi hs hk ha]; rfl
/-- an empty table -/
theorem E_rclear {S : St} : ∃ S2 : St, f_X4_clearTable 85 S = some ((), S2) ∧ (∀ k s, k ≤ 8 → s ≤ 60 → S2.2.1 98 (61 * k + s) = lI (restN [] 30 s k)) ∧ Fr (fun a _ => a = 98) S S2 := by
  obtain ⟨S1, a1, a2, a3⟩ := E_fillJ0 (c := 98) (n := 549) (v := 0) (S := S) rfl (by omega)
  have hw : (fun (a _ : Nat) => a = 98) 98 0 := rfl
  refine ⟨pJ S1 98 0 1, ?_, fun k s hk hs => ?_, a3.tr (Fr.pJ (P := fun a _ => a = 98) hw)⟩
  · unfold f_X4_clearTable
    dsimp only [Nat.reduceAdd]
    rw [bd_ok a1, sq_k]; rfl
  · rw [pJ_2, restN_n]
    by_cases hc : s = 0 ∧ k = 0
    · rw [if_pos ⟨rfl, by omega⟩, if_pos hc]; rfl
    · rw [if_neg (by omega), if_neg hc, a2 _ (by omega)]; rfl
