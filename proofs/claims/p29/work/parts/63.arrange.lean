/-! who come are seated by the class -/
def seatF (S : St) (c : Nat) (B : Bd) (p i d : Nat) : Prop := S.1 (c + 1) p = iI i ∧ S.1 (c + 2) p = iI d ∧ S.1 (c + 3) p = iI (B 1 (B 7 i)) ∧ S.1 (c + 4) p = iI (B 2 (B 7 i)) ∧ S.1 (c + 5) p = iI (B 3 (B 7 i)) ∧ S.1 (c + 6) p = iI (mostS B (B 7 i)) ∧ S.1 (c + 7) p = iI (B 4 (B 7 i)) ∧
  ∀ k, k < B 4 (B 7 i) → S.1 (c + 8) (3 * p + k) = iI (B 5 (3 * B 7 i + k)) ∧ S.1 (c + 9) (3 * p + k) = iI (B 6 (3 * B 7 i + k))
def CEl (S : St) (c : Nat) (B : Bd) (L : Nat) (l : List Nat) : Prop := S.1 c 0 = iI l.length ∧ ∀ p, p < l.length → seatF S c B p (l.getD p 0) (dayL B L (l.getD p 0))
theorem CE_l {S : St} {c : Nat} {B : Bd} {L : Nat} (h : CEl S c B L (ordL B L)) : CE S c B L := h
def PSu (c n a k : Nat) : Prop := (c + 1 ≤ a ∧ a ≤ c + 7 ∧ k = n) ∨ (c + 8 ≤ a ∧ a ≤ c + 9 ∧ 3 * n ≤ k ∧ k < 3 * n + 3)
def PSt (c n a k : Nat) : Prop := (a = c ∧ k = 0) ∨ PSu c n a k
theorem BE_Pc {S S2 : St} {P c : Nat} {B : Bd} (hP : P = 5 ∨ P = 15) (hc : c = 25 ∨ c = 36) (hB : BE S P B) (hf : Fr (fun a _ => c ≤ a ∧ a ≤ c + 10) S S2) : BE S2 P B :=
  BE_row hB (fun j hj => funext fun k => hf.1 _ k (by omega))
theorem PSt_c {c n a k : Nat} (h : PSt c n a k) : c ≤ a ∧ a ≤ c + 10 := by unfold PSt PSu at h; omega
theorem PSu_c {c n a k : Nat} (h : PSu c n a k) : c ≤ a ∧ a ≤ c + 10 := by unfold PSu at h; omega
def wrF (B : Bd) (s k : Nat) : Nat := B 5 (3 * s + k)
theorem maxTo_bd {f : Nat → Nat} {b : Nat} : ∀ {n : Nat}, (∀ k, k < n → f k ≤ b) → maxTo f n ≤ b
  | 0, _ => Nat.zero_le _
  | n + 1, h => by
    unfold maxTo
    have h1 := maxTo_bd (f := f) (n := n) (fun k hk => h k (by omega))
    have h2 := h n (by omega)
    omega
theorem E_seatL {S0 : St} {B : Bd} {P c n i d s : Nat} (hV : VB B) (hP : P = 5 ∨ P = 15) (hc : c = 25 ∨ c = 36) (hB : BE S0 P B) (hs : s < B 9 0) (hn : n < 8) (h0 : S0.1 c 0 = iI n) : ∀ (m N k : Nat) (S : St), k + m = B 4 s → m < N → Fr (PSu c n) S0 S → S.1 (c + 6) n = iI (maxTo (wrF B s) k) → (∀ j, j < k → S.1 (c + 8) (3 * n + j) = iI (B 5 (3 * s + j)) ∧ S.1 (c + 9) (3 * n + j) = iI (B 6 (3 * s + j))) →
    ∃ S2 : St, f_X0_seat_L104 N c (P + 1) (iI i) (iI d) (iI s) (iI k) S = some ((), S2) ∧ S2.1 c 0 = iI (n + 1 : Nat) ∧ S2.1 (c + 6) n = iI (mostS B s) ∧ (∀ j, j < B 4 s → S2.1 (c + 8) (3 * n + j) = iI (B 5 (3 * s + j)) ∧ S2.1 (c + 9) (3 * n + j) = iI (B 6 (3 * s + j))) ∧ (∀ a k, a ≠ c → a ≠ c + 6 → a ≠ c + 8 → a ≠ c + 9 → S2.1 a k = S.1 a k) ∧ Fr (PSt c n) S0 S2 := by
  have w := hV.2.2.1 s hs
  have hs6 : B 9 0 ≤ 6 := hV.2.1.2.1
  intro m
  induction m with
  | zero =>
    intro N k S hk hN hf h6 h8
    obtain ⟨N, rfl⟩ : ∃ k, N = k + 1 := ⟨N - 1, by omega⟩
    have hB1 : BE S P B := BE_Pc hP hc hB (hf.wk (fun _ _ => PSu_c))
    have hc0 : S.1 c 0 = iI n := (hf.1 c 0 (by unfold PSu; omega)).trans h0
    have e4 := (hB1.2.2.2.1 s hs).2.2.2.1
    have hke : k = B 4 s := by omega
    refine ⟨pI S c 0 (iI (n + 1 : Nat)), ?_, by rw [pI_1, if_pos ⟨rfl, rfl⟩], ?_, fun j hj => ?_, fun a q h1 h2 h3 h4 => by rw [pI_row h1], (hf.wk (fun _ _ h => Or.inr h)).tr (Fr.pI (Or.inl ⟨rfl, rfl⟩))⟩
    · rw [f_X0_seat_L104, ob_iI (by omega), iI_nat (by omega), show P + 1 + 4 = P + 5 from rfl, e4, if_pos (by rw [iI_le (by omega) (by omega)]; omega), sq_k, hc0, show iI n + (1 : Int32) = iI (n + 1 : Nat) from iI_add n 1]
    · rw [pI_row (by omega), h6, hke]; rfl
    · rw [pI_row (by omega), pI_row (by omega)]; exact h8 j (by omega)
  | succ m ih =>
    intro N k S hk hN hf h6 h8
    obtain ⟨N, rfl⟩ : ∃ k, N = k + 1 := ⟨N - 1, by omega⟩
    have hB1 : BE S P B := BE_Pc hP hc hB (hf.wk (fun _ _ => PSu_c))
    have hc0 : S.1 c 0 = iI n := (hf.1 c 0 (by unfold PSu; omega)).trans h0
    obtain ⟨-, -, -, e4, e5⟩ := hB1.2.2.2.1 s hs
    have e5k := e5 k (by omega)
    have w5 := w.2.2.2.2.2.2 k (by omega)
    have hmx : maxTo (wrF B s) k ≤ 30 := maxTo_bd (fun j hj => (w.2.2.2.2.2.2 j (by omega)).1)
    have x1 : iI s * (3 : Int32) + iI k = iI (3 * s + k : Nat) := by rw [show (3 : Int32) = iI 3 from rfl, iI_mul, iI_add]; congr 1; omega
    have x2 : iI n * (3 : Int32) + iI k = iI (3 * n + k : Nat) := by rw [show (3 : Int32) = iI 3 from rfl, iI_mul, iI_add]; congr 1; omega
    have w1 : PSu c n (c + 8) (3 * n + k) := Or.inr ⟨by omega, by omega, by omega, by omega⟩
    have w2 : PSu c n (c + 9) (3 * n + k) := Or.inr ⟨by omega, by omega, by omega, by omega⟩
    have w3 : PSu c n (c + 6) n := Or.inl ⟨by omega, by omega, rfl⟩
    obtain ⟨S3, hS3⟩ : ∃ S3, S3 = pI (pI (pI S (c + 8) (3 * n + k) (iI (B 5 (3 * s + k)))) (c + 9) (3 * n + k) (iI (B 6 (3 * s + k)))) (c + 6) n (iI (maxTo (wrF B s) (k + 1))) := ⟨_, rfl⟩
    obtain ⟨S2, z1, z2, z3, z4, z5, z6⟩ := ih N (k + 1) S3 (by omega) (by omega) (by rw [hS3]; exact ((hf.tr (Fr.pI w1)).tr (Fr.pI w2)).tr (Fr.pI w3)) (by rw [hS3, pI_1, if_pos ⟨rfl, rfl⟩]) (fun j hj => by
      rw [hS3, pI_row (show c + 8 ≠ c + 6 by omega), pI_row (show c + 9 ≠ c + 6 by omega), pI_row (show c + 8 ≠ c + 9 by omega), pI_1, pI_1, pI_1]
      by_cases hjk : j = k
      · rw [if_pos ⟨rfl, by omega⟩, if_pos ⟨rfl, by omega⟩, hjk]; exact ⟨rfl, rfl⟩
      · rw [if_neg (show ¬ (c + 8 = c + 8 ∧ 3 * n + j = 3 * n + k) by omega), if_neg (show ¬ (c + 9 = c + 9 ∧ 3 * n + j = 3 * n + k) by omega), if_neg (show ¬ (c + 9 = c + 8 ∧ 3 * n + j = 3 * n + k) by omega)]; exact h8 j (by omega))
    refine ⟨S2, ?_, z2, z3, z4, fun a q h1 h2 h3 h4 => ?_, z6⟩
    · rw [f_X0_seat_L104, ob_iI (by omega), iI_nat (by omega), show P + 1 + 4 = P + 5 from rfl, e4, if_neg (by rw [iI_le (by omega) (by omega)]; omega), x1, ob_iI (by omega), iI_nat (by omega), show P + 1 + 5 = P + 6 from rfl, e5k.1, sq_k, hc0, x2, ob_iI (by omega), iI_nat (by omega), sq_k, pI_row (by omega), hc0, x2, ob_iI (by omega), ob_iI (by omega), iI_nat (by omega), show P + 1 + 6 = P + 7 from rfl, pI_row (by omega), e5k.2, sq_k, pI_row (by omega), pI_row (by omega), hc0, ob_iI (by omega), ob_iI (by omega), iI_nat (by omega), sq_k, pI_row (by omega), pI_row (by omega), h6, imax_iI (by omega) (by omega)]
      have hm : (max (maxTo (wrF B s) k : Int) (B 5 (3 * s + k) : Int)) = ((maxTo (wrF B s) (k + 1) : Nat) : Int) := by
        show _ = ((max (maxTo (wrF B s) k) (B 5 (3 * s + k)) : Nat) : Int)
        omega
      rw [hm, ← hS3, show iI k + (1 : Int32) = iI (k + 1 : Nat) from iI_add k 1]
      exact z1
    · rw [z5 a q h1 h2 h3 h4, hS3, pI_row h2, pI_row h4, pI_row h3]
theorem E_seat {S : St} {B : Bd} {P c n i d : Nat} (hV : VB B) (hP : P = 5 ∨ P = 15) (hc : c = 25 ∨ c = 36) (hB : BE S P B) (hi : i < B 9 1) (hn : n < 8) (h0 : S.1 c 0 = iI n) :
    ∃ S2 : St, f_X0_seat c (P + 1) (iI i) (iI d) S = some ((), S2) ∧ S2.1 c 0 = iI (n + 1 : Nat) ∧ seatF S2 c B n i d ∧ Fr (PSt c n) S S2 := by
  have wi := hV.2.2.2 i hi
  obtain ⟨s, hs⟩ : ∃ s, s = B 7 i := ⟨_, rfl⟩
  have hs0 : s < B 9 0 := by rw [hs]; exact wi.1
  have w := hV.2.2.1 s hs0
  have hs6 : B 9 0 ≤ 6 := hV.2.1.2.1
  obtain ⟨e1, e2, e3, e4, e5⟩ := hB.2.2.2.1 s hs0
  obtain ⟨S7, hS7⟩ : ∃ S7, S7 = pI (pI (pI (pI (pI (pI (pI S (c + 1) n (iI i)) (c + 2) n (iI d)) (c + 3) n (iI (B 1 s))) (c + 4) n (iI (B 2 s))) (c + 5) n (iI (B 3 s))) (c + 7) n (iI (B 4 s))) (c + 6) n (iI (0 : Nat)) := ⟨_, rfl⟩
  have hw : ∀ q, 1 ≤ q → q ≤ 7 → PSu c n (c + q) n := fun q h1 h2 => Or.inl ⟨by omega, by omega, rfl⟩
  have f7 : Fr (PSu c n) S S7 := by
    rw [hS7]
    exact ((((((Fr.pI (hw 1 (by omega) (by omega))).tr (Fr.pI (hw 2 (by omega) (by omega)))).tr (Fr.pI (hw 3 (by omega) (by omega)))).tr (Fr.pI (hw 4 (by omega) (by omega)))).tr (Fr.pI (hw 5 (by omega) (by omega)))).tr (Fr.pI (hw 7 (by omega) (by omega)))).tr (Fr.pI (hw 6 (by omega) (by omega)))
  obtain ⟨S2, z1, z2, z3, z4, z5, z6⟩ := E_seatL (i := i) (d := d) hV hP hc hB hs0 hn h0 (B 4 s) FU 0 S7 (by omega) (by unfold FU; omega) f7 (by rw [hS7, pI_1, if_pos ⟨rfl, rfl⟩]; rfl) (fun j hj => absurd hj (Nat.not_lt_zero _))
  refine ⟨S2, ?_, z2, ?_, z6⟩
  · unfold f_X0_seat
    rw [bd_ok (E_sortOf hV hB hi), ← hs, h0, ob_iI (by omega), iI_nat (by omega), sq_k]
    rw [pI_row (by omega), h0, ob_iI (by omega), iI_nat (by omega), sq_k]
    rw [ob_iI (by omega), pI_row (by omega), pI_row (by omega), h0, ob_iI (by omega), iI_nat (by omega), sq_k, show P + 1 + 1 = P + 2 from rfl, pI_row (show P + 2 ≠ c + 2 by omega), pI_row (show P + 2 ≠ c + 1 by omega), iI_nat (by omega), e1]
    rw [ob_iI (by omega), pI_row (show c ≠ c + 3 by omega), pI_row (show c ≠ c + 2 by omega), pI_row (show c ≠ c + 1 by omega), h0, ob_iI (by omega), iI_nat (by omega), sq_k, show P + 1 + 2 = P + 3 from rfl, pI_row (show P + 3 ≠ c + 3 by omega), pI_row (show P + 3 ≠ c + 2 by omega), pI_row (show P + 3 ≠ c + 1 by omega), e2]
    rw [ob_iI (by omega), pI_row (show c ≠ c + 4 by omega), pI_row (show c ≠ c + 3 by omega), pI_row (show c ≠ c + 2 by omega), pI_row (show c ≠ c + 1 by omega), h0, ob_iI (by omega), iI_nat (by omega), sq_k, show P + 1 + 3 = P + 4 from rfl, pI_row (show P + 4 ≠ c + 4 by omega), pI_row (show P + 4 ≠ c + 3 by omega), pI_row (show P + 4 ≠ c + 2 by omega), pI_row (show P + 4 ≠ c + 1 by omega), e3]
    rw [ob_iI (by omega), pI_row (show c ≠ c + 5 by omega), pI_row (show c ≠ c + 4 by omega), pI_row (show c ≠ c + 3 by omega), pI_row (show c ≠ c + 2 by omega), pI_row (show c ≠ c + 1 by omega), h0, ob_iI (by omega), iI_nat (by omega), sq_k, show P + 1 + 4 = P + 5 from rfl, pI_row (show P + 5 ≠ c + 5 by omega), pI_row (show P + 5 ≠ c + 4 by omega), pI_row (show P + 5 ≠ c + 3 by omega), pI_row (show P + 5 ≠ c + 2 by omega), pI_row (show P + 5 ≠ c + 1 by omega), e4]
    rw [pI_row (show c ≠ c + 7 by omega), pI_row (show c ≠ c + 5 by omega), pI_row (show c ≠ c + 4 by omega), pI_row (show c ≠ c + 3 by omega), pI_row (show c ≠ c + 2 by omega), pI_row (show c ≠ c + 1 by omega), h0, ob_iI (by omega), iI_nat (by omega), sq_k]
    rw [show (0 : Int32) = iI (0 : Nat) from rfl, ← hS7]
    exact z1
  · have r : ∀ q, 1 ≤ q → q ≤ 7 → q ≠ 6 → S2.1 (c + q) n = S7.1 (c + q) n := fun q h1 h2 h3 => z5 _ _ (by omega) (by omega) (by omega) (by omega)
    unfold seatF
    rw [← hs, r 1 (by omega) (by omega) (by omega), r 2 (by omega) (by omega) (by omega), r 3 (by omega) (by omega) (by omega), r 4 (by omega) (by omega) (by omega), r 5 (by omega) (by omega) (by omega), r 7 (by omega) (by omega) (by omega)]
    refine ⟨?_, ?_, ?_, ?_, ?_, z3, ?_, z4⟩
    · rw [hS7, pI_row (by omega), pI_row (by omega), pI_row (by omega), pI_row (by omega), pI_row (by omega), pI_row (by omega), pI_1, if_pos ⟨rfl, rfl⟩]
    · rw [hS7, pI_row (by omega), pI_row (by omega), pI_row (by omega), pI_row (by omega), pI_row (by omega), pI_1, if_pos ⟨rfl, rfl⟩]
    · rw [hS7, pI_row (by omega), pI_row (by omega), pI_row (by omega), pI_row (by omega), pI_1, if_pos ⟨rfl, rfl⟩]
    · rw [hS7, pI_row (by omega), pI_row (by omega), pI_row (by omega), pI_1, if_pos ⟨rfl, rfl⟩]
    · rw [hS7, pI_row (by omega), pI_row (by omega), pI_1, if_pos ⟨rfl, rfl⟩]
    · rw [hS7, pI_row (by omega), pI_1, if_pos ⟨rfl, rfl⟩]
/-- when each would come, as the class notes it -/
def cmS (B : Bd) (L j : Nat) : Int := if dayL B L j ≤ L then (dayL B L j : Int) else -4
def FLo (o : Int32) (G : Nat → Int32) (l : List Nat) : Prop := (o = 0 ∨ o = 1) ∧ (o = 0 → ∀ p, p < l.length → G p = iI (l.getD p 0))
def AI (S : St) (B : Bd) (P c L : Nat) (G : Nat → Int32) (l : List Nat) (o : Int32) : Prop := BE S P B ∧ (∀ j, j < B 9 1 → S.1 (c + 10) j = iI (cmS B L j)) ∧ CEl S c B L l ∧ (∀ p, l.length ≤ p → S.1 (c + 1) p = G p) ∧ FLo o G l
theorem seatF_fr {S S2 : St} {c n p i d : Nat} {B : Bd} (hV : VB B) (hi : i < B 9 1) (hp : p < n) (h : seatF S c B p i d) (hf : Fr (PSt c n) S S2) : seatF S2 c B p i d := by
  have w := hV.2.2.1 _ (hV.2.2.2 i hi).1
  unfold seatF at h ⊢
  have r : ∀ q, 1 ≤ q → q ≤ 7 → S2.1 (c + q) p = S.1 (c + q) p := fun q h1 h2 => hf.1 _ _ (by unfold PSt PSu; omega)
  rw [r 1 (by omega) (by omega), r 2 (by omega) (by omega), r 3 (by omega) (by omega), r 4 (by omega) (by omega), r 5 (by omega) (by omega), r 6 (by omega) (by omega), r 7 (by omega) (by omega)]
  refine ⟨h.1, h.2.1, h.2.2.1, h.2.2.2.1, h.2.2.2.2.1, h.2.2.2.2.2.1, h.2.2.2.2.2.2.1, fun k hk => ?_⟩
  rw [hf.1 (c + 8) (3 * p + k) (by unfold PSt PSu; omega), hf.1 (c + 9) (3 * p + k) (by unfold PSt PSu; omega)]
  exact h.2.2.2.2.2.2.2 k hk
theorem mem_ordP9 {B : Bd} {L d i j : Nat} (hi : i ≤ B 9 1) (h : j ∈ ordP B L d i) : j < B 9 1 := by
  unfold ordP at h
  simp only [List.mem_append, List.mem_flatMap, List.mem_range, List.mem_filter] at h
  rcases h with ⟨e, -, h, -⟩ | ⟨h, -⟩
  · exact h
  · omega
/-- one more is seated -/
theorem AI_seat {S : St} {B : Bd} {P c L d i : Nat} {G : Nat → Int32} {o o2 : Int32} (hV : VB B) (hP : P = 5 ∨ P = 15) (hc : c = 25 ∨ c = 36) (hi : i < B 9 1) (hd : dayL B L i = d) (h : AI S B P c L G (ordP B L d i) o) (ho : o2 = 1 ∨ (o2 = o ∧ G (ordP B L d i).length = iI i)) :
    ∃ S2 : St, f_X0_seat c (P + 1) (iI i) (iI d) S = some ((), S2) ∧ AI S2 B P c L G (ordP B L d (i + 1)) o2 ∧ Fr (fun a _ => c ≤ a ∧ a ≤ c + 10) S S2 := by
  obtain ⟨h1, h2, h3, h4, h5⟩ := h
  have hng : B 9 1 ≤ 8 := hV.2.1.2.2.2
  have hlt := ordP_lt B L d i hi hd
  obtain ⟨S2, z1, z2, z3, z4⟩ := E_seat (d := d) hV hP hc h1 hi (by omega) h3.1
  have f := z4.wk (P2 := fun a _ => c ≤ a ∧ a ≤ c + 10) (fun _ _ => PSt_c)
  have hl : (ordP B L d (i + 1)).length = (ordP B L d i).length + 1 := by rw [ordP_i, if_pos hd, List.length_append]; rfl
  have hg : ∀ p, (ordP B L d (i + 1)).getD p 0 = if p = (ordP B L d i).length then i else (ordP B L d i).getD p 0 := fun p => by rw [ordP_i, if_pos hd, getD_app]
  refine ⟨S2, z1, ⟨BE_Pc hP hc h1 f, fun j hj => ?_, ⟨by rw [hl]; exact z2, fun p hp => ?_⟩, fun p hp => ?_, ?_⟩, f⟩
  · rw [z4.1 (c + 10) j (by unfold PSt PSu; omega)]; exact h2 j hj
  · rw [hg]
    by_cases hpn : p = (ordP B L d i).length
    · rw [if_pos hpn, hpn, hd]; exact z3
    · rw [if_neg hpn]
      have hp2 : p < (ordP B L d i).length := by omega
      exact seatF_fr hV (mem_ordP9 (by omega) (getD_mem hp2)) hp2 (h3.2 p hp2) z4
  · rw [z4.1 (c + 1) p (by unfold PSt PSu; omega)]; exact h4 p (by omega)
  · rcases ho with ho | ⟨ho, hG⟩
    · exact ⟨Or.inr ho, fun z => absurd (ho.symm.trans z) (by decide)⟩
    · refine ⟨by rw [ho]; exact h5.1, fun z p hp => ?_⟩
      rw [hg]
      by_cases hpn : p = (ordP B L d i).length
      · rw [if_pos hpn, hpn]; exact hG
      · rw [if_neg hpn]; exact h5.2 (by rw [← ho]; exact z) p (by omega)
theorem E_ar118 {B : Bd} {P c L d : Nat} {G : Nat → Int32} {X : Int32} (hV : VB B) (hL : L ≤ 30) (hP : P = 5 ∨ P = 15) (hc : c = 25 ∨ c = 36) (hd : d ≤ L) (kb : Nat → Int32 → Int32 → Int32 → St → Option (Int32 × St)) : ∀ (m N i : Nat) (o : Int32) (S : St), i + m = B 9 1 → m < N → AI S B P c L G (ordP B L d i) o →
    ∃ (S2 : St) (o2 : Int32), f_X0_arrange_L118 N c P (iI L) kb (P + 1) X o (iI d) (iI i) S = kb (P + 1) X o2 (iI (d + 1 : Nat)) S2 ∧ AI S2 B P c L G (ordP B L (d + 1) 0) o2 ∧ Fr (fun a _ => c ≤ a ∧ a ≤ c + 10) S S2 := by
  have hng : B 9 1 ≤ 8 := hV.2.1.2.2.2
  intro m
  induction m with
  | zero =>
    intro N i o S hi hN h
    obtain ⟨N, rfl⟩ : ∃ k, N = k + 1 := ⟨N - 1, by omega⟩
    have hie : i = B 9 1 := by omega
    refine ⟨S, o, ?_, ?_, Fr.rf⟩
    · rw [f_X0_arrange_L118, h.1.2.2.1, if_pos (by rw [iI_le (by omega) (by omega)]; omega), show iI d + (1 : Int32) = iI (d + 1 : Nat) from iI_add d 1]
    · rw [hie, ordP_day] at h; exact h
  | succ m ih =>
    intro N i o S hi hN h
    obtain ⟨N, rfl⟩ : ∃ k, N = k + 1 := ⟨N - 1, by omega⟩
    have hi9 : i < B 9 1 := by omega
    have e0 : iI i + (1 : Int32) = iI (i + 1 : Nat) := iI_add i 1
    have hcm := h.2.1 i hi9
    have hcnt := h.2.2.1.1
    have hdl : dayL B L i ≤ 200 ∨ dayL B L i = L := by
      unfold dayL
      by_cases hc : B 1 (B 7 i) = 4
      · rw [if_pos hc]; exact Or.inr rfl
      · rw [if_neg hc]; exact Or.inl (hV.2.2.2 i hi9).2
    have hcb : cmS B L i = d ↔ dayL B L i = d := by
      unfold cmS
      by_cases hc : dayL B L i ≤ L
      · rw [if_pos hc]; omega
      · rw [if_neg hc]; omega
    have hcr : -4 ≤ cmS B L i ∧ cmS B L i ≤ 200 := by
      unfold cmS
      by_cases hc : dayL B L i ≤ L
      · rw [if_pos hc]; omega
      · rw [if_neg hc]; omega
    by_cases hdi : dayL B L i = d
    · have hlt := ordP_lt B L d i hi9 hdi
      have go : ∀ o2 : Int32, (o2 = 1 ∨ (o2 = o ∧ G (ordP B L d i).length = iI i)) → ∃ (S2 : St) (o3 : Int32), f_X0_arrange_J177 c P (iI L) kb (fun l3 l4 l5 l6 l7 S => f_X0_arrange_L118 N c P (iI L) kb l3 l4 l5 l6 l7 S) (P + 1) X o2 (iI d) (iI i) S = kb (P + 1) X o3 (iI (d + 1 : Nat)) S2 ∧ AI S2 B P c L G (ordP B L (d + 1) 0) o3 ∧ Fr (fun a _ => c ≤ a ∧ a ≤ c + 10) S S2 := by
        intro o2 ho
        obtain ⟨S1, z1, z2, z3⟩ := AI_seat hV hP hc hi9 hdi h ho
        obtain ⟨S2, o3, y1, y2, y3⟩ := ih N (i + 1) o2 S1 (by omega) (by omega) z2
        refine ⟨S2, o3, ?_, y2, z3.tr y3⟩
        unfold f_X0_arrange_J177
        rw [bd_ok z1, e0]
        exact y1
      have pre : ∀ R : Option (Int32 × St), (if X ≤ iI (ordP B L d i).length then f_X0_arrange_J174 c P (iI L) kb (fun l3 l4 l5 l6 l7 S => f_X0_arrange_L118 N c P (iI L) kb l3 l4 l5 l6 l7 S) (P + 1) X (iI d) (iI i) S else (if G (ordP B L d i).length = iI i then f_X0_arrange_J177 c P (iI L) kb (fun l3 l4 l5 l6 l7 S => f_X0_arrange_L118 N c P (iI L) kb l3 l4 l5 l6 l7 S) (P + 1) X o (iI d) (iI i) S else f_X0_arrange_J174 c P (iI L) kb (fun l3 l4 l5 l6 l7 S => f_X0_arrange_L118 N c P (iI L) kb l3 l4 l5 l6 l7 S) (P + 1) X (iI d) (iI i) S)) = R → f_X0_arrange_L118 (N + 1) c P (iI L) kb (P + 1) X o (iI d) (iI i) S = R := by
        intro R hR
        rw [f_X0_arrange_L118, h.1.2.2.1, if_neg (by rw [iI_le (by omega) (by omega)]; omega), ob_iI (by omega), iI_nat (by omega), hcm, if_pos (by rw [hcb.mpr hdi]), hcnt, show (8 : Int32) = iI 8 from rfl, if_pos (by rw [iI_lt (by omega) (by omega)]; omega), ob_iI (by omega), iI_nat (by omega), h.2.2.2.1 _ (Nat.le_refl _)]
        exact hR
      by_cases hX : X ≤ iI (ordP B L d i).length
      · obtain ⟨S2, o3, y1, y2, y3⟩ := go 1 (Or.inl rfl)
        exact ⟨S2, o3, pre _ (by rw [if_pos hX]; exact y1), y2, y3⟩
      · by_cases hG : G (ordP B L d i).length = iI i
        · obtain ⟨S2, o3, y1, y2, y3⟩ := go o (Or.inr ⟨rfl, hG⟩)
          exact ⟨S2, o3, pre _ (by rw [if_neg hX, if_pos hG]; exact y1), y2, y3⟩
        · obtain ⟨S2, o3, y1, y2, y3⟩ := go 1 (Or.inl rfl)
          exact ⟨S2, o3, pre _ (by rw [if_neg hX, if_neg hG]; exact y1), y2, y3⟩
    · have hP1 : ordP B L d (i + 1) = ordP B L d i := by rw [ordP_i, if_neg hdi]
      obtain ⟨S2, o2, y1, y2, y3⟩ := ih N (i + 1) o S (by omega) (by omega) (by rw [hP1]; exact h)
      refine ⟨S2, o2, ?_, y2, y3⟩
      rw [f_X0_arrange_L118, h.1.2.2.1, if_neg (by rw [iI_le (by omega) (by omega)]; omega), ob_iI (by omega), iI_nat (by omega), hcm, if_neg (by rw [iI_eq (by omega) (by omega)]; exact fun z => hdi (hcb.mp z)), e0]
      exact y1
theorem E_ar109 {B : Bd} {P c L : Nat} {G : Nat → Int32} {X : Int32} (hV : VB B) (hL : L ≤ 30) (hP : P = 5 ∨ P = 15) (hc : c = 25 ∨ c = 36) : ∀ (m N d : Nat) (o : Int32) (S : St), d + m = L + 1 → m < N → AI S B P c L G (ordP B L d 0) o →
    ∃ (S2 : St) (o2 : Int32), f_X0_arrange_L109 N c P (iI L) (P + 1) X o (iI d) S = some (o2, S2) ∧ CE S2 c B L ∧ (o2 = 0 ∨ o2 = 1) ∧ (o2 = 0 → X = iI (cntL B L) ∧ ∀ p, p < cntL B L → G p = iI (atL B L p)) ∧ Fr (fun a _ => c ≤ a ∧ a ≤ c + 10) S S2 := by
  have hng : B 9 1 ≤ 8 := hV.2.1.2.2.2
  intro m
  induction m with
  | zero =>
    intro N d o S hd hN h
    obtain ⟨N, rfl⟩ : ∃ k, N = k + 1 := ⟨N - 1, by omega⟩
    have hde : d = L + 1 := by omega
    rw [hde, ← ordL_P] at h
    obtain ⟨h1, h2, h3, h4, h5⟩ := h
    have hx : ∀ R : Option (Int32 × St), (if o = 0 then if iI (cntL B L) = X then some ((0 : Int32), S) else some ((1 : Int32), S) else some ((1 : Int32), S)) = R → f_X0_arrange_L109 (N + 1) c P (iI L) (P + 1) X o (iI d) S = R := by
      intro R hR
      rw [f_X0_arrange_L109, if_pos (by rw [iI_lt (by omega) (by omega)]; omega), h3.1]
      exact hR
    by_cases ho : o = 0
    · by_cases hX : iI (cntL B L) = X
      · exact ⟨S, 0, hx _ (by rw [if_pos ho, if_pos hX]), h3, Or.inl rfl, fun _ => ⟨hX.symm, fun p hp => h5.2 ho p hp⟩, Fr.rf⟩
      · exact ⟨S, 1, hx _ (by rw [if_pos ho, if_neg hX]), h3, Or.inr rfl, fun z => absurd z (by decide), Fr.rf⟩
    · exact ⟨S, 1, hx _ (by rw [if_neg ho]), h3, Or.inr rfl, fun z => absurd z (by decide), Fr.rf⟩
  | succ m ih =>
    intro N d o S hd hN h
    obtain ⟨N, rfl⟩ : ∃ k, N = k + 1 := ⟨N - 1, by omega⟩
    obtain ⟨S1, o1, y1, y2, y3⟩ := E_ar118 (X := X) hV hL hP hc (show d ≤ L by omega) (fun l3 l4 l5 l6 S => f_X0_arrange_L109 N c P (iI L) l3 l4 l5 l6 S) (B 9 1) FU 0 o S (by omega) (by unfold FU; omega) h
    obtain ⟨S2, o2, z1, z2, z3, z4, z5⟩ := ih N (d + 1) o1 S1 (by omega) (by omega) y2
    refine ⟨S2, o2, ?_, z2, z3, z4, y3.tr z5⟩
    rw [f_X0_arrange_L109, if_neg (by rw [iI_lt (by omega) (by omega)]; omega)]
    exact y1.trans z1
/-- those who come by L are seated -/
theorem E_arrange {S : St} {B : Bd} {P c L : Nat} (hV : VB B) (hL : L ≤ 30) (hP : P = 5 ∨ P = 15) (hc : c = 25 ∨ c = 36) (hB : BE S P B) :
    ∃ (S2 : St) (o : Int32), f_X0_arrange c P (iI L) S = some (o, S2) ∧ CE S2 c B L ∧ (o = 0 ∨ o = 1) ∧ (o = 0 → S.1 c 0 = iI (cntL B L) ∧ ∀ p, p < cntL B L → S.1 (c + 1) p = iI (atL B L p)) ∧ Fr (fun a _ => c ≤ a ∧ a ≤ c + 10) S S2 := by
  have hng : B 9 1 ≤ 8 := hV.2.1.2.2.2
  have hs6 : B 9 0 ≤ 6 := hV.2.1.2.1
  have key : ∀ (m N i : Nat) (S1 : St), i + m = B 9 1 → m < N → Fr (fun a _ => a = c + 10) S S1 → (∀ j, j < i → S1.1 (c + 10) j = iI (cmS B L j)) →
      ∃ (S2 : St) (o : Int32), f_X0_arrange_L8 N c P (iI L) (P + 1) (iI i) S1 = some (o, S2) ∧ CE S2 c B L ∧ (o = 0 ∨ o = 1) ∧ (o = 0 → S.1 c 0 = iI (cntL B L) ∧ ∀ p, p < cntL B L → S.1 (c + 1) p = iI (atL B L p)) ∧ Fr (fun a _ => c ≤ a ∧ a ≤ c + 10) S S2 := by
    intro m
    induction m with
    | zero =>
      intro N i S1 hi hN hf hj
      obtain ⟨N, rfl⟩ : ∃ k, N = k + 1 := ⟨N - 1, by omega⟩
      have f1 : Fr (fun a _ => c ≤ a ∧ a ≤ c + 10) S S1 := hf.wk (fun a k h => ⟨by omega, by omega⟩)
      have hw0 : (fun (a _ : Nat) => c ≤ a ∧ a ≤ c + 10) c 0 := ⟨by omega, by omega⟩
      have f2 : Fr (fun a _ => c ≤ a ∧ a ≤ c + 10) S (pI S1 c 0 0) := f1.tr (Fr.pI (P := fun a _ => c ≤ a ∧ a ≤ c + 10) hw0)
      have hB1 : BE S1 P B := BE_Pc hP hc hB f1
      have hAI : AI (pI S1 c 0 0) B P c L (S.1 (c + 1)) (ordP B L 0 0) 0 := by
        rw [ordP_00]
        refine ⟨BE_Pc hP hc hB f2, fun j hj2 => ?_, ⟨?_, fun p hp => absurd hp (Nat.not_lt_zero _)⟩, fun p _ => ?_, ⟨Or.inl rfl, fun _ p hp => absurd hp (Nat.not_lt_zero _)⟩⟩
        · rw [pI_row (by omega)]; exact hj j (by omega)
        · rw [pI_1, if_pos ⟨rfl, rfl⟩]; rfl
        · rw [pI_row (by omega), hf.1 (c + 1) p (by omega)]
      obtain ⟨S2, o2, z1, z2, z3, z4, z5⟩ := E_ar109 (X := S1.1 c 0) hV hL hP hc (L + 1) FU 0 0 (pI S1 c 0 0) (by omega) (by unfold FU; omega) hAI
      refine ⟨S2, o2, ?_, z2, z3, fun ho => ?_, f2.tr z5⟩
      · rw [f_X0_arrange_L8, hB1.2.2.1, if_pos (by rw [iI_le (by omega) (by omega)]; omega), sq_k, sq_k]
        exact z1
      · have := z4 ho
        rw [hf.1 c 0 (by omega)] at this
        exact this
    | succ m ih =>
      intro N i S1 hi hN hf hj
      obtain ⟨N, rfl⟩ : ∃ k, N = k + 1 := ⟨N - 1, by omega⟩
      have hi9 : i < B 9 1 := by omega
      have f1 : Fr (fun a _ => c ≤ a ∧ a ≤ c + 10) S S1 := hf.wk (fun a k h => ⟨by omega, by omega⟩)
      have hB1 : BE S1 P B := BE_Pc hP hc hB f1
      obtain ⟨e7, e8⟩ := hB1.2.2.2.2 i hi9
      have wi := hV.2.2.2 i hi9
      have ws := hV.2.2.1 _ wi.1
      have e2 := (hB1.2.2.2.1 _ wi.1).1
      have hw0 : ∀ k, (fun (a _ : Nat) => a = c + 10) (c + 10) k := fun _ => rfl
      have step : ∀ v : Int32, v = iI (cmS B L i) → ∃ (S2 : St) (o : Int32), f_X0_arrange_L8 N c P (iI L) (P + 1) (iI (i + 1 : Nat)) (pI S1 (c + 10) i v) = some (o, S2) ∧ CE S2 c B L ∧ (o = 0 ∨ o = 1) ∧ (o = 0 → S.1 c 0 = iI (cntL B L) ∧ ∀ p, p < cntL B L → S.1 (c + 1) p = iI (atL B L p)) ∧ Fr (fun a _ => c ≤ a ∧ a ≤ c + 10) S S2 := by
        intro v hv
        refine ih N (i + 1) _ (by omega) (by omega) (hf.tr (Fr.pI (P := fun a _ => a = c + 10) (hw0 i))) (fun j hj2 => ?_)
        rw [pI_1]
        by_cases hji : j = i
        · rw [if_pos ⟨rfl, hji⟩, hv, hji]
        · rw [if_neg (fun z => hji z.2)]; exact hj j (by omega)
      have e0 : iI i + (1 : Int32) = iI (i + 1 : Nat) := iI_add i 1
      have pre : ∀ R : Option (Int32 × St), (if iI (B 1 (B 7 i)) = (4 : Int32) then f_X0_arrange_J38 c P (iI L) (fun l3 l4 S => f_X0_arrange_L8 N c P (iI L) l3 l4 S) (P + 1) (iI i) (1 : Int32) S1 else f_X0_arrange_J38 c P (iI L) (fun l3 l4 S => f_X0_arrange_L8 N c P (iI L) l3 l4 S) (P + 1) (iI i) (0 : Int32) S1) = R → f_X0_arrange_L8 (N + 1) c P (iI L) (P + 1) (iI i) S1 = R := by
        intro R hR
        rw [f_X0_arrange_L8, hB1.2.2.1, if_neg (by rw [iI_le (by omega) (by omega)]; omega), ob_iI (by omega), iI_nat (by omega), show P + 1 + 7 = P + 8 from rfl, e7, ob_iI (by omega), iI_nat (by omega), show P + 1 + 1 = P + 2 from rfl, e2]
        exact hR
      by_cases hk : B 1 (B 7 i) = 4
      · have hcm : cmS B L i = L := by unfold cmS dayL; rw [if_pos hk, if_pos (Nat.le_refl _)]
        obtain ⟨S2, o, y1, y2⟩ := step (iI L) (by rw [hcm])
        refine ⟨S2, o, pre _ ?_, y2⟩
        rw [if_pos (by rw [hk]; rfl)]
        unfold f_X0_arrange_J38
        rw [if_neg (by decide), ob_iI (by omega), iI_nat (by omega), sq_k, e0]
        exact y1
      · have hdl : dayL B L i = B 8 i := by unfold dayL; rw [if_neg hk]
        by_cases hl : L < B 8 i
        · have hcm : cmS B L i = -4 := by unfold cmS; rw [hdl, if_neg (by omega)]
          obtain ⟨S2, o, y1, y2⟩ := step (-4) (by rw [hcm, iI_n4])
          refine ⟨S2, o, pre _ ?_, y2⟩
          rw [if_neg (by rw [show (4 : Int32) = iI 4 from rfl, iI_eq (by omega) (by omega)]; omega)]
          unfold f_X0_arrange_J38
          rw [if_pos rfl, ob_iI (by omega), iI_nat (by omega), show P + 1 + 8 = P + 9 from rfl, e8, if_pos (by rw [iI_lt (by omega) (by omega)]; omega), ob_iI (by omega), sq_k, e0]
          exact y1
        · have hcm : cmS B L i = B 8 i := by unfold cmS; rw [hdl, if_pos (by omega)]
          obtain ⟨S2, o, y1, y2⟩ := step (iI (B 8 i)) (by rw [hcm])
          refine ⟨S2, o, pre _ ?_, y2⟩
          rw [if_neg (by rw [show (4 : Int32) = iI 4 from rfl, iI_eq (by omega) (by omega)]; omega)]
          unfold f_X0_arrange_J38
          rw [if_pos rfl, ob_iI (by omega), iI_nat (by omega), show P + 1 + 8 = P + 9 from rfl, e8, if_neg (by rw [iI_lt (by omega) (by omega)]; omega), ob_iI (by omega), ob_iI (by omega), sq_k, e0]
          exact y1
  obtain ⟨S2, o, y1, y2⟩ := key (B 9 1) FU 0 S (by omega) (by unfold FU; omega) Fr.rf (fun j hj => absurd hj (Nat.not_lt_zero _))
  refine ⟨S2, o, ?_, y2⟩
  unfold f_X0_arrange
  exact y1
