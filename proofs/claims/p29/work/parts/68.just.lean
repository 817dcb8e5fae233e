/-! gifts just enough: the class -/
def mgB (B : Bd) (L j : Nat) : Nat := if cmB B L j = true then mostG B j else 0
theorem mgB_le {B : Bd} {L : Nat} (hV : VB B) (j : Nat) (hj : j < B 9 1) : mgB B L j ≤ 30 := by
  unfold mgB
  by_cases h : cmB B L j = true
  · rw [if_pos h]; exact (mostG_le hV hj).1
  · rw [if_neg h]; exact Nat.zero_le _
/-- the same, nothing behind the last giver -/
def mgN (B : Bd) (L j : Nat) : Nat := if j < B 9 1 then mgB B L j else 0
theorem mgN_le {B : Bd} {L : Nat} (hV : VB B) (j : Nat) : mgN B L j ≤ 30 := by
  unfold mgN
  by_cases h : j < B 9 1
  · rw [if_pos h]; exact mgB_le hV j h
  · rw [if_neg h]; exact Nat.zero_le _
theorem mgN_e {B : Bd} {L j : Nat} (h : j < B 9 1) : mgN B L j = mgB B L j := if_pos h
def prJ (B : Bd) (i g : Nat) : Bool := decide (g ≤ mostG B i)
theorem restN_just (B : Bd) (L s w : Nat) : restN (lsF (upTo (mgN B L)) 0 (B 9 1)) 30 s w = restN ((ordL B L).map (prJ B)) 30 s w := by
  rw [← restN_ord B L 30 (prJ B) s w]
  congr 1
  refine lsF_cong (fun j _ hj => ?_)
  funext g
  unfold upTo withB
  rw [mgN_e (by omega)]
  unfold mgB prJ only0
  by_cases h : cmB B L j = true
  · rw [if_pos h, if_pos h]
  · rw [if_neg h, if_neg h]
    exact decide_eq_decide.mpr Nat.le_zero
theorem sumFr_tail {f : Nat → Int} {c : Nat} (h : ∀ j, c ≤ j → f j = 0) : ∀ (r k : Nat), sumFr f k r = sumFr f k (min r (c - k))
  | 0, k => by rw [Nat.zero_min]
  | r + 1, k => by
    show f k + sumFr f (k + 1) r = _
    rw [sumFr_tail h r (k + 1)]
    by_cases hc : k < c
    · rw [show min (r + 1) (c - k) = min r (c - (k + 1)) + 1 by omega]; rfl
    · rw [show min (r + 1) (c - k) = 0 by omega, show min r (c - (k + 1)) = 0 by omega, h k (by omega)]; rfl
theorem sumFr_cong {f g : Nat → Int} : ∀ {r k : Nat}, (∀ j, f j = g j) → sumFr f k r = sumFr g k r
  | 0, _, _ => rfl
  | r + 1, k, h => by
    show f k + sumFr f (k + 1) r = g k + sumFr g (k + 1) r
    rw [h k, sumFr_cong (r := r) h]
/-- how many rows of gifts are just enough -/
def justN (B : Bd) (L : Nat) : Int := cge (lsF (upTo (mgN B L)) 0 (B 9 1)) (B 0 0) (B 0 1)
theorem E_justWays {S : St} {B : Bd} {L : Nat} (hV : VB B) (hL : L ≤ 30) (h : RE S B L) : ∃ S2 : St, f_X4_justWays 85 S = some (lI (justN B L), S2) ∧ RE S2 B L ∧ Fr (fun a _ => a = 98) S S2 := by
  have hn := cntL_le B L
  have hng : B 9 1 ≤ 8 := hV.2.1.2.2.2
  have hbar : B 0 0 ≤ 60 := hV.1.2.1
  have hneed : B 0 1 ≤ 8 := hV.1.2.2.1
  have h0k : kdE 25 = 0 := kdE_c (Or.inl rfl)
  obtain ⟨f, hf⟩ : ∃ f : Nat → Int, f = fun w => restN ((ordL B L).map (prJ B)) 30 (B 0 0) w := ⟨_, rfl⟩
  -- the sum
  have key53 : ∀ (m N k : Nat) (z : Int) (S : St), m = cntL B L + 1 - k → k ≤ 9 → m < N → RE S B L → (∀ k, k ≤ cntL B L → S.2.1 98 (61 * k + B 0 0) = lI (f k)) → f_X4_justWays_L53 N 85 (lI z) (iI k) S = some (lI (z + sumFr f k m), S) := by
    intro m
    induction m with
    | zero =>
      intro N k z S hm hk hN h hT
      obtain ⟨N, rfl⟩ : ∃ k, N = k + 1 := ⟨N - 1, by omega⟩
      rw [f_X4_justWays_L53, h.1, ck_pos h0k, h.2.2.2.2.1.1, if_pos (by rw [iI_lt (by omega) (by omega)]; omega), show z + sumFr f k 0 = z from Int.add_zero z]
    | succ m ih =>
      intro N k z S hm hk hN h hT
      obtain ⟨N, rfl⟩ : ∃ k, N = k + 1 := ⟨N - 1, by omega⟩
      have e : iI k * (61 : Int32) + iI (B 0 0) = iI (61 * k + B 0 0 : Nat) := by
        rw [show (61 : Int32) = iI 61 from rfl, iI_mul, iI_add]; congr 1; omega
      rw [f_X4_justWays_L53, h.1, ck_pos h0k, h.2.2.2.2.1.1, if_neg (by rw [iI_lt (by omega) (by omega)]; omega), h.2.1, e, ob_iI (by omega), iI_nat (by omega)]
      dsimp only [Nat.reduceAdd]
      rw [hT k (by omega), lI_add, sq_k, show iI k + (1 : Int32) = iI (k + 1 : Nat) from iI_add k 1, ih N (k + 1) (z + f k) S (by omega) (by omega) (by omega) h hT, Int.add_assoc]
      rfl
  have key6 : ∀ (m N p : Nat) (S : St), p + m = cntL B L → m < N → RE S B L → (∀ k s, k ≤ cntL B L → s ≤ B 0 0 → S.2.1 98 (61 * k + s) = lI (restN (rvF (fun q => prJ B (atL B L q)) p) 30 s k)) →
      ∃ S2 : St, f_X4_justWays_L6 N 85 (iI p) S = some (lI (justN B L), S2) ∧ RE S2 B L ∧ Fr (fun a _ => a = 98) S S2 := by
    intro m
    induction m with
    | zero =>
      intro N p S hp hN h hT
      obtain ⟨N, rfl⟩ : ∃ k, N = k + 1 := ⟨N - 1, by omega⟩
      have hpe : p = cntL B L := by omega
      subst hpe
      refine ⟨S, ?_, h, Fr.rf⟩
      have hT2 : ∀ k, k ≤ cntL B L → S.2.1 98 (61 * k + B 0 0) = lI (f k) := fun k hk => by
        rw [hT k (B 0 0) hk (Nat.le_refl _), restN_places, hf]
      have z := key53 (cntL B L + 1 - B 0 1) FU (B 0 1) 0 S rfl (by omega) (by unfold FU; omega) h hT2
      have hz : (0 : Int) + sumFr f (B 0 1) (cntL B L + 1 - B 0 1) = justN B L := by
        unfold justN cge
        have ef : (fun w => restN (lsF (upTo (mgN B L)) 0 (B 9 1)) 30 (B 0 0) w) = f := by
          funext w
          rw [restN_just, hf]
        rw [ef, sumFr_tail (f := f) (c := cntL B L + 1) (fun j hj => by
          rw [hf]; exact restN_len 30 _ _ _ (Or.inl (by rw [List.length_map]; show cntL B L < j; omega))) (9 - B 0 1) (B 0 1), show min (9 - B 0 1) (cntL B L + 1 - B 0 1) = cntL B L + 1 - B 0 1 by omega, Int.zero_add]
      rw [hz] at z
      rw [f_X4_justWays_L6, h.1, ck_pos h0k, h.2.2.2.2.1.1, if_pos (by rw [iI_le (by omega) (by omega)]; omega), h.2.2.1, sq_k]
      exact z
    | succ m ih =>
      intro N p S hp hN h hT
      obtain ⟨N, rfl⟩ : ∃ k, N = k + 1 := ⟨N - 1, by omega⟩
      have hpc : p < cntL B L := by omega
      have hg := (mostG_le hV (atL_lt hpc)).1
      obtain ⟨S1, z1, z2, z3⟩ := E_join (V := fun s k => restN (rvF (fun q => prJ B (atL B L q)) p) 30 s k) (a := prJ B (atL B L p)) (lo := 1) (hi := mostG B (atL B L p)) (SS := B 0 0) (W := cntL B L) (no := true) (S := S) (Nat.le_refl _) (by omega) hg hbar (by omega) (fun g _ _ => by
        unfold prJ
        rw [decide_eq_true_eq]
        constructor
        · intro q
          by_cases g0 : g = 0
          · exact Or.inl ⟨g0, rfl⟩
          · exact Or.inr ⟨by omega, q⟩
        · rintro (q | q)
          · omega
          · exact q.2) hT
      obtain ⟨S2, y1, y2, y3⟩ := ih N (p + 1) S1 (by omega) (by omega) (RE_98 h z3) z2
      refine ⟨S2, ?_, y2, z3.tr y3⟩
      have z1' : f_X4_join 85 1 (iI (mostG B (atL B L p))) 1 (iI (B 0 0)) (iI (cntL B L)) S = some ((), S1) := z1
      rw [f_X4_justWays_L6, h.1, ck_pos h0k, h.2.2.2.2.1.1, if_neg (by rw [iI_le (by omega) (by omega)]; omega), ob_iI (by omega), ck_pos h0k, iI_nat (by omega)]
      dsimp only [Nat.reduceAdd]
      rw [h.2.2.2.2.2 p hpc, h.2.1, bd_ok z1', show iI p + (1 : Int32) = iI (p + 1 : Nat) from iI_add p 1]
      exact y1
  obtain ⟨S1, a1, a2, a3⟩ := E_rclear (S := S)
  obtain ⟨S2, y1, y2, y3⟩ := key6 (cntL B L) FU 0 S1 (by omega) (by unfold FU; omega) (RE_98 h a3) (fun k s hk hs => a2 k s (by omega) (by omega))
  refine ⟨S2, ?_, y2, a3.tr y3⟩
  unfold f_X4_justWays
  rw [bd_ok a1]
  exact y1
theorem sum_above (B : Bd) (L i : Nat) (F : Nat → Nat) (hi : i < B 9 1) : natTo (fun p => if i < atL B L p then F (atL B L p) else 0) (cntL B L) = sumG (fun j => if cmB B L j = true then F j else 0) (i + 1) (B 9 1 - 1 - i) := by
  rw [ord_sum B L (fun j => if i < j then F j else 0), show B 9 1 = (i + 1) + (B 9 1 - 1 - i) by omega, natTo_split, natTo_z (fun j hj => by
    by_cases h : cmB B L j = true
    · rw [if_pos h, if_neg (by omega)]
    · rw [if_neg h]), Nat.zero_add, show (i + 1) + (B 9 1 - 1 - i) - 1 - i = B 9 1 - 1 - i by omega]
  unfold sumG
  refine natTo_cong (fun k _ => ?_)
  dsimp only
  by_cases h : cmB B L (i + 1 + k) = true
  · rw [if_pos h, if_pos h, if_pos (by omega)]
  · rw [if_neg h, if_neg h]
theorem sumG_cong {f g : Nat → Nat} {i r : Nat} (h : ∀ j, i ≤ j → j < i + r → f j = g j) : sumG f i r = sumG g i r := natTo_cong (fun k hk => h _ (by omega) (by omega))
theorem E_lowestGift {S : St} {B : Bd} {L i s l : Nat} {z : Int} (hV : VB B) (hL : L ≤ 30) (h : RE S B L) (hi : i < B 9 1) (hs : s ≤ 100) (hz : -10 ≤ z ∧ z ≤ 10) (hzl : z.toNat = l) (hfe : fea (mgN B L) i (B 9 1 - 1 - i + 1) s l) :
    f_X4_lowestGift 85 (iI i) (iI (mgN B L i)) (iI s) (iI z) S = some (iI (lowI (mgN B L) i (B 9 1 - 1 - i) s l), S) := by
  have hn := cntL_le B L
  have hng : B 9 1 ≤ 8 := hV.2.1.2.2.2
  have h0k : kdE 25 = 0 := kdE_c (Or.inl rfl)
  have hmg := mgN_le (L := L) hV i
  obtain ⟨r, hr⟩ : ∃ r, r = B 9 1 - 1 - i := ⟨_, rfl⟩
  obtain ⟨can, hcan⟩ : ∃ can, can = sumG (mgN B L) (i + 1) r := ⟨_, rfl⟩
  obtain ⟨hands, hhands⟩ : ∃ hands, hands = hndR (mgN B L) (i + 1) r := ⟨_, rfl⟩
  have hcb : can ≤ 30 * r := by rw [hcan]; exact sumG_bd (fun j => mgN_le hV j) r (i + 1)
  have hhb : hands ≤ r := by rw [hhands]; exact hnd_r _ r (i + 1)
  rw [← hr] at hfe ⊢
  have e1 : natTo (fun p => if i < atL B L p then mostG B (atL B L p) else 0) (cntL B L) = can := by
    rw [sum_above B L i (mostG B) hi, hcan, hr]
    exact sumG_cong (fun j h1 h2 => by rw [mgN_e (by omega)]; rfl)
  have e2 : natTo (fun p => if i < atL B L p then o1 (mostG B (atL B L p)) else 0) (cntL B L) = hands := by
    rw [sum_above B L i (fun j => o1 (mostG B j)) hi, hhands, hr]
    unfold hndR
    refine sumG_cong (fun j h1 h2 => ?_)
    rw [mgN_e (by omega)]
    unfold mgB
    by_cases hc : cmB B L j = true
    · rw [if_pos hc, if_pos hc]
    · rw [if_neg hc, if_neg hc]; rfl
  have key72 : ∀ (f N g : Nat), g + f = mgN B L i → f < N → (∃ g0, g ≤ g0 ∧ okG (mgN B L) i r s l g0) → f_X4_lowestGift_L72 N 85 (iI i) (iI (mgN B L i)) (iI s) (iI z) (iI can) (iI hands) (iI g) S = some (iI (lowG (mgN B L) i r s l f g), S) := by
    intro f
    induction f with
    | zero =>
      intro N g hg hN hx
      obtain ⟨N, rfl⟩ : ∃ k, N = k + 1 := ⟨N - 1, by omega⟩
      rw [f_X4_lowestGift_L72, if_pos (by rw [iI_le (by omega) (by omega)]; omega)]
      show some (iI (mgN B L i), S) = some (iI g, S)
      rw [show g = mgN B L i by omega]
    | succ f ih =>
      intro N g hg hN ⟨g0, hg1, hg2⟩
      obtain ⟨N, rfl⟩ : ∃ k, N = k + 1 := ⟨N - 1, by omega⟩
      have hgs : g ≤ s := Nat.le_trans hg1 hg2.2.1
      have e : lowG (mgN B L) i r s l (f + 1) g = if s - g ≤ can ∧ l - o1 g ≤ hands ∧ l - o1 g ≤ s - g then g else lowG (mgN B L) i r s l f (g + 1) := by rw [hcan, hhands]; rfl
      have ho : (g = 0 ∧ o1 g = 0) ∨ (0 < g ∧ o1 g = 1) := by
        unfold o1
        by_cases q : 0 < g
        · exact Or.inr ⟨q, if_pos q⟩
        · exact Or.inl ⟨by omega, if_neg q⟩
      have hj : f_X4_lowestGift_J96 85 (iI i) (iI (mgN B L i)) (iI s) (iI z) (fun l5 l6 l7 S => f_X4_lowestGift_L72 N 85 (iI i) (iI (mgN B L i)) (iI s) (iI z) l5 l6 l7 S) (iI can) (iI hands) (iI g) (iI (s - g : Nat)) (iI z) (iI (o1 g)) S = some (iI (lowG (mgN B L) i r s l (f + 1) g), S) := by
        unfold f_X4_lowestGift_J96
        rw [iI_sub, sq_k, show iI g + (1 : Int32) = iI (g + 1 : Nat) from iI_add g 1, imin_iI (by omega) (by omega), e]
        by_cases hc : s - g ≤ can ∧ l - o1 g ≤ hands ∧ l - o1 g ≤ s - g
        · rw [if_neg (by rw [iI_lt (by omega) (by omega)]; omega), if_neg (by rw [iI_lt (by omega) (by omega)]; omega), if_pos hc]
        · have nx := ih N (g + 1) (by omega) (by omega) ⟨g0, by
            by_cases q : g0 = g
            · have w := hg2.2.2
              rw [q] at w
              unfold fea at w
              rw [← hcan, ← hhands] at w
              exact absurd w hc
            · omega, hg2⟩
          rw [if_neg hc]
          by_cases hc1 : can < s - g
          · rw [if_pos (by rw [iI_lt (by omega) (by omega)]; omega)]; exact nx
          · rw [if_neg (by rw [iI_lt (by omega) (by omega)]; omega), if_pos (by rw [iI_lt (by omega) (by omega)]; omega)]; exact nx
      rw [f_X4_lowestGift_L72, if_neg (by rw [iI_le (by omega) (by omega)]; omega), iI_sub, sq_k, show ((s : Int) - g) = ((s - g : Nat) : Int) by omega]
      rcases ho with ⟨q1, q2⟩ | ⟨q1, q2⟩
      · rw [if_pos (by rw [show (0 : Int32) = iI 0 from rfl, iI_le (by omega) (by omega)]; omega)]
        rw [q2] at hj; exact hj
      · rw [if_neg (by rw [show (0 : Int32) = iI 0 from rfl, iI_le (by omega) (by omega)]; omega)]
        rw [q2] at hj; exact hj
  have key9 : ∀ (m N p : Nat), p + m = cntL B L → m < N → f_X4_lowestGift_L9 N 85 (iI i) (iI (mgN B L i)) (iI s) (iI z) (iI (natTo (fun p => if i < atL B L p then mostG B (atL B L p) else 0) p)) (iI (natTo (fun p => if i < atL B L p then o1 (mostG B (atL B L p)) else 0) p)) (iI p) S = some (iI (lowI (mgN B L) i r s l), S) := by
    intro m
    induction m with
    | zero =>
      intro N p hp hN
      obtain ⟨N, rfl⟩ : ∃ k, N = k + 1 := ⟨N - 1, by omega⟩
      have hpe : p = cntL B L := by omega
      subst hpe
      obtain ⟨g0, hg0⟩ := fea_ex.mp hfe
      have := key72 (mgN B L i) FU 0 (Nat.zero_add _) (by unfold FU; omega) ⟨g0, Nat.zero_le _, hg0⟩
      rw [f_X4_lowestGift_L9, h.1, ck_pos h0k, h.2.2.2.2.1.1, if_pos (by rw [iI_le (by omega) (by omega)]; omega), e1, e2]
      exact this
    | succ m ih =>
      intro N p hp hN
      obtain ⟨N, rfl⟩ : ∃ k, N = k + 1 := ⟨N - 1, by omega⟩
      have hpc : p < cntL B L := by omega
      have hlt := atL_lt hpc
      have hg := (mostG_le hV hlt).1
      have x1 := (h.2.2.2.2.1.2 p hpc).1
      have x2 := h.2.2.2.2.2 p hpc
      have nx := ih N (p + 1) (by omega) (by omega)
      have c1 : natTo (fun p => if i < atL B L p then mostG B (atL B L p) else 0) (p + 1) = natTo (fun p => if i < atL B L p then mostG B (atL B L p) else 0) p + (if i < atL B L p then mostG B (atL B L p) else 0) := rfl
      have c2 : natTo (fun p => if i < atL B L p then o1 (mostG B (atL B L p)) else 0) (p + 1) = natTo (fun p => if i < atL B L p then o1 (mostG B (atL B L p)) else 0) p + (if i < atL B L p then o1 (mostG B (atL B L p)) else 0) := rfl
      rw [c1, c2] at nx
      rw [f_X4_lowestGift_L9, h.1, ck_pos h0k, h.2.2.2.2.1.1, if_neg (by rw [iI_le (by omega) (by omega)]; omega), ck_pos h0k, ob_iI (by omega), iI_nat (by omega), x1]
      dsimp only [Nat.reduceAdd]
      rw [x2, show iI p + (1 : Int32) = iI (p + 1 : Nat) from iI_add p 1]
      by_cases hc : i < atL B L p
      · rw [if_pos hc, if_pos hc] at nx
        rw [if_pos (by rw [iI_lt (by omega) (by omega)]; omega), ob_iI (by omega), iI_add, sq_k, ob_iI (by omega)]
        by_cases hm : 0 < mostG B (atL B L p)
        · have o : o1 (mostG B (atL B L p)) = 1 := if_pos hm
          rw [o] at nx
          rw [if_neg (by rw [show (0 : Int32) = iI 0 from rfl, iI_le (by omega) (by omega)]; omega), show (1 : Int32) = iI 1 from rfl, iI_add]
          exact nx
        · have o : o1 (mostG B (atL B L p)) = 0 := if_neg hm
          rw [o] at nx
          rw [if_pos (by rw [show (0 : Int32) = iI 0 from rfl, iI_le (by omega) (by omega)]; omega)]
          exact nx
      · rw [if_neg hc, if_neg hc] at nx
        rw [if_neg (by rw [iI_lt (by omega) (by omega)]; omega)]
        exact nx
  exact key9 (cntL B L) FU 0 (by omega) (by unfold FU; omega)
theorem idxL_in : ∀ {l : List Nat} {i : Nat}, i ∈ l → idxL l i < l.length ∧ l.getD (idxL l i) 0 = i
  | [], _, h => absurd h List.not_mem_nil
  | a :: t, i, h => by
    unfold idxL
    by_cases ha : a = i
    · rw [if_pos ha]; exact ⟨by rw [List.length_cons]; omega, by rw [List.getD_cons_zero]; exact ha⟩
    · rw [if_neg ha]
      have ht : i ∈ t := by
        rcases List.mem_cons.mp h with z | z
        · exact absurd z.symm ha
        · exact z
      obtain ⟨h1, h2⟩ := idxL_in ht
      exact ⟨by rw [List.length_cons]; omega, by rw [List.getD_cons_succ]; exact h2⟩
theorem plS_in {l : List Nat} {i : Nat} (h : i ∈ l) : ∃ p : Nat, p < l.length ∧ plS l i = p ∧ l.getD p 0 = i := by
  obtain ⟨h1, h2⟩ := idxL_in h
  exact ⟨idxL l i, h1, by unfold plS; rw [if_pos h1], h2⟩
theorem plS_out {l : List Nat} {i : Nat} (h : ¬ i ∈ l) : plS l i = -4 := plS_no (fun q hq z => h (by rw [← z]; exact getD_mem hq))
theorem E_firstGift {S : St} {B : Bd} {L i : Nat} (hV : VB B) (hL : L ≤ 30) (h : RE S B L) (hi : i < B 9 1) (hci : cmB B L i = true) (hfe : fea (mgN B L) 0 (B 9 1) (B 0 0) (B 0 1)) :
    f_X4_firstGift 85 (iI i) S = some (iI (jsG (mgN B L) (B 9 1) (B 0 0) (B 0 1) i), S) := by
  have hn := cntL_le B L
  have hng : B 9 1 ≤ 8 := hV.2.1.2.2.2
  have hbar : B 0 0 ≤ 60 := hV.1.2.1
  have hneed : B 0 1 ≤ 8 := hV.1.2.2.1
  have h0k : kdE 25 = 0 := kdE_c (Or.inl rfl)
  have hC := h.2.2.2.2.1
  have key : ∀ (m N j : Nat) (z : Int), j + m = i → m < N → z.toNat = (jst (mgN B L) (B 9 1) (B 0 0) (B 0 1) j).2 → -(j : Int) ≤ z → z ≤ 8 → f_X4_firstGift_L13 N 85 (iI i) (iI (jst (mgN B L) (B 9 1) (B 0 0) (B 0 1) j).1) (iI z) (iI j) S = some (iI (jsG (mgN B L) (B 9 1) (B 0 0) (B 0 1) i), S) := by
    intro m
    induction m with
    | zero =>
      intro N j z hj hN hz hz1 hz2
      obtain ⟨N, rfl⟩ : ∃ k, N = k + 1 := ⟨N - 1, by omega⟩
      have hje : j = i := by omega
      subst hje
      obtain ⟨g1, g2, g3⟩ := jst_fea hfe j (by omega)
      obtain ⟨p, hp, hpl, hat⟩ := plS_in ((cmB_iff hi).mp hci)
      have hpc : p < cntL B L := hp
      have hat' : atL B L p = j := hat
      have x2 := h.2.2.2.2.2 p hpc
      rw [hat'] at x2
      have hmg : mgN B L j = mostG B j := by rw [mgN_e hi]; exact if_pos hci
      have hlow := E_lowestGift (s := (jst (mgN B L) (B 9 1) (B 0 0) (B 0 1) j).1) (z := z) hV hL h hi (by omega) (by omega) hz (by rw [show B 9 1 - 1 - j + 1 = B 9 1 - j by omega]; exact g1)
      have hpl1 : f_X0_placeOf 25 (iI j) S = some (iI p, S) := by
        have := E_place (c := 25) (i := j) (l := ordL B L) (S := S) (by show cntL B L ≤ 8; omega) (fun q hq => by have := atL_lt (B := B) (L := L) (p := q) hq; show atL B L q < 100; omega) (by omega) hC.1 (fun q hq => (hC.2 q hq).1)
        rw [hpl] at this; exact this
      rw [f_X4_firstGift_L13, if_neg (by rw [iI_lt (by omega) (by omega)]; omega), show (8 : Int32) = iI 8 from rfl, if_neg (by rw [iI_le (by omega) (by omega)]; omega), h.1, ck_pos h0k, bd_ok hpl1, iI_n4, if_neg (by rw [iI_eq (by omega) (by omega)]; omega), ob_iI (by omega), iI_nat (by omega)]
      dsimp only [Nat.reduceAdd]
      rw [x2, ← hmg, bd_ok hlow, if_pos rfl]
      rfl
    | succ m ih =>
      intro N j z hj hN hz hz1 hz2
      obtain ⟨N, rfl⟩ : ∃ k, N = k + 1 := ⟨N - 1, by omega⟩
      have hjn : j < B 9 1 := by omega
      obtain ⟨g1, g2, g3⟩ := jst_fea hfe j (by omega)
      have e0 : iI j + (1 : Int32) = iI (j + 1 : Nat) := iI_add j 1
      obtain ⟨ok1, ok2⟩ := jsG_ok hfe hjn
      have hjs := jst_s (mgN B L) (B 9 1) (B 0 0) (B 0 1) j
      have hpl0 := E_place (c := 25) (i := j) (l := ordL B L) (S := S) (by show cntL B L ≤ 8; omega) (fun q hq => by have := atL_lt (B := B) (L := L) (p := q) hq; show atL B L q < 100; omega) (by omega) hC.1 (fun q hq => (hC.2 q hq).1)
      rw [f_X4_firstGift_L13, if_neg (by rw [iI_lt (by omega) (by omega)]; omega), show (8 : Int32) = iI 8 from rfl, if_neg (by rw [iI_le (by omega) (by omega)]; omega), h.1, ck_pos h0k, bd_ok hpl0, iI_n4, e0]
      by_cases hcj : cmB B L j = true
      · obtain ⟨p, hp, hpl, hat⟩ := plS_in ((cmB_iff hjn).mp hcj)
        have hpc : p < cntL B L := hp
        have hat' : atL B L p = j := hat
        have x2 := h.2.2.2.2.2 p hpc
        rw [hat'] at x2
        have hmg : mgN B L j = mostG B j := by rw [mgN_e hjn]; exact if_pos hcj
        have hlow := E_lowestGift (s := (jst (mgN B L) (B 9 1) (B 0 0) (B 0 1) j).1) (z := z) hV hL h hjn (by omega) (by omega) hz (by rw [show B 9 1 - 1 - j + 1 = B 9 1 - j by omega]; exact g1)
        have hlow' : f_X4_lowestGift 85 (iI j) (iI (mgN B L j)) (iI (jst (mgN B L) (B 9 1) (B 0 0) (B 0 1) j).1) (iI z) S = some (iI (jsG (mgN B L) (B 9 1) (B 0 0) (B 0 1) j), S) := hlow
        have hgs := ok1.2.1
        have hgm := ok1.1
        have hm30 := mgN_le (L := L) hV j
        rw [hpl, if_neg (by rw [iI_eq (by omega) (by omega)]; omega), ob_iI (by omega), iI_nat (by omega)]
        dsimp only [Nat.reduceAdd]
        rw [x2, ← hmg, bd_ok hlow', if_neg (by rw [iI_eq (by omega) (by omega)]; omega), iI_sub, sq_k, show (((jst (mgN B L) (B 9 1) (B 0 0) (B 0 1) j).1 : Int) - (jsG (mgN B L) (B 9 1) (B 0 0) (B 0 1) j : Int)) = (((jst (mgN B L) (B 9 1) (B 0 0) (B 0 1) j).1 - jsG (mgN B L) (B 9 1) (B 0 0) (B 0 1) j : Nat) : Int) by omega]
        by_cases hg0 : 0 < jsG (mgN B L) (B 9 1) (B 0 0) (B 0 1) j
        · have ho : o1 (jsG (mgN B L) (B 9 1) (B 0 0) (B 0 1) j) = 1 := if_pos hg0
          rw [ho] at hjs
          have nx := ih N (j + 1) (z - 1) (by omega) (by omega) (by rw [hjs]; dsimp only; omega) (by omega) (by omega)
          rw [hjs] at nx
          rw [if_neg (by rw [show (0 : Int32) = iI 0 from rfl, iI_le (by omega) (by omega)]; omega), iI_n1, iI_add, show z + -1 = z - 1 by omega]
          exact nx
        · have ho : o1 (jsG (mgN B L) (B 9 1) (B 0 0) (B 0 1) j) = 0 := if_neg hg0
          rw [ho] at hjs
          have nx := ih N (j + 1) z (by omega) (by omega) (by rw [hjs]; dsimp only; omega) (by omega) (by omega)
          rw [hjs] at nx
          rw [if_pos (by rw [show (0 : Int32) = iI 0 from rfl, iI_le (by omega) (by omega)]; omega)]
          exact nx
      · rw [plS_out (fun q => hcj ((cmB_iff hjn).mpr q)), if_pos rfl]
        have hmg : mgN B L j = 0 := by rw [mgN_e hjn]; exact if_neg hcj
        have hg0 : jsG (mgN B L) (B 9 1) (B 0 0) (B 0 1) j = 0 := by have := ok1.1; omega
        rw [hg0] at hjs
        have hjs' : jst (mgN B L) (B 9 1) (B 0 0) (B 0 1) (j + 1) = ((jst (mgN B L) (B 9 1) (B 0 0) (B 0 1) j).1, (jst (mgN B L) (B 9 1) (B 0 0) (B 0 1) j).2) := hjs
        have nx := ih N (j + 1) z (by omega) (by omega) (by rw [hjs']; exact hz) (by omega) (by omega)
        rw [hjs'] at nx
        exact nx
  have z := key i FU 0 (B 0 1) (by omega) (by unfold FU; omega) rfl (by omega) (by omega)
  unfold f_X4_firstGift
  rw [h.2.1, h.2.2.1, sq_k, sq_k]
  exact z
