theorem i7k (k a i b : Nat) : ((7 : Int32) * iI k + (iI a)) + ((iI b) * iI i) = iI (7 * k + a + b * i : Nat) := by
  rw [show (7 : Int32) = iI 7 from rfl, iI_mul, iI_mul, iI_add, iI_add]; congr 1
theorem i7 (k : Nat) : (7 : Int32) * iI k = iI (7 * k : Nat) := by
  rw [show (7 : Int32) = iI 7 from rfl, iI_mul]; congr 1
theorem iI_s (k : Nat) : iI (k : Int) + (1 : Int32) = iI (k + 1 : Nat) := iI_add k 1
theorem iI_s2 (k : Nat) : (1 : Int32) + iI (k : Int) = iI (1 + k : Nat) := by rw [show (1 : Int32) = iI 1 from rfl, iI_add]; congr 1
/-- one worth -/
theorem J711_ok {S0 : St} {xs : Nat → Int32} {Ln sorts k g d len i left t w : Nat} {v : Int32} {bs : List Nat} {D : Bd} (kb395 : Int32 → Int32 → Int32 → St → (Nat → Int32) → (Nat → Int32) → Option RB) (kb648 : Int32 → Int32 → Int32 → Int32 → Int32 → Int32 → St → (Nat → Int32) → (Nat → Int32) → Option RB) (h : BJ bs D k g d len i left) (hk : k ≤ 2) (hi : i < 3) (hlen : len + 21 ≤ 300) (h2 : 1 ≤ t ∧ t ≤ left) (hl10 : left ≤ 10) :
    ∃ bs2 D2, BJ bs2 D2 k g d (len + 13) (i + 1) (left - t) ∧ ∀ B W : Nat → Int32, W (7 * k) = iI w → ∃ W2 : Nat → Int32, W2 (7 * k) = iI w ∧ f_L_board_J711 0 xs Ln 0 kb395 kb648 1 (iI sorts) (iI k) v (iI left) (iI i) (iI t) (txt S0 bs) B W = kb648 1 (iI sorts) (iI k) v (iI (left - t : Nat)) (iI (i + 1 : Nat)) (txt S0 bs2) B W2 := by
  have hw : smN (v >>> (((10 : Int32) + ((6 : Int32) * iI i)) &&& 31)) 31 ≤ 30 := by
    have := smN_lt (v := v >>> (((10 : Int32) + ((6 : Int32) * iI i)) &&& 31)) (n := 31) (by decide)
    omega
  obtain ⟨worth, hworth⟩ : ∃ z, z = smN (v >>> (((10 : Int32) + ((6 : Int32) * iI i)) &&& 31)) 31 := ⟨_, rfl⟩
  rw [← hworth] at hw
  obtain ⟨bs2, D2, q1, q2⟩ := bj_w (S0 := S0) h (by omega) hi hlen hw h2 rfl rfl rfl
  refine ⟨bs2, D2, q2, fun B W hW => ⟨fset (fset W (7 * k + 1 + 2 * i) (iI worth)) (7 * k + 2 + 2 * i) (iI t), ?_, ?_⟩⟩
  · rw [fset_ne _ _ (by omega), fset_ne _ _ (by omega)]; exact hW
  · unfold f_L_board_J711
    rw [sq_k, show iI (left : Int) - iI (t : Int) = iI (left - t : Nat) by rw [iI_sub]; congr 1; omega, show (31 : Int32) = iI (31 : Nat) from rfl, bx_ok (some_ok (by decide) _), ← show (31 : Int32) = iI (31 : Nat) from rfl, ← hworth]
    rw [show (((7 : Int32) * iI k) + (1 : Int32)) + ((2 : Int32) * iI i) = iI (7 * k + 1 + 2 * i : Nat) from i7k k 1 i 2, show (((7 : Int32) * iI k) + (2 : Int32)) + ((2 : Int32) * iI i) = iI (7 * k + 2 + 2 * i : Nat) from i7k k 2 i 2]
    rw [ob_iI (by omega), iI_nat (by omega), sq_k, ob_iI (by omega), iI_nat (by omega), sq_k, if_neg (by decide), ob_iI (by omega), fset_ne _ _ (by omega), fset_eq, bx_ok q1, if_neg (by decide), iI_s]
/-- the worths of a sort -/
theorem L648_ok {S0 : St} {xs : Nat → Int32} {Ln sorts k g d len w : Nat} {v : Int32} {kb : Int32 → Int32 → Int32 → St → (Nat → Int32) → (Nat → Int32) → Option RB} (hk : k ≤ 2) (hw : 1 ≤ w ∧ w ≤ 3) (hlen : len + 60 ≤ 300)
    (hkb : ∀ bs D, BI bs D (k + 1) g d (len + 39) → GG (fun B W => kb 1 (iI sorts) (iI (k + 1 : Nat)) (txt S0 bs) B W) (fun B _ => B 0 = iI g ∧ B 3 = iI d) d) :
    ∀ (m N i left : Nat) (bs : List Nat) (D : Bd), i + m = w → m < N → BJ bs D k g d (len + 13 * i) i left → m ≤ left → (m = 0 → left = 0) → GG (fun B W => f_L_board_L648 N 0 xs Ln 0 kb 1 (iI sorts) (iI k) v (iI left) (iI i) (txt S0 bs) B W) (fun B W => (B 0 = iI g ∧ B 3 = iI d) ∧ W (7 * k) = iI w) d := by
  intro m
  induction m with
  | zero =>
    intro N i left bs D hi hN hJ h1 h2
    obtain ⟨N, rfl⟩ : ∃ k, N = k + 1 := ⟨N - 1, by omega⟩
    have hl0 := h2 rfl
    subst hl0
    have hB := BJ_end hJ (by omega)
    refine GG_step (fun B W hBW => ⟨B, W, hBW.1, ?_⟩) (hkb bs D ⟨hB.1, by have := hB.2.1; omega, hB.2.2⟩)
    rw [f_L_board_L648, i7, ob_iI (by omega), iI_nat (by omega), hBW.2, if_pos (by rw [iI_le (by omega) (by omega)]; omega), iI_s]
  | succ m ih =>
    intro N i left bs D hi hN hJ h1 h2
    obtain ⟨N, rfl⟩ : ∃ k, N = k + 1 := ⟨N - 1, by omega⟩
    have hl10 : left ≤ 10 := by have := hJ.2.2.2.2.2.2.2; omega
    have pre : ∀ B W : Nat → Int32, W (7 * k) = iI w → f_L_board_L648 (N + 1) 0 xs Ln 0 kb 1 (iI sorts) (iI k) v (iI left) (iI i) (txt S0 bs) B W = (if iI (i : Int) = iI (w : Int) - (1 : Int32) then f_L_board_J711 0 xs Ln 0 kb (fun l7 l8 l9 l11 l18 l19 S B W => f_L_board_L648 N 0 xs Ln 0 kb l7 l8 l9 l11 l18 l19 S B W) 1 (iI sorts) (iI k) v (iI left) (iI i) (iI left) (txt S0 bs) B W else bx (f_L_some (v >>> (((2 : Int32) + ((3 : Int32) * iI i)) &&& 31)) (((iI left - iI w) + iI i) + (1 : Int32)) (txt S0 bs)) fun x20 S21 => f_L_board_J711 0 xs Ln 0 kb (fun l7 l8 l9 l11 l18 l19 S B W => f_L_board_L648 N 0 xs Ln 0 kb l7 l8 l9 l11 l18 l19 S B W) 1 (iI sorts) (iI k) v (iI left) (iI i) ((1 : Int32) + x20) S21 B W) := by
      intro B W hW
      rw [f_L_board_L648, i7, ob_iI (by omega), iI_nat (by omega), hW, if_neg (by rw [iI_le (by omega) (by omega)]; omega), ob_iI (by omega), ob_iI (by omega)]
    by_cases hm : m = 0
    · obtain ⟨bs2, D2, q1, q2⟩ := J711_ok (S0 := S0) (xs := xs) (Ln := Ln) (sorts := sorts) (v := v) (w := w) (t := left) kb (fun l7 l8 l9 l11 l18 l19 S B W => f_L_board_L648 N 0 xs Ln 0 kb l7 l8 l9 l11 l18 l19 S B W) hJ hk (by omega) (by omega) ⟨by omega, Nat.le_refl _⟩ hl10
      refine GG_step (fun B W hBW => ?_) (ih N (i + 1) (left - left) bs2 D2 (by omega) (by omega) (by rw [show len + 13 * (i + 1) = len + 13 * i + 13 by omega]; exact q1) (by omega) (fun _ => Nat.sub_self _))
      obtain ⟨W2, k1, k2⟩ := q2 B W hBW.2
      refine ⟨B, W2, ⟨hBW.1, k1⟩, ?_⟩
      rw [pre B W hBW.2, if_pos (by rw [show (1 : Int32) = iI 1 from rfl, iI_sub, iI_eq (by omega) (by omega)]; omega)]
      exact k2
    · have hs := smN_lt (v := v >>> (((2 : Int32) + ((3 : Int32) * iI i)) &&& 31)) (n := left - m) (by omega)
      obtain ⟨x, hx⟩ : ∃ z, z = smN (v >>> (((2 : Int32) + ((3 : Int32) * iI i)) &&& 31)) (left - m) := ⟨_, rfl⟩
      rw [← hx] at hs
      obtain ⟨bs2, D2, q1, q2⟩ := J711_ok (S0 := S0) (xs := xs) (Ln := Ln) (sorts := sorts) (v := v) (w := w) (t := 1 + x) kb (fun l7 l8 l9 l11 l18 l19 S B W => f_L_board_L648 N 0 xs Ln 0 kb l7 l8 l9 l11 l18 l19 S B W) hJ hk (by omega) (by omega) ⟨by omega, by omega⟩ hl10
      refine GG_step (fun B W hBW => ?_) (ih N (i + 1) (left - (1 + x)) bs2 D2 (by omega) (by omega) (by rw [show len + 13 * (i + 1) = len + 13 * i + 13 by omega]; exact q1) (by omega) (fun h => absurd h hm))
      obtain ⟨W2, k1, k2⟩ := q2 B W hBW.2
      refine ⟨B, W2, ⟨hBW.1, k1⟩, ?_⟩
      rw [pre B W hBW.2, if_neg (by rw [show (1 : Int32) = iI 1 from rfl, iI_sub, iI_eq (by omega) (by omega)]; omega), show ((iI (left : Int) - iI (w : Int)) + iI (i : Int)) + (1 : Int32) = iI (left - m : Nat) by rw [show (1 : Int32) = iI 1 from rfl, iI_sub, iI_add, iI_add]; congr 1; omega, bx_ok (some_ok (by omega) _), ← hx, iI_s2]
      exact k2
/-- the givers of a sort -/
theorem L549_ok {S0 : St} {xs : Nat → Int32} {Ln sorts k g d len many : Nat} {v a13 a14 a15 a16 a17 : Int32} {kb : Int32 → Int32 → Int32 → St → (Nat → Int32) → (Nat → Int32) → Option RB} {bs : List Nat} {D : Bd} (hk : k ≤ 2) (hg : g + many ≤ 6) (hlen : len + 60 ≤ 300) (hd : d ≤ 30)
    (hkb : ∀ bs D, BI bs D (k + 1) (g + many) d (len + 39) → GG (fun B W => kb 1 (iI sorts) (iI (k + 1 : Nat)) (txt S0 bs) B W) (fun B _ => B 0 = iI (g + many : Nat) ∧ B 3 = iI d) d) (hJ : BJ bs D k (g + many) d len 0 10) :
    ∀ (m N i : Nat), i + m = many → m < N → GG (fun B W => f_L_board_L549 N 0 xs Ln 0 kb 1 (iI sorts) (iI k) v (iI many) a13 a14 a15 a16 a17 (iI i) (txt S0 bs) B W) (fun B _ => B 0 = iI (g + i : Nat) ∧ B 3 = iI d) d := by
  intro m
  induction m with
  | zero =>
    intro N i hi hN
    obtain ⟨N, rfl⟩ : ∃ k, N = k + 1 := ⟨N - 1, by omega⟩
    have hs := smN_lt (v := v) (n := 3) (by decide)
    have e : i = many := by omega
    subst e
    refine GG_step (fun B W hB => ⟨B, fset W (7 * k) (iI (1 + smN v 3 : Nat)), ⟨hB, fset_eq _ _ _⟩, ?_⟩) (L648_ok (xs := xs) (Ln := Ln) (sorts := sorts) (v := v) (w := 1 + smN v 3) (kb := kb) hk ⟨by omega, by omega⟩ hlen hkb (1 + smN v 3) FU 0 10 bs D (by omega) (by unfold FU; omega) hJ (by omega) (fun h => absurd h (by omega)))
    rw [f_L_board_L549, if_pos (by rw [iI_le (by omega) (by omega)]; omega), show (3 : Int32) = iI (3 : Nat) from rfl, bx_ok (some_ok (by decide) _), i7, ob_iI (by omega), iI_nat (by omega), iI_s2, sq_k]
    rfl
  | succ m ih =>
    intro N i hi hN
    obtain ⟨N, rfl⟩ : ∃ k, N = k + 1 := ⟨N - 1, by omega⟩
    have ix : ∀ a : Nat, a ≤ 35 → (iI a + iI (g + i : Nat)) = iI (a + (g + i) : Nat) := fun a ha => by rw [iI_add]; congr 1
    have ob41 : ∀ (a : Nat), a ≤ 35 → ∀ k : Option RB, ob (iI (a + (g + i) : Nat)) 41 k = k := fun a ha k => ob_iI (by omega)
    have nt : ∀ a : Nat, a ≤ 35 → Int32.toNatClampNeg (iI (a + (g + i) : Nat)) = a + (g + i) := fun a ha => iI_nat (by omega)
    refine GG_step (fun B W hB => ⟨fset (fset (fset (fset (fset (fset B (11 + (g + i)) (iI k)) (17 + (g + i)) a13) (23 + (g + i)) a14) (29 + (g + i)) (a15 + (iI i * a16))) (35 + (g + i)) a17) 0 (iI (g + (i + 1) : Nat)), W, ⟨fset_eq _ _ _, ?_⟩, ?_⟩) (ih N (i + 1) (by omega) (by omega))
    · rw [f_L_board_L549, if_neg (by rw [iI_le (by omega) (by omega)]; omega), cl0]
      rw [hB.1, show (11 : Int32) = iI (11 : Nat) from rfl, ix 11 (by omega), ob41 11 (by omega), nt 11 (by omega), sq_k]
      rw [fset_ne _ _ (by omega), hB.1, show (17 : Int32) = iI (17 : Nat) from rfl, ix 17 (by omega), ob41 17 (by omega), nt 17 (by omega), sq_k]
      rw [fset_ne _ _ (by omega), fset_ne _ _ (by omega), hB.1, show (23 : Int32) = iI (23 : Nat) from rfl, ix 23 (by omega), ob41 23 (by omega), nt 23 (by omega), sq_k]
      rw [fset_ne _ _ (by omega), fset_ne _ _ (by omega), fset_ne _ _ (by omega), hB.1, show (29 : Int32) = iI (29 : Nat) from rfl, ix 29 (by omega), ob41 29 (by omega), nt 29 (by omega), sq_k]
      rw [fset_ne _ _ (by omega), fset_ne _ _ (by omega), fset_ne _ _ (by omega), fset_ne _ _ (by omega), hB.1, show (35 : Int32) = iI (35 : Nat) from rfl, ix 35 (by omega), ob41 35 (by omega), nt 35 (by omega), sq_k]
      rw [fset_ne _ _ (by omega), fset_ne _ _ (by omega), fset_ne _ _ (by omega), fset_ne _ _ (by omega), fset_ne _ _ (by omega), hB.1, sq_k, iI_s, iI_s]
      rfl
    · rw [fset_ne _ _ (by omega), fset_ne _ _ (by omega), fset_ne _ _ (by omega), fset_ne _ _ (by omega), fset_ne _ _ (by omega), fset_ne _ _ (by omega)]
      exact hB.2
/-- the sorts, and the end -/
theorem L395_ok {S0 : St} {T : Tst} {xs : Nat → Int32} {Ln sorts d : Nat} (hV : VT T) (hE : IE S0 T) (hLn : Ln < 2147483648) (hs : 1 ≤ sorts ∧ sorts ≤ 3) (hd : d ≤ 30) : ∀ (m N k g : Nat) (bs : List Nat) (D : Bd), k + m = sorts → m < N → BI bs D k g d (47 + 69 * k) → g ≤ 2 * k → GG (fun B W => f_L_board_L395 N 0 xs Ln 0 1 (iI sorts) (iI k) (txt S0 bs) B W) (fun B _ => B 0 = iI g ∧ B 3 = iI d) d := by
  intro m
  induction m with
  | zero =>
    intro N k g bs D hk hN hI hg
    obtain ⟨N, rfl⟩ : ∃ k, N = k + 1 := ⟨N - 1, by omega⟩
    obtain ⟨p1, p2, p3, p4, p5, p6⟩ := hI
    have hw : whB D = true := (allFr_iff _ _ _).mpr (fun s _ hs2 => decide_eq_true (p6 s (by omega)).2)
    obtain ⟨S2, S9, z1, z2, z3⟩ := fault_end hV hE (by omega) p1 hw (by omega)
    rw [p5] at z2
    rw [p5, p3] at z3
    refine ⟨g, S9, z3, fun B W hB => ⟨B, W, ?_, hB⟩⟩
    dsimp only
    rw [f_L_board_L395, if_pos (by rw [iI_le (by omega) (by omega)]; omega), if_neg (by decide), bx_ok z1, if_pos rfl, bx_ok z2, cl0, hB.1, if_pos rfl, ck_pos (by decide)]
  | succ m ih =>
    intro N k g bs D hk hN hI hg
    obtain ⟨N, rfl⟩ : ∃ k, N = k + 1 := ⟨N - 1, by omega⟩
    have c2 : (0 : Int32) + (2 : Int32) + ((2 : Int32) * iI k) = iI (2 + 2 * k : Nat) := by
      rw [show (0 : Int32) = iI 0 from rfl, show (2 : Int32) = iI 2 from rfl, iI_mul, iI_add, iI_add]; congr 1
    have c3 : (0 : Int32) + (3 : Int32) + ((2 : Int32) * iI k) = iI (3 + 2 * k : Nat) := by
      rw [show (0 : Int32) = iI 0 from rfl, show (3 : Int32) = iI 3 from rfl, show (2 : Int32) = iI 2 from rfl, iI_mul, iI_add, iI_add]; congr 1
    have cp : ∀ a : Nat, a ≤ 1000 → (0 : Int32) ≤ iI a := fun a ha => by rw [show (0 : Int32) = iI 0 from rfl, iI_le (by omega) (by omega)]; omega
    obtain ⟨z, hz⟩ : ∃ z, z = cellF xs Ln (iI (2 + 2 * k : Nat)) := ⟨_, rfl⟩
    obtain ⟨v, hv⟩ : ∃ v, v = cellF xs Ln (iI (3 + 2 * k : Nat)) := ⟨_, rfl⟩
    have s1 := smN_lt (v := z) (n := 2) (by decide)
    have s2 := smN_lt (v := z >>> ((1 : Int32) &&& 31)) (n := 6) (by decide)
    have s3 := smN_lt (v := z >>> ((4 : Int32) &&& 31)) (n := 31) (by decide)
    have s4 := smN_lt (v := z >>> ((9 : Int32) &&& 31)) (n := 12) (by decide)
    have s5 := smN_lt (v := z >>> ((13 : Int32) &&& 31)) (n := 5) (by decide)
    have s6 := smN_lt (v := z >>> ((16 : Int32) &&& 31)) (n := 30) (by decide)
    obtain ⟨bs2, D2, q1, q2⟩ := bj_g (S0 := S0) (many := 1 + smN z 2) (kind := smN (z >>> ((1 : Int32) &&& 31)) 6) (purse := smN (z >>> ((4 : Int32) &&& 31)) 31) (day := smN (z >>> ((9 : Int32) &&& 31)) 12) (gap := smN (z >>> ((13 : Int32) &&& 31)) 5) hI (by omega) (by omega) (by omega) (by omega) ⟨by omega, by omega, by omega, by omega⟩ rfl rfl rfl rfl rfl
    obtain ⟨bs3, D3, q3, q4⟩ := bj_t (S0 := S0) (tells := smN (z >>> ((16 : Int32) &&& 31)) 30) q2 (by omega) (by omega) (by omega) rfl rfl
    refine GG_step (fun B W hB => ⟨B, W, ?_, ?_⟩) (L549_ok (S0 := S0) (xs := xs) (Ln := Ln) (sorts := sorts) (k := k) (g := g) (d := d) (many := 1 + smN z 2) (v := v) (a13 := iI (smN (z >>> ((1 : Int32) &&& 31)) 6)) (a14 := iI (smN (z >>> ((4 : Int32) &&& 31)) 31)) (a15 := iI (smN (z >>> ((9 : Int32) &&& 31)) 12)) (a16 := iI (smN (z >>> ((13 : Int32) &&& 31)) 5)) (a17 := iI (smN (z >>> ((16 : Int32) &&& 31)) 30)) (kb := fun l7 l8 l9 S B W => f_L_board_L395 N 0 xs Ln 0 l7 l8 l9 S B W) (by omega) (by omega) (by omega) hd (fun bs4 D4 hI4 => ih N (k + 1) (g + (1 + smN z 2)) bs4 D4 (by omega) (by omega) (by rw [show 47 + 69 * (k + 1) = 47 + 69 * k + 21 + 9 + 39 by omega]; exact hI4) (by omega)) q4 (1 + smN z 2) FU 0 (by omega) (by unfold FU; omega))
    · exact hB
    · rw [f_L_board_L395, if_neg (by rw [iI_le (by omega) (by omega)]; omega), c2, c3, ck_pos ⟨cp _ (by omega), hLn⟩, sq_k, ck_pos ⟨cp _ (by omega), hLn⟩, sq_k, ← hz, ← hv]
      rw [show (2 : Int32) = iI (2 : Nat) from rfl, show (6 : Int32) = iI (6 : Nat) from rfl, show (31 : Int32) = iI (31 : Nat) from rfl, show (12 : Int32) = iI (12 : Nat) from rfl, show (5 : Int32) = iI (5 : Nat) from rfl, show (30 : Int32) = iI (30 : Nat) from rfl] at *
      rw [bx_ok (some_ok (by decide) _), iI_s2, sq_k, bx_ok (some_ok (by decide) _), bx_ok (some_ok (by decide) _), bx_ok (some_ok (by decide) _), bx_ok (some_ok (by decide) _), bx_ok (some_ok (by decide) _), if_neg (by decide), bx_ok q1, if_neg (by decide), bx_ok q3, if_neg (by decide)]
      rfl
