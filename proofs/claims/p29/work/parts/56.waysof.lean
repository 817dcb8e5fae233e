theorem M_take {B : Bd} {L bar e sh rq R : Nat} {D : Int} {v : Nat → Nat} (hV : VB B) (hL : L ≤ 30) (hsh : sh ≤ 2) (hbar : bar ≤ 60) (he : e ≤ 9) (hR : R ≤ 99) (hrq : RQ B L rq D) (hv : ∀ j, j < cntL B L → v j < wayM B L j) : ∀ (m N p : Nat) (S : St), p + m = cntL B L → m < N → WM S B L bar e sh R D v → (∀ q, q < p → S.1 122 (atL B L q) = iI (wayW B L v q)) →
    ∃ S2 : St, f_X10_takeWay_L4 N 103 (lI (prodTo (wayC B L v) p : Nat)) (iI p) S = some (lI (wayP B L v), S2) ∧ WM S2 B L bar e sh R D v ∧ MP S2 B L bar e sh rq R (wayW B L v) (cntL B L) ∧ S2.1 103 32 = iI (endS B L bar e sh rq R (wayW B L v)).1 ∧ Fr PWm S S2 := by
  have hn := cntL_le B L
  have hng : B 9 1 ≤ 8 := hV.2.1.2.2.2
  intro m
  induction m with
  | zero =>
    intro N p S hp hN hE hq
    obtain ⟨N, rfl⟩ : ∃ k, N = k + 1 := ⟨N - 1, by omega⟩
    have : p = cntL B L := by omega
    subst this
    obtain ⟨S2, e1, e2, e3, e4⟩ := M_goAll (w := wayW B L v) hV hL hsh hbar he hR hrq (fun p hp => by have := (way_facts hV hL hp (hv p hp)).1; omega) hE.1 hq
    have f2 : Fr PWm S S2 := e2.wk (fun a k h => by unfold PGo at h; unfold PWm; omega)
    refine ⟨S2, ?_, ⟨MG_wm hE.1 f2, fun j hj => by rw [e2.1 125 j (by unfold PGo; omega)]; exact hE.2 j hj⟩, e3, e4, f2⟩
    have ho : S.1 103 27 = iI (cntL B L) := hE.1.2.1.1
    rw [f_X10_takeWay_L4, ho, if_pos (by rw [iI_le (by omega) (by omega)]; omega), bd_ok e1]
    rfl
  | succ m ih =>
    intro N p S hp hN hE hq
    obtain ⟨N, rfl⟩ : ∃ k, N = k + 1 := ⟨N - 1, by omega⟩
    have hpc : p < cntL B L := by omega
    obtain ⟨f1, f2, f3, f4, f5, f6, f7, f8, f9, f10, f11⟩ := at_facts hV hL hpc
    obtain ⟨w1, w2, w3, w4, w5⟩ := way_facts hV hL hpc (hv p hpc)
    have ho : S.1 103 27 = iI (cntL B L) := hE.1.2.1.1
    have hok : S.1 121 p = iI (atL B L p) := hE.1.2.1.2 p hpc
    have hsk : S.1 116 (atL B L p) = iI (soL B L p) := (hE.1.1.2.2.2.2 _ f1).1
    obtain ⟨b5, b6⟩ := (hE.1.1.2.2.2.1 _ f4).2.2.2.2 (v p) (hv p hpc)
    have b5' : S.1 114 (3 * soL B L p + v p) = iI (wayW B L v p) := b5
    have b6' : S.1 115 (3 * soL B L p + v p) = iI (wayC B L v p) := b6
    obtain ⟨S12, hS12⟩ : ∃ S12, S12 = pI S 122 (atL B L p) (iI (wayW B L v p)) := ⟨_, rfl⟩
    have g1 : Fr PWm S S12 := by rw [hS12]; exact Fr.pI (Or.inr (Nat.le_refl _))
    have q1 : prodTo (wayC B L v) p * wayC B L v p = prodTo (wayC B L v) (p + 1) := rfl
    obtain ⟨S2, e1, e2, e3, e4, e5⟩ := ih N (p + 1) S12 (by omega) (by omega) ⟨MG_wm hE.1 g1, fun j hj => by rw [hS12, pI_row (by omega)]; exact hE.2 j hj⟩ (fun q hqp => by
      rw [hS12, pI_1]
      by_cases hc : q = p
      · subst hc; rw [if_pos ⟨rfl, rfl⟩]
      · rw [if_neg (fun z => hc (atL_inj (by omega) (by omega) z.2))]; exact hq q (by omega))
    refine ⟨S2, ?_, e2, e3, e4, g1.tr e5⟩
    rw [f_X10_takeWay_L4, ho, if_neg (by rw [iI_le (by omega) (by omega)]; omega), ob_iI (by omega), iI_nat (by omega), show (103 : Nat) + 18 = 121 from rfl, show (103 : Nat) + 22 = 125 from rfl, show (103 : Nat) + 13 = 116 from rfl, show (103 : Nat) + 19 = 122 from rfl, show (103 : Nat) + 11 = 114 from rfl, show (103 : Nat) + 12 = 115 from rfl, hok, ob_iI (by omega), iI_nat (by omega), hsk, hE.2 p hpc, i3k, ob_iI (by omega), sq_k, ob_iI (by omega), ob_iI (by omega), ob_iI (by omega), iI_nat (by omega), b5', ← hS12, sq_k, ob_iI (by omega), show S12.1 115 = S.1 115 by rw [hS12, pI_row (by omega)], b6', iI_l (by omega), lI_mul, ← Int.natCast_mul, q1, sq_k, show iI p + (1 : Int32) = iI (p + 1 : Nat) from iI_add p 1]
    exact e1
theorem M_isDue {B : Bd} {L bar e sh R : Nat} {D : Int} {v : Nat → Nat} {S : St} (hV : VB B) (hL : L ≤ 30) (hv : ∀ j, j < cntL B L → v j < wayM B L j) (hE : WM S B L bar e sh R D v) (hq : ∀ q, q < cntL B L → S.1 122 (atL B L q) = iI (wayW B L v q)) : f_X10_isDue 103 S = some (bI (dueS B L v), S) := by
  have hn := cntL_le B L
  have hng : B 9 1 ≤ 8 := hV.2.1.2.2.2
  have ho : S.1 103 27 = iI (cntL B L) := hE.1.2.1.1
  have v3 : B 0 3 ≤ 199 := hV.1.2.2.2.2.1
  have e3 : S.1 105 3 = iI (B 0 3) := hE.1.1.1 3 (by omega)
  have hb : ∀ p, p ≤ cntL B L → natTo (wayW B L v) p ≤ 30 * p := fun p hp => natTo_bd2 (fun k hk => (way_facts hV hL (show k < cntL B L by omega) (hv k (by omega))).1)
  have key : ∀ (m N p : Nat), p + m = cntL B L → m < N → f_X10_isDue_L4 N 103 (iI (natTo (wayW B L v) p : Nat)) (iI p) S = some (bI (dueS B L v), S) := by
    intro m
    induction m with
    | zero =>
      intro N p hp hN
      obtain ⟨N, rfl⟩ : ∃ k, N = k + 1 := ⟨N - 1, by omega⟩
      have : p = cntL B L := by omega
      subst this
      have := hb (cntL B L) (Nat.le_refl _)
      rw [f_X10_isDue_L4, ho, if_pos (by rw [iI_le (by omega) (by omega)]; omega), show Int32.toNatClampNeg 3 = 3 from rfl, show (103 : Nat) + 2 = 105 from rfl, e3]
      unfold dueS
      by_cases hc : B 0 3 ≤ natTo (wayW B L v) (cntL B L)
      · rw [if_neg (by rw [iI_lt (by omega) (by omega)]; omega), decide_eq_true hc]; rfl
      · rw [if_pos (by rw [iI_lt (by omega) (by omega)]; omega), decide_eq_false hc]; rfl
    | succ m ih =>
      intro N p hp hN
      obtain ⟨N, rfl⟩ : ∃ k, N = k + 1 := ⟨N - 1, by omega⟩
      have hpc : p < cntL B L := by omega
      have f1 := atL_lt hpc
      have hok : S.1 121 p = iI (atL B L p) := hE.1.2.1.2 p hpc
      have q2 : natTo (wayW B L v) p + wayW B L v p = natTo (wayW B L v) (p + 1) := rfl
      rw [f_X10_isDue_L4, ho, if_neg (by rw [iI_le (by omega) (by omega)]; omega), ob_iI (by omega), iI_nat (by omega), show (103 : Nat) + 18 = 121 from rfl, hok, ob_iI (by omega), iI_nat (by omega), show (103 : Nat) + 19 = 122 from rfl, hq p hpc, iI_add, ← Int.natCast_add, q2, sq_k, show iI p + (1 : Int32) = iI (p + 1 : Nat) from iI_add p 1]
      exact ih N (p + 1) (by omega) (by omega)
  unfold f_X10_isDue
  exact key (cntL B L) FU 0 (by omega) (by unfold FU; omega)
theorem M_begin {S : St} {B : Bd} {L bar e sh R : Nat} {D : Int} (hV : VB B) (hL : L ≤ 30) (hB : BM S B) (h19 : S.1 103 19 = iI bar) (h20 : S.1 103 20 = iI L) (h21 : S.1 103 21 = iI e) (h22 : S.1 103 22 = iI sh) (h23 : S.1 103 23 = iI R) (h24 : S.1 103 24 = iI D) :
    ∃ S2 : St, f_X10_beginWays 103 S = some ((), S2) ∧ WM S2 B L bar e sh R D (fun _ => 0) ∧ Fr PScr S S2 := by
  have hn := cntL_le B L
  have hng : B 9 1 ≤ 8 := hV.2.1.2.2.2
  obtain ⟨S1, e1, e2, e3⟩ := M_layOrder hV hL hB h20
  have hG1 : MG S1 B L bar e sh R D := by
    refine ⟨BM_fr hB e3, e2, ?_⟩
    rw [e3.1 103 19 (by unfold POrd; omega), e3.1 103 20 (by unfold POrd; omega), e3.1 103 21 (by unfold POrd; omega), e3.1 103 22 (by unfold POrd; omega), e3.1 103 23 (by unfold POrd; omega), e3.1 103 24 (by unfold POrd; omega)]
    exact ⟨h19, h20, h21, h22, h23, h24⟩
  have key : ∀ (m N k : Nat) (S : St), k + m = 8 → m < N → (∀ j, j < k → S.1 125 j = 0) → ∃ S2 : St, f_X10_beginWays_L6 N 103 (iI k) S = some ((), S2) ∧ (∀ j, j < 8 → S2.1 125 j = 0) ∧ Fr P124 S S2 := by
    intro m
    induction m with
    | zero =>
      intro N k S hk hN hj
      obtain ⟨N, rfl⟩ : ∃ k, N = k + 1 := ⟨N - 1, by omega⟩
      refine ⟨S, ?_, fun j h => hj j (by omega), Fr.rf⟩
      rw [f_X10_beginWays_L6, if_pos (by rw [show (8 : Int32) = iI 8 from rfl, iI_le (by omega) (by omega)]; omega)]
    | succ m ih =>
      intro N k S hk hN hj
      obtain ⟨N, rfl⟩ : ∃ k, N = k + 1 := ⟨N - 1, by omega⟩
      obtain ⟨S2, e1, e2, e3⟩ := ih N (k + 1) (pI S 125 k 0) (by omega) (by omega) (fun j h => by
        rw [pI_1]
        by_cases hc : j = k
        · rw [if_pos ⟨rfl, hc⟩]
        · rw [if_neg (fun z => hc z.2)]; exact hj j (by omega))
      refine ⟨S2, ?_, e2, Fr.tr (Fr.pI rfl) e3⟩
      rw [f_X10_beginWays_L6, if_neg (by rw [show (8 : Int32) = iI 8 from rfl, iI_le (by omega) (by omega)]; omega), ob_iI (by omega), iI_nat (by omega), sq_k, show iI k + (1 : Int32) = iI (k + 1 : Nat) from iI_add k 1]
      exact e1
  obtain ⟨S2, q1, q2, q3⟩ := key 8 FU 0 S1 (by omega) (by unfold FU; omega) (fun j h => absurd h (Nat.not_lt_zero _))
  have f2 : Fr PWm S1 S2 := q3.wk (fun a k h => by unfold P124 at h; unfold PWm; omega)
  refine ⟨S2, ?_, ⟨MG_wm hG1 f2, fun j hj => by rw [q2 j (by omega)]; rfl⟩, (e3.wk (fun _ _ => ord_scr)).tr (q3.wk (fun a k h => by unfold P124 at h; unfold PScr; omega))⟩
  unfold f_X10_beginWays
  rw [bd_ok e1]
  exact q1
theorem wm_scr {a k : Nat} (h : PWm a k) : PScr a k := by unfold PWm at h; unfold PScr; omega
def wF (what : Nat) (b d t : Bool) : Bool := if what = 0 then b else if what = 1 then b && !d else if what = 2 then !b && d else if what = 3 then b != d else if what = 4 then t else b && t
theorem M_J153 {a1 : Int32} {kb : Int64 → Int32 → St → Option (Int64 × St)} {z x : Int} {f : Bool} {S : St} : f_X10_waysOf_J153 103 a1 kb (lI z) (lI x) (bI f) S = bd (f_X10_nextWay 103 S) (fun y S3 => kb (lI (z + if f = true then x else 0)) y S3) := by
  unfold f_X10_waysOf_J153 f_X10_waysOf_J167
  cases f
  · rw [if_pos (show bI false = 0 from rfl), sq_k, show (0 : Int64) = lI 0 from rfl, lI_add, if_neg (by decide)]
  · rw [if_neg (show ¬ bI true = 0 by decide), sq_k, lI_add, if_pos rfl]
theorem M_J45 {kb : Int64 → Int32 → St → Option (Int64 × St)} {z x : Int} {what : Nat} {b d t : Bool} {S : St} (hw : what ≤ 5) (hd : f_X10_isDue 103 S = some (bI d, S)) : f_X10_waysOf_J45 103 (iI what) kb (lI z) (lI x) (bI b) (bI t) S = bd (f_X10_nextWay 103 S) (fun y S3 => kb (lI (z + if wF what b d t = true then x else 0)) y S3) := by
  have h0 : ∀ a1 : Int32, f_X10_waysOf_J153 103 a1 kb (lI z) (lI x) 0 S = bd (f_X10_nextWay 103 S) (fun y S3 => kb (lI (z + if false = true then x else 0)) y S3) := fun a1 => M_J153 (f := false)
  have h1 : ∀ a1 : Int32, f_X10_waysOf_J153 103 a1 kb (lI z) (lI x) 1 S = bd (f_X10_nextWay 103 S) (fun y S3 => kb (lI (z + if true = true then x else 0)) y S3) := fun a1 => M_J153 (f := true)
  unfold f_X10_waysOf_J45 f_X10_waysOf_J77 f_X10_waysOf_J102 f_X10_waysOf_J152
  rcases (show what = 0 ∨ what = 1 ∨ what = 2 ∨ what = 3 ∨ what = 4 ∨ what = 5 by omega) with rfl | rfl | rfl | rfl | rfl | rfl
  · rw [if_pos (by decide)]; exact M_J153 (f := b)
  · rw [if_neg (by decide), if_pos (by decide)]
    cases b
    · rw [if_pos (by decide)]; exact h0 _
    · rw [if_neg (by decide), bd_ok hd]
      cases d
      · rw [if_pos (by decide)]; exact h1 _
      · rw [if_neg (by decide)]; exact h0 _
  · rw [if_neg (by decide), if_neg (by decide), if_pos (by decide)]
    cases b
    · rw [if_pos (by decide), bd_ok hd]
      cases d
      · rw [if_pos (by decide)]; exact h0 _
      · rw [if_neg (by decide)]; exact h1 _
    · rw [if_neg (by decide)]; exact h0 _
  · rw [if_neg (by decide), if_neg (by decide), if_neg (by decide), if_pos (by decide), bd_ok hd]
    cases b
    · cases d
      · rw [if_pos (by decide)]; exact h0 _
      · rw [if_neg (by decide)]; exact h1 _
    · cases d
      · rw [if_neg (by decide)]; exact h1 _
      · rw [if_pos (by decide)]; exact h0 _
  · rw [if_neg (by decide), if_neg (by decide), if_neg (by decide), if_neg (by decide), if_pos (by decide)]; exact M_J153 (f := t)
  · rw [if_neg (by decide), if_neg (by decide), if_neg (by decide), if_neg (by decide), if_neg (by decide)]
    cases b
    · rw [if_pos (by decide)]; exact h0 _
    · rw [if_neg (by decide)]
      cases t
      · rw [if_pos (by decide)]; exact h0 _
      · rw [if_neg (by decide)]; exact h1 _
/-- ways that are so, as the reference counts -/
def cntM (B : Bd) (L bar e sh rq R what : Nat) : Int := waysS B L (fun v => if wF what (builtS B L bar e sh rq R (wayW B L v)) (dueS B L v) (decide (B 0 8 ≤ (endS B L bar e sh rq R (wayW B L v)).2.2)) = true then wayP B L v else 0)
theorem M_waysOf {S : St} {B : Bd} {L bar e sh rq R what : Nat} {D : Int} (hV : VB B) (hL : L ≤ 30) (hsh : sh ≤ 2) (hbar : bar ≤ 60) (he : e ≤ 9) (hR : R ≤ 99) (hrq : RQ B L rq D) (hw : what ≤ 5) (hB : BM S B) (h19 : S.1 103 19 = iI bar) (h20 : S.1 103 20 = iI L) (h21 : S.1 103 21 = iI e) (h22 : S.1 103 22 = iI sh) (h23 : S.1 103 23 = iI R) (h24 : S.1 103 24 = iI D) :
    ∃ S2 : St, f_X10_waysOf 103 (iI what) S = some (lI (cntM B L bar e sh rq R what), S2) ∧ MG S2 B L bar e sh R D ∧ Fr PScr S S2 := by
  have hn := cntL_le B L
  have hng : B 9 1 ≤ 8 := hV.2.1.2.2.2
  obtain ⟨S1, e1, e2, e3⟩ := M_begin hV hL hB h19 h20 h21 h22 h23 h24
  have hstep : ∀ (N : Nat) (t : Int) (v : Nat → Nat) (S : St), WM S B L bar e sh R D v → (∀ j, j < cntL B L → v j < wayM B L j) → ∃ S2 : St, f_X10_waysOf_L9 (N + 1) 103 (iI what) (lI t) 1 S = bd (f_X10_nextWay_L2 FU 103 (iI (0 : Nat)) S2) (fun x S3 => f_X10_waysOf_L9 N 103 (iI what) (lI (t + if wF what (builtS B L bar e sh rq R (wayW B L v)) (dueS B L v) (decide (B 0 8 ≤ (endS B L bar e sh rq R (wayW B L v)).2.2)) = true then wayP B L v else 0)) x S3) ∧ WM S2 B L bar e sh R D v ∧ Fr PWm S S2 := by
    intro N t v S hE hv
    obtain ⟨S2, q1, q2, q3, q4, q5⟩ := M_take hV hL hsh hbar he hR hrq hv (cntL B L) FU 0 S (by omega) (by unfold FU; omega) hE (fun q h => absurd h (Nat.not_lt_zero _))
    refine ⟨S2, ?_, q2, q5⟩
    have hbt := M_built hV hL q2.1 hbar hR q3 q4
    have hdu := M_isDue hV hL hv q2 q3.2.2.2
    have h33 := q3.1
    have h8 : S2.1 105 8 = iI (B 0 8) := q2.1.1.1 8 (by omega)
    have v8 : B 0 8 ≤ 60 := hV.1.2.2.2.2.2.2.2.2.2.1
    obtain ⟨b1, b2, b3⟩ := playS_le hV hL bar e sh rq R hR (wayW B L v) (cntL B L) (Nat.le_refl _)
    have q1' : f_X10_takeWay 103 S = some (lI (wayP B L v), S2) := by unfold f_X10_takeWay; exact q1
    have hend : (endS B L bar e sh rq R (wayW B L v)).2.2 = (playS B L bar e sh rq R (wayW B L v) (cntL B L)).2.2 := rfl
    rw [f_X10_waysOf_L9, if_neg (by decide), bd_ok q1', bd_ok hbt, show Int32.toNatClampNeg 8 = 8 from rfl, show (103 : Nat) + 2 = 105 from rfl, h8, h33]
    by_cases hc : B 0 8 ≤ (playS B L bar e sh rq R (wayW B L v) (cntL B L)).2.2
    · rw [if_neg (by rw [iI_lt (by omega) (by omega)]; omega), hend, decide_eq_true hc]
      exact M_J45 (t := true) hw hdu
    · rw [if_pos (by rw [iI_lt (by omega) (by omega)]; omega), hend, decide_eq_false hc]
      exact M_J45 (t := false) hw hdu
  have hNle : prodTo (wayM B L) (cntL B L) ≤ 6561 := by
    have h1 : prodTo (wayM B L) (cntL B L) ≤ 3 ^ cntL B L := prodTo_le (fun j h => (wayM_bd hV hL h).2)
    have h2 : 3 ^ cntL B L ≤ 3 ^ 8 := Nat.pow_le_pow_right (by omega) (by omega)
    have h3 : (3 : Nat) ^ 8 = 6561 := by decide
    omega
  obtain ⟨S2, z1, z2, z3⟩ := M_sweep hV hL (fun N t x S => f_X10_waysOf_L9 N 103 (iI what) t x S) _ hstep (cntL B L) (Nat.le_refl _) FU 0 S1 (fun _ => 0) e2 (fun _ _ => rfl) (fun j h1 h2 => absurd h2 (by omega)) (by unfold FU; omega)
  refine ⟨S2, ?_, z2.1, e3.tr (z3.wk (fun _ _ => wm_scr))⟩
  obtain ⟨F, hF⟩ : ∃ F, FU - cntL B L = F + 1 := ⟨FU - cntL B L - 1, by unfold FU; omega⟩
  obtain ⟨F2, hF2⟩ : ∃ F2, FU - prodTo (wayM B L) (cntL B L) = F2 + 1 := ⟨FU - prodTo (wayM B L) (cntL B L) - 1, by unfold FU; omega⟩
  have ho : S2.1 103 27 = iI (cntL B L) := z2.1.2.1.1
  have z1' : f_X10_waysOf_L9 FU 103 (iI what) 0 1 S1 = _ := z1
  unfold f_X10_waysOf
  rw [bd_ok e1, z1', hF, hF2, f_X10_nextWay_L2, ho, if_pos (by rw [iI_le (by omega) (by omega)]; omega)]
  unfold f_X10_nextWay_J50
  rw [ho, if_pos rfl, bd_ok rfl, f_X10_waysOf_L9, if_pos rfl, Int.zero_add, sumD_V]
  rfl
