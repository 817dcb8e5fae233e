/-! the document's terms as functions. A board B: row 0 bar, need, last, cost, penny, extra, its day, parts, second bar, its share; by sort: 1 kind, 2 purse, 3 told, 4 how many worths, 5 worth, 6 tenths (3 s + k); by giver: 7 sort, 8 day; 9: how many sorts (0), givers (1) -/
abbrev Bd : Type := Nat → Nat → Nat
def dayL (B : Bd) (L i : Nat) : Nat := if B 1 (B 7 i) = 4 then L else B 8 i
/-- who come by a last day, in order -/
def ordL (B : Bd) (L : Nat) : List Nat := (List.range (L + 1)).flatMap (fun d => (List.range (B 9 1)).filter (fun i => dayL B L i = d))
def cntL (B : Bd) (L : Nat) : Nat := (ordL B L).length
def atL (B : Bd) (L p : Nat) : Nat := (ordL B L).getD p 0
def soL (B : Bd) (L p : Nat) : Nat := B 7 (atL B L p)
def maxTo (f : Nat → Nat) : Nat → Nat
  | 0 => 0
  | k + 1 => max (maxTo f k) (f k)
/-- the greatest worth of a sort -/
def mostS (B : Bd) (s : Nat) : Nat := maxTo (fun k => B 5 (3 * s + k)) (B 4 s)
def lackS (sh bar g : Nat) : Nat := if sh = 0 then bar - g else if sh = 1 then bar else bar - g / 10 * 10
def gkS (k m l r : Nat) : Nat := if k = 0 then (if r = 1 ∧ l ≤ m then l else 0) else if k = 2 then (m + 1) / 2 else if k = 4 then (if l ≤ m then l else 0) else min ((l + r - 1) / r) m
/-- what the giver i gives: worth w, lack l, r to come, extra e, his day d -/
def giftS (B : Bd) (e d i w l r : Nat) : Nat := if B 1 (B 7 i) = 5 then min (B 3 (B 7 i)) (B 2 (B 7 i)) else if B 1 (B 7 i) = 3 ∧ d ≤ B 0 6 then min l (min (min w (B 2 (B 7 i)) + e) (B 2 (B 7 i))) else gkS (B 1 (B 7 i)) (min w (B 2 (B 7 i))) l r
def kind2 (k : Nat) : Nat := if k = 3 ∨ k = 5 then 1 else k
/-- one play: bar, extra, shown, the rich one's place (behind so many; 0 none) and most; worths by place; behind p places: given, who gave, given to the second -/
def playS (B : Bd) (L bar e sh rq R : Nat) (w : Nat → Nat) : Nat → Nat × Nat × Nat
  | 0 => (0, 0, 0)
  | p + 1 =>
    let s := playS B L bar e sh rq R w p
    let i := atL B L p
    let r := cntL B L - p
    let gi := giftS B e (dayL B L i) i (w p) (lackS sh bar s.1) r
    let g := s.1 + gi
    (if p + 1 = rq then g + min g R else g, s.2.1 + (if 0 < gi then 1 else 0),
      s.2.2 + (if B 0 8 = 0 then 0 else gkS (kind2 (B 1 (B 7 i))) (min (w p * B 0 9 / 100) (B 2 (B 7 i) - gi)) (lackS sh (B 0 8) s.2.2) r))
def giftP (B : Bd) (L bar e sh rq R : Nat) (w : Nat → Nat) (p : Nat) : Nat := giftS B e (dayL B L (atL B L p)) (atL B L p) (w p) (lackS sh bar (playS B L bar e sh rq R w p).1) (cntL B L - p)
def endS (B : Bd) (L bar e sh rq R : Nat) (w : Nat → Nat) : Nat × Nat × Nat := playS B L bar e sh rq R w (cntL B L)
def builtS (B : Bd) (L bar e sh rq R : Nat) (w : Nat → Nat) : Bool := decide (bar ≤ (endS B L bar e sh rq R w).1 ∧ B 0 1 ≤ (endS B L bar e sh rq R w).2.1)
def secondS (B : Bd) (L bar e sh rq R : Nat) (w : Nat → Nat) : Bool := decide (0 < B 0 8 ∧ B 0 8 ≤ (endS B L bar e sh rq R w).2.2)
/-- what the one at place p has -/
def hasP (B : Bd) (L bar e sh rq R : Nat) (w : Nat → Nat) (p : Nat) : Int :=
  if builtS B L bar e sh rq R w = true then
    ((w p : Int) - giftP B L bar e sh rq R w p + (if 0 < giftP B L bar e sh rq R w p ∧ dayL B L (atL B L p) ≤ B 0 6 then (e : Int) else 0)) +
      (if B 0 7 = 1 then ((giftP B L bar e sh rq R w p * ((endS B L bar e sh rq R w).1 - bar) / (endS B L bar e sh rq R w).1 : Nat) : Int) else 0)
  else if 0 < giftP B L bar e sh rq R w p then (B 0 4 : Int) else 0
def sumTo (f : Nat → Int) : Nat → Int
  | 0 => 0
  | k + 1 => sumTo f k + f k
def natTo (f : Nat → Nat) : Nat → Nat
  | 0 => 0
  | k + 1 => natTo f k + f k
/-- all ways: a choice for each of m places from p on -/
def sumV (wm : Nat → Nat) (F : (Nat → Nat) → Int) : Nat → Nat → (Nat → Nat) → Int
  | 0, _, v => F v
  | m + 1, p, v => sumTo (fun k => sumV wm F m (p + 1) (fun j => if j = p then k else v j)) (wm p)
def wayM (B : Bd) (L p : Nat) : Nat := B 4 (soL B L p)
def wayW (B : Bd) (L : Nat) (v : Nat → Nat) (p : Nat) : Nat := B 5 (3 * soL B L p + v p)
def wayC (B : Bd) (L : Nat) (v : Nat → Nat) (p : Nat) : Nat := B 6 (3 * soL B L p + v p)
def prodTo (f : Nat → Nat) : Nat → Nat
  | 0 => 1
  | k + 1 => prodTo f k * f k
def wayP (B : Bd) (L : Nat) (v : Nat → Nat) : Int := (prodTo (wayC B L v) (cntL B L) : Nat)
def dueS (B : Bd) (L : Nat) (v : Nat → Nat) : Bool := decide (B 0 3 ≤ natTo (wayW B L v) (cntL B L))
def waysS (B : Bd) (L : Nat) (F : (Nat → Nat) → Int) : Int := sumV (wayM B L) F (cntL B L) 0 (fun _ => 0)
/-- ways by what is so: 0 built, 1 built and not due, 2 due and not built, 4 the second, 5 both -/
def isS (B : Bd) (L bar e sh rq R what : Nat) (v : Nat → Nat) : Bool :=
  let b := builtS B L bar e sh rq R (wayW B L v)
  let d := dueS B L v
  let t := secondS B L bar e sh rq R (wayW B L v)
  if what = 0 then b else if what = 1 then b && !d else if what = 2 then !b && d else if what = 4 then t else b && t
def cntS (B : Bd) (L bar e sh rq R what : Nat) : Int := waysS B L (fun v => if isS B L bar e sh rq R what v = true then wayP B L v else 0)
def givesS (B : Bd) (L bar e sh rq R p : Nat) : Int := waysS B L (fun v => wayP B L v * giftP B L bar e sh rq R (wayW B L v) p)
def hasS (B : Bd) (L bar e sh rq R p : Nat) : Int := waysS B L (fun v => wayP B L v * hasP B L bar e sh rq R (wayW B L v) p)
def wrongS (B : Bd) (sh b : Nat) : Int := cntS B (B 0 2) b (B 0 5) sh 0 0 1 + cntS B (B 0 2) b (B 0 5) sh 0 0 2
/-- the lowest bar of 1 .. k+1 by which it is least wrong -/
def bestS (f : Nat → Int) : Nat → Nat
  | 0 => 1
  | k + 1 => if f (k + 2) < f (bestS f k) then k + 2 else bestS f k
/-- gifts at rest: rows of gifts, one of each list, counted by sum and how many give -/
def restN (A : List (Nat → Bool)) (hi : Nat) : Nat → Nat → Int := match A with
  | [] => fun s w => if s = 0 ∧ w = 0 then 1 else 0
  | a :: t => fun s w => sumTo (fun g => if a g = true ∧ g ≤ s ∧ (if 0 < g then 1 else 0) ≤ w then restN t hi (s - g) (w - (if 0 < g then 1 else 0)) else 0) (hi + 1)
def mostG (B : Bd) (i : Nat) : Nat := min (mostS B (B 7 i)) (B 2 (B 7 i))
/-- whether i with gift g is at rest when s is given by m -/
def atRest (B : Bd) (i s m g : Nat) : Bool :=
  (List.range (mostG B i + 1)).all (fun o => decide (o = g) || decide (
    (if B 0 0 ≤ s - g + o ∧ B 0 1 ≤ m - (if 0 < g then 1 else 0) + (if 0 < o then 1 else 0) then (mostS B (B 7 i) : Int) - o else if 0 < o then (B 0 4 : Int) else 0) ≤ (if 0 < g then (B 0 4 : Int) else 0)))
def failS (B : Bd) : Int := sumTo (fun s => sumTo (fun m => restN ((ordL B (B 0 2)).map (fun i g => decide (g ≤ mostG B i) && atRest B i s m g)) 30 s m) (cntL B (B 0 2) + 1)) (B 0 0)
/-! the state that both sides hold: text, board, row, shown, kept -/
abbrev Tst : Type := (Nat × (Nat → Nat)) × Bd × (Nat → Nat) × Nat × Nat × (Nat → Nat → Nat) × (Nat → Nat)
def tN (T : Tst) : Nat := T.1.1
def tT (T : Tst) : Nat → Nat := T.1.2
def tB (T : Tst) : Bd := T.2.1
def tR (T : Tst) : Nat → Nat := T.2.2.1
def tS (T : Tst) : Nat := T.2.2.2.1
def tK (T : Tst) : Nat := T.2.2.2.2.1
def tKr (T : Tst) : Nat → Nat → Nat := T.2.2.2.2.2.1
def tKs (T : Tst) : Nat → Nat := T.2.2.2.2.2.2
def VB (B : Bd) : Prop :=
  (1 ≤ B 0 0 ∧ B 0 0 ≤ 60 ∧ B 0 1 ≤ 8 ∧ B 0 2 ≤ 30 ∧ B 0 3 ≤ 199 ∧ B 0 4 ≤ 9 ∧ B 0 5 ≤ 9 ∧ B 0 6 ≤ 30 ∧ B 0 7 ≤ 1 ∧ B 0 8 ≤ 60 ∧ B 0 9 ≤ 99) ∧
  (1 ≤ B 9 0 ∧ B 9 0 ≤ 6 ∧ 1 ≤ B 9 1 ∧ B 9 1 ≤ 8) ∧
  (∀ s, s < B 9 0 → B 1 s ≤ 5 ∧ B 2 s ≤ 30 ∧ B 3 s ≤ 30 ∧ 1 ≤ B 4 s ∧ B 4 s ≤ 3 ∧ natTo (fun k => B 6 (3 * s + k)) (B 4 s) = 10 ∧ ∀ k, k < B 4 s → B 5 (3 * s + k) ≤ 30 ∧ 1 ≤ B 6 (3 * s + k) ∧ B 6 (3 * s + k) ≤ 10) ∧
  (∀ i, i < B 9 1 → B 7 i < B 9 0 ∧ B 8 i ≤ 200)
def VT (T : Tst) : Prop := tN T ≤ 300 ∧ (∀ k, k < tN T → tT T k < 256) ∧ VB (tB T) ∧ (∀ i, tR T i ≤ 30) ∧ tS T ≤ 2 ∧ tK T ≤ 2 ∧ (∀ j i, tKr T j i ≤ 30) ∧ (∀ j, tKs T j ≤ 2)
/-- the reference's board -/
def BM (S : St) (B : Bd) : Prop := (∀ k, k < 10 → S.1 105 k = iI (B 0 k)) ∧ S.1 106 0 = iI (B 9 0) ∧ S.1 103 13 = iI (B 9 1) ∧
  (∀ s, s < B 9 0 → S.1 108 s = iI (B 1 s) ∧ S.1 109 s = iI (B 2 s) ∧ S.1 112 s = iI (B 3 s) ∧ S.1 113 s = iI (B 4 s) ∧ ∀ k, k < B 4 s → S.1 114 (3 * s + k) = iI (B 5 (3 * s + k)) ∧ S.1 115 (3 * s + k) = iI (B 6 (3 * s + k))) ∧
  (∀ i, i < B 9 1 → S.1 116 i = iI (B 7 i) ∧ S.1 117 i = iI (B 8 i))
def IM (S : St) (T : Tst) : Prop := S.1 103 0 = iI (tN T) ∧ (∀ k, k < tN T → S.1 104 k = iI (tT T k)) ∧ BM S (tB T) ∧ (∀ i, i < 8 → S.1 119 i = iI (tR T i)) ∧ S.1 118 0 = iI (tS T) ∧ S.1 103 18 = iI (tK T) ∧
  (∀ j, j < tK T → S.1 118 (j + 1) = iI (tKs T j) ∧ ∀ i, i < 8 → S.1 119 (8 * (j + 1) + i) = iI (tKr T j i))
/-- the class's board, at the plan P -/
def BE (S : St) (P : Nat) (B : Bd) : Prop := (S.1 P 0 = iI (B 0 0) ∧ S.1 P 1 = iI (B 0 1) ∧ S.1 P 2 = iI (B 0 2) ∧ S.1 P 3 = iI (B 0 3) ∧ S.1 P 4 = iI (B 0 4) ∧ S.1 P 5 = iI (B 0 5) ∧ S.1 P 6 = iI (B 0 6) ∧ S.1 P 9 = iI (B 0 7) ∧ S.1 P 7 = iI (B 0 8) ∧ S.1 P 8 = iI (B 0 9)) ∧
  S.1 (P + 1) 0 = iI (B 9 0) ∧ S.1 (P + 1) 1 = iI (B 9 1) ∧
  (∀ s, s < B 9 0 → S.1 (P + 2) s = iI (B 1 s) ∧ S.1 (P + 3) s = iI (B 2 s) ∧ S.1 (P + 4) s = iI (B 3 s) ∧ S.1 (P + 5) s = iI (B 4 s) ∧ ∀ k, k < B 4 s → S.1 (P + 6) (3 * s + k) = iI (B 5 (3 * s + k)) ∧ S.1 (P + 7) (3 * s + k) = iI (B 6 (3 * s + k))) ∧
  (∀ i, i < B 9 1 → S.1 (P + 8) i = iI (B 7 i) ∧ S.1 (P + 9) i = iI (B 8 i))
/-- who come, seated at c -/
def CE (S : St) (c : Nat) (B : Bd) (L : Nat) : Prop := S.1 c 0 = iI (cntL B L) ∧ ∀ p, p < cntL B L → S.1 (c + 1) p = iI (atL B L p) ∧ S.1 (c + 2) p = iI (dayL B L (atL B L p)) ∧ S.1 (c + 3) p = iI (B 1 (soL B L p)) ∧ S.1 (c + 4) p = iI (B 2 (soL B L p)) ∧ S.1 (c + 5) p = iI (B 3 (soL B L p)) ∧ S.1 (c + 6) p = iI (mostS B (soL B L p)) ∧ S.1 (c + 7) p = iI (B 4 (soL B L p)) ∧
  ∀ k, k < B 4 (soL B L p) → S.1 (c + 8) (3 * p + k) = iI (B 5 (3 * soL B L p + k)) ∧ S.1 (c + 9) (3 * p + k) = iI (B 6 (3 * soL B L p + k))
/-- what the class knows already -/
def KE (S : St) (B : Bd) (sh : Nat) : Prop :=
  (S.1 0 13 = 0 ∨ ((S.2.1 73 0 = lI (cntS B (B 0 2) (B 0 0) (B 0 5) sh 0 0 0) ∧ S.2.1 73 1 = lI (cntS B (B 0 2) (B 0 0) (B 0 5) sh 0 0 1) ∧ S.2.1 73 2 = lI (cntS B (B 0 2) (B 0 0) (B 0 5) sh 0 0 2) ∧ S.2.1 73 3 = lI (cntS B (B 0 2) (B 0 0) (B 0 5) sh 0 0 4) ∧ S.2.1 73 4 = lI (cntS B (B 0 2) (B 0 0) (B 0 5) sh 0 0 5)) ∧
    ∀ p, p < cntL B (B 0 2) → S.2.1 74 p = lI (givesS B (B 0 2) (B 0 0) (B 0 5) sh 0 0 p) ∧ S.2.1 75 p = lI (hasS B (B 0 2) (B 0 0) (B 0 5) sh 0 0 p))) ∧
  (S.1 0 14 = 0 ∨ (S.1 0 16 = iI (bestS (wrongS B sh) 59) ∧ S.2.1 0 17 = lI (wrongS B sh (bestS (wrongS B sh) 59)))) ∧
  (S.1 0 15 = 0 ∨ S.2.1 0 18 = lI (failS B))
/-- places of the class's rows that nothing writes -/
def ZE (S : St) : Prop := S.1 70 0 = 0 ∧ S.1 71 0 = 0 ∧ S.1 72 0 = 0 ∧ S.1 78 0 = 0 ∧ S.1 84 0 = 0
def IEp (P Q : Nat) (S : St) (T : Tst) : Prop := (S.2.2 0 2 = P ∧ S.2.2 0 3 = Q ∧ ZE S) ∧ S.1 1 1 = iI (tN T) ∧ (∀ k, k < tN T → S.1 2 k = iI (tT T k)) ∧ BE S P (tB T) ∧ CE S 25 (tB T) (tB T 0 2) ∧ (∀ i, i < 8 → S.1 99 i = iI (tR T i)) ∧ S.1 0 11 = iI (tS T) ∧ S.1 100 0 = iI (tK T) ∧
  (∀ j, j < tK T → S.1 102 j = iI (tKs T j) ∧ ∀ i, i < 8 → S.1 101 (8 * j + i) = iI (tKr T j i)) ∧ KE S (tB T) (tS T)
def IE (S : St) (T : Tst) : Prop := IEp 5 15 S T ∨ IEp 15 5 S T
def cutE (S : St) : St := (fun a => if a < 103 then S.1 a else fun _ => 0, fun a => if a < 103 then S.2.1 a else fun _ => 0, fun a => if a < 103 then S.2.2 a else fun _ => 0)
def cutM (S : St) : St := (fun a => if a < 103 then fun _ => 0 else S.1 a, fun a => if a < 103 then fun _ => 0 else S.2.1 a, fun _ _ => 0)
theorem IE_cut (S : St) (T : Tst) : IE (cutE S) T = IE S T := rfl
theorem IM_cut (S : St) (T : Tst) : IM (cutM S) T = IM S T := rfl
theorem IE_of {S S2 : St} {T : Tst} (h : cutE S2 = cutE S) (hI : IE S T) : IE S2 T := by rw [← IE_cut, h, IE_cut]; exact hI
theorem IM_of {S S2 : St} {T : Tst} (h : cutM S2 = cutM S) (hI : IM S T) : IM S2 T := by rw [← IM_cut, h, IM_cut]; exact hI
/-- a call of the class keeps the reference's cells; of the reference the class's -/
def PE (a : Nat) (_ : Nat) : Prop := a < 103
def PM (a : Nat) (_ : Nat) : Prop := 103 ≤ a
theorem cutM_fr {S S2 : St} (h : Fr PE S S2) : cutM S2 = cutM S := by
  unfold cutM
  congr 1
  · funext a
    by_cases ha : a < 103
    · rw [if_pos ha, if_pos ha]
    · rw [if_neg ha, if_neg ha]; funext k; exact h.1 a k ha
  · congr 1
    funext a
    by_cases ha : a < 103
    · rw [if_pos ha, if_pos ha]
    · rw [if_neg ha, if_neg ha]; funext k; exact h.2.1 a k ha
theorem cutE_fr {S S2 : St} (h : Fr PM S S2) : cutE S2 = cutE S := by
  unfold cutE
  have f1 : ∀ a k, a < 103 → S2.1 a k = S.1 a k := fun a k ha => h.1 a k (by unfold PM; omega)
  have f2 : ∀ a k, a < 103 → S2.2.1 a k = S.2.1 a k := fun a k ha => h.2.1 a k (by unfold PM; omega)
  have f3 : ∀ a k, a < 103 → S2.2.2 a k = S.2.2 a k := fun a k ha => h.2.2 a k (by unfold PM; omega)
  congr 1
  · funext a
    by_cases ha : a < 103
    · rw [if_pos ha, if_pos ha]; funext k; exact f1 a k ha
    · rw [if_neg ha, if_neg ha]
  · congr 1
    · funext a
      by_cases ha : a < 103
      · rw [if_pos ha, if_pos ha]; funext k; exact f2 a k ha
      · rw [if_neg ha, if_neg ha]
    · funext a
      by_cases ha : a < 103
      · rw [if_pos ha, if_pos ha]; funext k; exact f3 a k ha
      · rw [if_neg ha, if_neg ha]
