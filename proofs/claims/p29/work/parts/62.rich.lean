/-! who come in order of their days -/
def Srt (g : Nat → Nat) (l : List Nat) : Prop := ∀ p q, p < q → q < l.length → g (l.getD p 0) ≤ g (l.getD q 0)
theorem Srt_app {g : Nat → Nat} {l : List Nat} {x : Nat} (h : Srt g l) (hx : ∀ p, p < l.length → g (l.getD p 0) ≤ g x) : Srt g (l ++ [x]) := by
  intro p q hp hq
  rw [getD_app, getD_app]
  rw [List.length_append] at hq
  have e1 : [x].length = 1 := rfl
  by_cases h2 : q = l.length
  · rw [if_pos h2, if_neg (by omega)]
    exact hx p (by omega)
  · rw [if_neg h2, if_neg (by omega)]
    exact h p q hp (by omega)
theorem ordP_srt (B : Bd) (L : Nat) : ∀ (d i : Nat), Srt (dayL B L) (ordP B L d i)
  | 0, 0 => fun p q _ hq => absurd hq (by rw [ordP_00]; exact Nat.not_lt_zero _)
  | d + 1, 0 => by rw [← ordP_day]; exact ordP_srt B L d (B 9 1)
  | d, i + 1 => by
    rw [ordP_i]
    by_cases hd : dayL B L i = d
    · rw [if_pos hd]
      refine Srt_app (ordP_srt B L d i) (fun p hp => ?_)
      have := mem_ordP (getD_mem hp)
      omega
    · rw [if_neg hd]; exact ordP_srt B L d i
theorem atL_srt {B : Bd} {L p q : Nat} (hpq : p < q) (hq : q < cntL B L) : dayL B L (atL B L p) ≤ dayL B L (atL B L q) := by
  have := ordP_srt B L (L + 1) 0
  rw [← ordL_P] at this
  exact this p q hpq hq
def cntBy (B : Bd) (L d p : Nat) : Nat := natTo (fun q => if dayL B L (atL B L q) ≤ d then 1 else 0) p
theorem cntBy_iff {B : Bd} {L d : Nat} : ∀ (n : Nat), n ≤ cntL B L → cntBy B L d n ≤ n ∧ ∀ p, p < n → (dayL B L (atL B L p) ≤ d ↔ p < cntBy B L d n)
  | 0, _ => ⟨Nat.le_refl _, fun p h => absurd h (Nat.not_lt_zero _)⟩
  | n + 1, hn => by
    obtain ⟨h1, h2⟩ := cntBy_iff (B := B) (L := L) (d := d) n (by omega)
    have e : cntBy B L d (n + 1) = cntBy B L d n + (if dayL B L (atL B L n) ≤ d then 1 else 0) := rfl
    by_cases hc : dayL B L (atL B L n) ≤ d
    · rw [if_pos hc] at e
      have hr : cntBy B L d n = n := by
        by_cases hlt : cntBy B L d n < n
        · have := (h2 _ hlt).mp (Nat.le_trans (atL_srt hlt (by omega)) hc)
          omega
        · omega
      refine ⟨by omega, fun p hp => ⟨fun _ => by omega, fun _ => ?_⟩⟩
      by_cases hpn : p = n
      · rw [hpn]; exact hc
      · exact (h2 p (by omega)).mpr (by omega)
    · rw [if_neg hc] at e
      refine ⟨by omega, fun p hp => ?_⟩
      rw [e, Nat.add_zero]
      by_cases hpn : p = n
      · rw [hpn]; exact ⟨fun z => absurd z hc, fun z => by omega⟩
      · exact h2 p (by omega)
theorem RQ_by {B : Bd} {L d : Nat} (hd : d ≤ 100) : RQ B L (cntBy B L d (cntL B L)) (d : Int) := by
  obtain ⟨h1, h2⟩ := cntBy_iff (B := B) (L := L) (d := d) (cntL B L) (Nat.le_refl _)
  refine Or.inr ⟨by omega, by omega, h1, fun p hp => ?_⟩
  rw [← h2 p hp]; omega
theorem E_comeBy {S : St} {B : Bd} {L c d : Nat} (hV : VB B) (hL : L ≤ 30) (hC : CE S c B L) (hd : d ≤ 100) : f_X0_comeBy c (iI d) S = some (iI (cntBy B L d (cntL B L)), S) := by
  have hn := cntL_le B L
  have hng : B 9 1 ≤ 8 := hV.2.1.2.2.2
  have key : ∀ (m N p : Nat), p + m = cntL B L → m < N → f_X0_comeBy_L4 N c (iI d) (iI (cntBy B L d p)) (iI p) S = some (iI (cntBy B L d (cntL B L)), S) := by
    intro m
    induction m with
    | zero =>
      intro N p hp hN
      obtain ⟨N, rfl⟩ : ∃ k, N = k + 1 := ⟨N - 1, by omega⟩
      have : p = cntL B L := by omega
      subst this
      rw [f_X0_comeBy_L4, hC.1, if_pos (by rw [iI_le (by omega) (by omega)]; omega)]
    | succ m ih =>
      intro N p hp hN
      obtain ⟨N, rfl⟩ : ∃ k, N = k + 1 := ⟨N - 1, by omega⟩
      have hpc : p < cntL B L := by omega
      obtain ⟨f1, f2, f3, f4, f5, f6, f7, f8, f9, f10, f11⟩ := at_facts hV hL hpc
      have x2 := (hC.2 p hpc).2.1
      have i1 := ih N (p + 1) (by omega) (by omega)
      have e : cntBy B L d (p + 1) = cntBy B L d p + (if dayL B L (atL B L p) ≤ d then 1 else 0) := rfl
      rw [f_X0_comeBy_L4, hC.1, if_neg (by rw [iI_le (by omega) (by omega)]; omega), ob_iI (by omega), iI_nat (by omega), x2, show iI p + (1 : Int32) = iI (p + 1 : Nat) from iI_add p 1]
      by_cases hc : dayL B L (atL B L p) ≤ d
      · rw [if_neg (by rw [iI_lt (by omega) (by omega)]; omega), show iI (cntBy B L d p) + (1 : Int32) = iI (cntBy B L d (p + 1)) by rw [e, if_pos hc]; exact iI_add _ 1]
        exact i1
      · rw [if_pos (by rw [iI_lt (by omega) (by omega)]; omega)]
        rw [e, if_neg hc, Nat.add_zero] at i1; exact i1
  have z := key (cntL B L) FU 0 (by omega) (by unfold FU; omega)
  rw [show cntBy B L d 0 = 0 from rfl] at z
  unfold f_X0_comeBy
  exact z
/-- what comes of a rich one on day d -/
def richF (T : Tst) (R d : Nat) : Int := cntS (tB T) (tB T 0 2) (tB T 0 0) (tB T 0 5) (tS T) (cntBy (tB T) (tB T 0 2) d (cntL (tB T) (tB T 0 2))) R 0
theorem richF_bd {T : Tst} {R : Nat} (hV : VT T) (d : Nat) : 0 ≤ richF T R d ∧ richF T R d ≤ 100000000 := by
  have hVB := VT_B hV
  have hng : tB T 9 1 ≤ 8 := hVB.2.1.2.2.2
  have hcl := cntL_le (tB T) (tB T 0 2)
  obtain ⟨t1, t2⟩ := ten_le (n := cntL (tB T) (tB T 0 2)) (by omega)
  obtain ⟨a1, a2⟩ := cntS_bd (bar := tB T 0 0) (e := tB T 0 5) (sh := tS T) (rq := cntBy (tB T) (tB T 0 2) d (cntL (tB T) (tB T 0 2))) (R := R) (what := 0) hVB (VT_L hV)
  unfold richF
  omega
theorem E_richWays {S : St} {T : Tst} {R d : Nat} (hV : VT T) (hE : IE S T) (hR : R ≤ 99) : ∃ S2 : St, f_X9_richWays 0 (iI R) (iI (cntBy (tB T) (tB T 0 2) d (cntL (tB T) (tB T 0 2)))) S = some (lI (richF T R d), S2) ∧ IE S2 T ∧ Fr PE S S2 := by
  obtain ⟨P, S1, p1, e1, e2, e3, e4, e5, e6, e7⟩ := E_setGame hE
  have hVB := VT_B hV
  have hng : tB T 9 1 ≤ 8 := hVB.2.1.2.2.2
  have hcl := cntL_le (tB T) (tB T 0 2)
  obtain ⟨r1, r2⟩ := cntBy_iff (B := tB T) (L := tB T 0 2) (d := d) (cntL (tB T) (tB T 0 2)) (Nat.le_refl _)
  obtain ⟨rq, hrq⟩ : ∃ rq, rq = cntBy (tB T) (tB T 0 2) d (cntL (tB T) (tB T 0 2)) := ⟨_, rfl⟩
  rw [← hrq] at r1
  have hF : richF T R d = cntS (tB T) (tB T 0 2) (tB T 0 0) (tB T 0 5) (tS T) rq R 0 := by rw [hrq]; rfl
  rw [← hrq, hF]
  obtain ⟨g1, g2, g3, g4, g5, g6, g7⟩ := e2
  obtain ⟨S3, hS3⟩ : ∃ S3, S3 = pI (pI S1 47 5 (iI R)) 47 6 (iI ((rq : Int) - 1)) := ⟨_, rfl⟩
  have hw47 : ∀ k, P47 47 k := fun _ => rfl
  have f1 : Fr P47 S1 S3 := by rw [hS3]; exact (Fr.pI (hw47 _)).tr (Fr.pI (hw47 _))
  have hG : GE S3 25 P (tS T) (tB T 0 0) (tB T 0 5) R ((rq : Int) - 1) := by
    rw [hS3]
    refine ⟨g1, g2, ?_, ?_, ?_, ?_, ?_⟩
    · rw [pI_1, if_neg (by omega), pI_1, if_neg (by omega)]; exact g3
    · rw [pI_1, if_neg (by omega), pI_1, if_neg (by omega)]; exact g4
    · rw [pI_1, if_neg (by omega), pI_1, if_neg (by omega)]; exact g5
    · rw [pI_1, if_neg (by omega), pI_1, if_pos ⟨rfl, rfl⟩]
    · rw [pI_1, if_pos ⟨rfl, rfl⟩]
  obtain ⟨hB2, hC2⟩ := BC_47 p1 (Or.inl rfl) e3 e4 f1
  have hH2 : HW (tB T) (tB T 0 2) 25 P (tS T) (tB T 0 0) (tB T 0 5) R rq ((rq : Int) - 1) 79 := by
    obtain ⟨a1, a2, a3, a4, a5, a6, a7, a8, a9, a10, a11⟩ := HW_T hV p1 (Or.inr rfl)
    exact ⟨a1, a2, a3, a4, a5, a6, a7, hR, rfl, by omega, a11⟩
  obtain ⟨S2, q1, q2, q3, q4, q5, q6, q7⟩ := E_trial hH2 ⟨hG, hB2, hC2⟩ (IE_47 e6 f1)
  refine ⟨S2, ?_, q6, (((e7.wk (fun _ _ => P47_PEs)).tr (f1.wk (fun _ _ => P47_PEs))).tr q7).wk PEs_PE⟩
  unfold f_X9_richWays
  rw [bd_ok e1, sq_k, sq_k, show iI rq - (1 : Int32) = iI ((rq : Int) - 1) from iI_sub _ 1]
  dsimp only [Nat.reduceAdd]
  rw [← hS3, bd_ok q1, q2]
theorem M_richWays {S : St} {T : Tst} {R d : Nat} (hV : VT T) (hM : IM S T) (hR : R ≤ 99) (hd : d ≤ 30) : ∃ S2 : St, f_X10_richWays 103 (iI R) (iI d) S = some (lI (richF T R d), S2) ∧ Fr PScr S S2 := by
  have hVB := VT_B hV
  obtain ⟨S1, e1, ⟨h1, h2, h3, h4, h5, h6, h7⟩, e3⟩ := M_plainQ hM
  obtain ⟨S3, hS3⟩ : ∃ S3, S3 = pI (pI S1 103 23 (iI R)) 103 24 (iI d) := ⟨_, rfl⟩
  have hQ : MPl S3 (tB T) (tB T 0 2) (tB T 0 0) (tB T 0 5) (tS T) R (d : Int) := by
    rw [hS3]
    refine ⟨BM_102 (BM_102 h1 (by omega)) (by omega), ?_, ?_, ?_, ?_, ?_, ?_⟩
    · rw [pI_1, if_neg (by omega), pI_1, if_neg (by omega)]; exact h2
    · rw [pI_1, if_neg (by omega), pI_1, if_neg (by omega)]; exact h3
    · rw [pI_1, if_neg (by omega), pI_1, if_neg (by omega)]; exact h4
    · rw [pI_1, if_neg (by omega), pI_1, if_neg (by omega)]; exact h5
    · rw [pI_1, if_neg (by omega), pI_1, if_pos ⟨rfl, rfl⟩]
    · rw [pI_1, if_pos ⟨rfl, rfl⟩]
  obtain ⟨S4, q1, q2, q3⟩ := M_trial (what := 0) hVB (VT_L hV) hV.2.2.2.2.1 hVB.1.2.1 hVB.1.2.2.2.2.2.2.1 hR (RQ_by (B := tB T) (L := tB T 0 2) (d := d) (by omega)) (by omega) hQ
  have q1' : f_X10_waysOf 103 0 S3 = some (lI (richF T R d), S4) := by rw [cntM_S (Or.inl (by omega))] at q1; exact q1
  have f : Fr PScr S1 S3 := by rw [hS3]; exact (Fr.pI (Or.inl ⟨rfl, by omega⟩)).tr (Fr.pI (Or.inl ⟨rfl, by omega⟩))
  refine ⟨S4, ?_, (e3.tr f).tr q3⟩
  unfold f_X10_richWays
  rw [bd_ok e1, sq_k, sq_k, ← hS3, bd_ok q1']
theorem ok_rich (x y : Int32) : Okk (f_X9_rich 0 x y) (f_X10_rich 103 x y) := by
  apply Okk_scr
  intro S T hV hE
  have hVB := VT_B hV
  have hL := VT_L hV
  obtain ⟨P, p1, p2, p3⟩ := IE_P hE
  have hk := kdE_P p1
  have e2 : S.1 P 2 = iI (tB T 0 2) := p3.1.2.2.1
  by_cases hb : bad x 0 99
  · refine ⟨-1, S, ⟨?_, hE, Fr.rf⟩, fun S1 hM => ⟨S1, ?_, Fr.rf⟩⟩
    · unfold f_X9_rich; rw [bd_ok (within_bad hb)]; rfl
    · unfold f_X10_rich; rw [bd_ok (in_bad hb)]; rfl
  have i2 : (iI (tB T 0 2)).toInt = (tB T 0 2 : Int) := iI_toInt (by omega)
  have j2 : (Int32.toInt64 (iI (tB T 0 2))).toInt = (tB T 0 2 : Int) := by rw [Int32.toInt_toInt64, i2]
  by_cases hb2 : bad y 0 (tB T 0 2 : Int)
  · refine ⟨-1, S, ⟨?_, hE, Fr.rf⟩, fun S1 hM => ⟨S1, ?_, Fr.rf⟩⟩
    · unfold f_X9_rich
      rw [bd_ok (within_ok hb), if_neg (by decide), p2, ck_pos hk, e2, bd_ok (within_bad (by rw [i2]; exact hb2))]; rfl
    · unfold f_X10_rich
      rw [bd_ok (in_ok hb), if_neg (by decide), show Int32.toNatClampNeg 2 = 2 from rfl, show (103 : Nat) + 2 = 105 from rfl, hM.2.2.1.1 2 (by omega), bd_ok (in_bad (by rw [j2]; exact hb2))]; rfl
  obtain ⟨R, hR, rfl⟩ := bad_in (m := 99) hb
  obtain ⟨d, hd, rfl⟩ := bad_in (m := tB T 0 2) hb2
  obtain ⟨S2, z1, z2, z3⟩ := E_richWays (d := d) hV hE hR
  refine ⟨lI (richF T R d), S2, ⟨?_, z2, z3⟩, fun S1 hM => ?_⟩
  · unfold f_X9_rich
    rw [bd_ok (within_ok hb), if_neg (by decide), p2, ck_pos hk, e2, bd_ok (within_ok (by rw [i2]; exact hb2)), if_neg (by decide)]
    dsimp only [Nat.reduceAdd]
    rw [bd_ok (E_comeBy hVB hL (IE_C hE) (by omega)), bd_ok z1]
  · obtain ⟨S3, y1, y2⟩ := M_richWays (R := R) (d := d) hV hM hR (by omega)
    refine ⟨S3, ?_, y2⟩
    unfold f_X10_rich
    rw [bd_ok (in_ok hb), if_neg (by decide), show Int32.toNatClampNeg 2 = 2 from rfl, show (103 : Nat) + 2 = 105 from rfl, hM.2.2.1.1 2 (by omega), bd_ok (in_ok (by rw [j2]; exact hb2)), if_neg (by decide), bd_ok y1]
theorem amS_ge {f : Nat → Int} : ∀ {k j : Nat}, j < k → f j ≤ (amS f k).2
  | k + 1, j, h => by
    unfold amS
    by_cases hc : f k ≤ (amS f k).2
    · rw [if_pos hc]
      by_cases hj : j = k
      · rw [hj]; exact hc
      · exact amS_ge (by omega)
    · rw [if_neg hc]
      by_cases hj : j = k
      · rw [hj]; exact Int.le_refl _
      · have := amS_ge (f := f) (k := k) (j := j) (by omega)
        dsimp only; omega
theorem ok_richDay (x : Int32) : Okk (f_X9_richDay 0 x) (f_X10_richDay 103 x) := by
  apply Okk_scr
  intro S T hV hE
  have hVB := VT_B hV
  have hL := VT_L hV
  have hng : tB T 9 1 ≤ 8 := hVB.2.1.2.2.2
  have hcl := cntL_le (tB T) (tB T 0 2)
  by_cases hb : bad x 0 99
  · refine ⟨-1, S, ⟨?_, hE, Fr.rf⟩, fun S1 hM => ⟨S1, ?_, Fr.rf⟩⟩
    · unfold f_X9_richDay; rw [bd_ok (within_bad hb)]; rfl
    · unfold f_X10_richDay; rw [bd_ok (in_bad hb)]; rfl
  obtain ⟨R, hR, rfl⟩ := bad_in (m := 99) hb
  have hfb := fun d => richF_bd (R := R) hV d
  have hab := amS_bd hfb
  have hby : ∀ d, cntBy (tB T) (tB T 0 2) d (cntL (tB T) (tB T 0 2)) ≤ 8 := fun d => by
    have := (cntBy_iff (B := tB T) (L := tB T 0 2) (d := d) (cntL (tB T) (tB T 0 2)) (Nat.le_refl _)).1
    omega
  have keyE : ∀ (m N k : Nat) (l5 : Int) (S : St), k + m = tB T 0 2 + 1 → m < N → IE S T → -1 ≤ l5 → l5 ≤ 8 → (l5 = -1 ∨ (1 ≤ k ∧ l5 = cntBy (tB T) (tB T 0 2) (k - 1) (cntL (tB T) (tB T 0 2)))) → ∃ S2 : St, f_X9_richDay_L24 N 0 (iI R) (iI (amS (richF T R) k).1) (lI (amS (richF T R) k).2) (iI l5) (iI k) S = some (iI (amS (richF T R) (tB T 0 2 + 1)).1, S2) ∧ IE S2 T ∧ Fr PE S S2 := by
    intro m
    induction m with
    | zero =>
      intro N k l5 S hk hN h1 _ _ _
      obtain ⟨N, rfl⟩ : ∃ k, N = k + 1 := ⟨N - 1, by omega⟩
      have : k = tB T 0 2 + 1 := by omega
      subst this
      obtain ⟨P, p1, p2, p3⟩ := IE_P h1
      have e2 : S.1 P 2 = iI (tB T 0 2) := p3.1.2.2.1
      refine ⟨S, ?_, h1, Fr.rf⟩
      rw [f_X9_richDay_L24, p2, ck_pos (kdE_P p1), e2, if_pos (by rw [iI_lt (by omega) (by omega)]; omega)]
    | succ m ih =>
      intro N k l5 S hk hN h1 hl1 hl2 hl
      obtain ⟨N, rfl⟩ : ∃ k, N = k + 1 := ⟨N - 1, by omega⟩
      obtain ⟨P, p1, p2, p3⟩ := IE_P h1
      have e2 : S.1 P 2 = iI (tB T 0 2) := p3.1.2.2.1
      have hbk := hby k
      have hs : amS (richF T R) (k + 1) = if richF T R k ≤ (amS (richF T R) k).2 then amS (richF T R) k else (k, richF T R k) := rfl
      have h3 := hab k
      have hfk := hfb k
      rw [f_X9_richDay_L24, p2, ck_pos (kdE_P p1), e2, if_neg (by rw [iI_lt (by omega) (by omega)]; omega)]
      dsimp only [Nat.reduceAdd]
      rw [bd_ok (E_comeBy hVB hL (IE_C h1) (by omega)), show iI k + (1 : Int32) = iI (k + 1 : Nat) from iI_add k 1]
      by_cases hsk : (cntBy (tB T) (tB T 0 2) k (cntL (tB T) (tB T 0 2)) : Int) = l5
      · rw [if_pos (by rw [iI_eq (by omega) (by omega)]; exact hsk)]
        rcases hl with z | ⟨z1, z2⟩
        · omega
        · have hff : richF T R k = richF T R (k - 1) := by
            unfold richF
            rw [show cntBy (tB T) (tB T 0 2) k (cntL (tB T) (tB T 0 2)) = cntBy (tB T) (tB T 0 2) (k - 1) (cntL (tB T) (tB T 0 2)) by omega]
          have hge := amS_ge (f := richF T R) (k := k) (j := k - 1) (by omega)
          rw [if_pos (by rw [hff]; exact hge)] at hs
          obtain ⟨S3, y1, y2, y3⟩ := ih N (k + 1) l5 S (by omega) (by omega) h1 hl1 hl2 (Or.inr ⟨by omega, by rw [Nat.add_sub_cancel]; exact hsk.symm⟩)
          rw [hs] at y1
          exact ⟨S3, y1, y2, y3⟩
      · rw [if_neg (by rw [iI_eq (by omega) (by omega)]; exact hsk)]
        obtain ⟨S2, q1, q2, q3⟩ := E_richWays (d := k) hV h1 hR
        obtain ⟨S3, y1, y2, y3⟩ := ih N (k + 1) (cntBy (tB T) (tB T 0 2) k (cntL (tB T) (tB T 0 2))) S2 (by omega) (by omega) q2 (by omega) (by omega) (Or.inr ⟨by omega, by rw [Nat.add_sub_cancel]⟩)
        refine ⟨S3, ?_, y2, q3.tr y3⟩
        rw [bd_ok q1]
        by_cases hc : richF T R k ≤ (amS (richF T R) k).2
        · rw [if_pos (by rw [lI_le (by omega) (by omega)]; exact hc)]
          rw [hs, if_pos hc] at y1; exact y1
        · rw [if_neg (by rw [lI_le (by omega) (by omega)]; exact hc)]
          rw [hs, if_neg hc] at y1; exact y1
  obtain ⟨S2, z1, z2, z3⟩ := keyE (tB T 0 2 + 1) FU 0 (-1) S (by omega) (by unfold FU; omega) hE (by omega) (by omega) (Or.inl rfl)
  refine ⟨iI (amS (richF T R) (tB T 0 2 + 1)).1, S2, ⟨?_, z2, z3⟩, fun S1 hM => ?_⟩
  · unfold f_X9_richDay
    rw [bd_ok (within_ok hb), if_neg (by decide)]
    have z1' : f_X9_richDay_L24 FU 0 (iI R) 0 (-1) (iI (-1)) 0 S = _ := z1
    rw [iI_n1]
    exact z1'
  · have key : ∀ (m N k : Nat) (S : St), k + m = tB T 0 2 + 1 → m < N → IM S T → ∃ S2 : St, f_X10_richDay_L26 N 103 (iI R) (iI (amS (richF T R) k).1) (lI (amS (richF T R) k).2) (iI k) S = some (iI (amS (richF T R) (tB T 0 2 + 1)).1, S2) ∧ Fr PScr S S2 := by
      intro m
      induction m with
      | zero =>
        intro N k S hk hN h1
        obtain ⟨N, rfl⟩ : ∃ k, N = k + 1 := ⟨N - 1, by omega⟩
        have : k = tB T 0 2 + 1 := by omega
        subst this
        refine ⟨S, ?_, Fr.rf⟩
        rw [f_X10_richDay_L26, show Int32.toNatClampNeg 2 = 2 from rfl, show (103 : Nat) + 2 = 105 from rfl, h1.2.2.1.1 2 (by omega), if_pos (by rw [iI_lt (by omega) (by omega)]; omega)]
      | succ m ih =>
        intro N k S hk hN h1
        obtain ⟨N, rfl⟩ : ∃ k, N = k + 1 := ⟨N - 1, by omega⟩
        have hs : amS (richF T R) (k + 1) = if richF T R k ≤ (amS (richF T R) k).2 then amS (richF T R) k else (k, richF T R k) := rfl
        have h3 := hab k
        have hfk := hfb k
        obtain ⟨S2, q1, q2⟩ := M_richWays (R := R) (d := k) hV h1 hR (by omega)
        obtain ⟨S3, y1, y2⟩ := ih N (k + 1) S2 (by omega) (by omega) (IM_scr h1 q2)
        refine ⟨S3, ?_, q2.tr y2⟩
        rw [f_X10_richDay_L26, show Int32.toNatClampNeg 2 = 2 from rfl, show (103 : Nat) + 2 = 105 from rfl, h1.2.2.1.1 2 (by omega), if_neg (by rw [iI_lt (by omega) (by omega)]; omega), bd_ok q1]
        unfold f_X10_richDay_J59
        rw [show iI k + (1 : Int32) = iI (k + 1 : Nat) from iI_add k 1]
        by_cases hc : richF T R k ≤ (amS (richF T R) k).2
        · rw [if_pos (by rw [lI_le (by omega) (by omega)]; exact hc), if_pos (by rw [lI_le (by omega) (by omega)]; exact hc)]
          rw [hs, if_pos hc] at y1; exact y1
        · rw [if_neg (by rw [lI_le (by omega) (by omega)]; exact hc), if_neg (by rw [lI_le (by omega) (by omega)]; exact hc)]
          rw [hs, if_neg hc] at y1; exact y1
    obtain ⟨S2, q1, q2⟩ := M_richWays (R := R) (d := 0) hV hM hR (by omega)
    obtain ⟨S3, y1, y2⟩ := key (tB T 0 2) FU 1 S2 (by omega) (by unfold FU; omega) (IM_scr hM q2)
    have h0 := hfb 0
    have ha1 : amS (richF T R) 1 = (0, richF T R 0) := by
      show (if richF T R 0 ≤ -1 then ((0, -1) : Nat × Int) else (0, richF T R 0)) = _
      rw [if_neg (by omega)]
    rw [ha1] at y1
    refine ⟨S3, ?_, q2.tr y2⟩
    have q1' : f_X10_richWays 103 (iI R) 0 S1 = some (lI (richF T R 0), S2) := q1
    unfold f_X10_richDay
    rw [bd_ok (in_ok hb), if_neg (by decide), bd_ok q1']
    exact y1
