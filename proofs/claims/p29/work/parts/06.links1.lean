theorem off_ne {x d : Int} : ∀ {l : List (Int × Int)}, allne x (l.map (·.1)) → Op.lookupswitch.offset l d x = d
  | [], _ => rfl
  | (a, o) :: t, h => by rw [Op.lookupswitch.offset_cons, if_neg (fun e => h.1 e.symm)]; exact off_ne h.2
theorem inW0 : ∀ w ∈ u_ws RX0 TX0 11, w ∈ lw_g := by decide +kernel
theorem kq0_1 {g : Gl} (hg : GOK g) {i : Nat} (h : kd g i = 0) : kd g (i + 1) = 11 ∧ lnT (i + 1) = 8 := by
  obtain ⟨h1, h2⟩ := kd_lt h (by decide)
  have hb : i < 129 := by rcases hg.1 with e | e <;> omega
  obtain ⟨q1, q2, q3, q4⟩ := (show ∀ i, i < 129 → kdT i = 0 → (i < 103 → i + 1 < 103) ∧ i + 1 < 129 ∧ kdT (i + 1) = 11 ∧ lnT (i + 1) = 8 from by decide +kernel) i hb h2
  have hlt : i + 1 < npl g := by rcases hg.1 with e | e <;> omega
  exact ⟨by unfold kd; rw [if_pos hlt]; exact q3, q4⟩
theorem kq0_2 {g : Gl} (hg : GOK g) {i : Nat} (h : kd g i = 0) : kd g (i + 2) = 11 ∧ lnT (i + 2) = 8 := by
  obtain ⟨h1, h2⟩ := kd_lt h (by decide)
  have hb : i < 129 := by rcases hg.1 with e | e <;> omega
  obtain ⟨q1, q2, q3, q4⟩ := (show ∀ i, i < 129 → kdT i = 0 → (i < 103 → i + 2 < 103) ∧ i + 2 < 129 ∧ kdT (i + 2) = 11 ∧ lnT (i + 2) = 8 from by decide +kernel) i hb h2
  have hlt : i + 2 < npl g := by rcases hg.1 with e | e <;> omega
  exact ⟨by unfold kd; rw [if_pos hlt]; exact q3, q4⟩
theorem kq0_3 {g : Gl} (hg : GOK g) {i : Nat} (h : kd g i = 0) : kd g (i + 3) = 11 ∧ lnT (i + 3) = 8 := by
  obtain ⟨h1, h2⟩ := kd_lt h (by decide)
  have hb : i < 129 := by rcases hg.1 with e | e <;> omega
  obtain ⟨q1, q2, q3, q4⟩ := (show ∀ i, i < 129 → kdT i = 0 → (i < 103 → i + 3 < 103) ∧ i + 3 < 129 ∧ kdT (i + 3) = 11 ∧ lnT (i + 3) = 8 from by decide +kernel) i hb h2
  have hlt : i + 3 < npl g := by rcases hg.1 with e | e <;> omega
  exact ⟨by unfold kd; rw [if_pos hlt]; exact q3, q4⟩
theorem kq0_4 {g : Gl} (hg : GOK g) {i : Nat} (h : kd g i = 0) : kd g (i + 4) = 11 ∧ lnT (i + 4) = 8 := by
  obtain ⟨h1, h2⟩ := kd_lt h (by decide)
  have hb : i < 129 := by rcases hg.1 with e | e <;> omega
  obtain ⟨q1, q2, q3, q4⟩ := (show ∀ i, i < 129 → kdT i = 0 → (i < 103 → i + 4 < 103) ∧ i + 4 < 129 ∧ kdT (i + 4) = 11 ∧ lnT (i + 4) = 8 from by decide +kernel) i hb h2
  have hlt : i + 4 < npl g := by rcases hg.1 with e | e <;> omega
  exact ⟨by unfold kd; rw [if_pos hlt]; exact q3, q4⟩
theorem kq0_5 {g : Gl} (hg : GOK g) {i : Nat} (h : kd g i = 0) : kd g (i + 5) = 11 ∧ lnT (i + 5) = 8 := by
  obtain ⟨h1, h2⟩ := kd_lt h (by decide)
  have hb : i < 129 := by rcases hg.1 with e | e <;> omega
  obtain ⟨q1, q2, q3, q4⟩ := (show ∀ i, i < 129 → kdT i = 0 → (i < 103 → i + 5 < 103) ∧ i + 5 < 129 ∧ kdT (i + 5) = 11 ∧ lnT (i + 5) = 8 from by decide +kernel) i hb h2
  have hlt : i + 5 < npl g := by rcases hg.1 with e | e <;> omega
  exact ⟨by unfold kd; rw [if_pos hlt]; exact q3, q4⟩
theorem kq0_6 {g : Gl} (hg : GOK g) {i : Nat} (h : kd g i = 0) : kd g (i + 6) = 11 ∧ lnT (i + 6) = 8 := by
  obtain ⟨h1, h2⟩ := kd_lt h (by decide)
  have hb : i < 129 := by rcases hg.1 with e | e <;> omega
  obtain ⟨q1, q2, q3, q4⟩ := (show ∀ i, i < 129 → kdT i = 0 → (i < 103 → i + 6 < 103) ∧ i + 6 < 129 ∧ kdT (i + 6) = 11 ∧ lnT (i + 6) = 8 from by decide +kernel) i hb h2
  have hlt : i + 6 < npl g := by rcases hg.1 with e | e <;> omega
  exact ⟨by unfold kd; rw [if_pos hlt]; exact q3, q4⟩
theorem kq0_7 {g : Gl} (hg : GOK g) {i : Nat} (h : kd g i = 0) : kd g (i + 7) = 11 ∧ lnT (i + 7) = 8 := by
  obtain ⟨h1, h2⟩ := kd_lt h (by decide)
  have hb : i < 129 := by rcases hg.1 with e | e <;> omega
  obtain ⟨q1, q2, q3, q4⟩ := (show ∀ i, i < 129 → kdT i = 0 → (i < 103 → i + 7 < 103) ∧ i + 7 < 129 ∧ kdT (i + 7) = 11 ∧ lnT (i + 7) = 8 from by decide +kernel) i hb h2
  have hlt : i + 7 < npl g := by rcases hg.1 with e | e <;> omega
  exact ⟨by unfold kd; rw [if_pos hlt]; exact q3, q4⟩
theorem kq0_8 {g : Gl} (hg : GOK g) {i : Nat} (h : kd g i = 0) : kd g (i + 8) = 11 ∧ lnT (i + 8) = 24 := by
  obtain ⟨h1, h2⟩ := kd_lt h (by decide)
  have hb : i < 129 := by rcases hg.1 with e | e <;> omega
  obtain ⟨q1, q2, q3, q4⟩ := (show ∀ i, i < 129 → kdT i = 0 → (i < 103 → i + 8 < 103) ∧ i + 8 < 129 ∧ kdT (i + 8) = 11 ∧ lnT (i + 8) = 24 from by decide +kernel) i hb h2
  have hlt : i + 8 < npl g := by rcases hg.1 with e | e <;> omega
  exact ⟨by unfold kd; rw [if_pos hlt]; exact q3, q4⟩
theorem kq0_9 {g : Gl} (hg : GOK g) {i : Nat} (h : kd g i = 0) : kd g (i + 9) = 11 ∧ lnT (i + 9) = 24 := by
  obtain ⟨h1, h2⟩ := kd_lt h (by decide)
  have hb : i < 129 := by rcases hg.1 with e | e <;> omega
  obtain ⟨q1, q2, q3, q4⟩ := (show ∀ i, i < 129 → kdT i = 0 → (i < 103 → i + 9 < 103) ∧ i + 9 < 129 ∧ kdT (i + 9) = 11 ∧ lnT (i + 9) = 24 from by decide +kernel) i hb h2
  have hlt : i + 9 < npl g := by rcases hg.1 with e | e <;> omega
  exact ⟨by unfold kd; rw [if_pos hlt]; exact q3, q4⟩
theorem kq0_10 {g : Gl} (hg : GOK g) {i : Nat} (h : kd g i = 0) : kd g (i + 10) = 11 ∧ lnT (i + 10) = 8 := by
  obtain ⟨h1, h2⟩ := kd_lt h (by decide)
  have hb : i < 129 := by rcases hg.1 with e | e <;> omega
  obtain ⟨q1, q2, q3, q4⟩ := (show ∀ i, i < 129 → kdT i = 0 → (i < 103 → i + 10 < 103) ∧ i + 10 < 129 ∧ kdT (i + 10) = 11 ∧ lnT (i + 10) = 8 from by decide +kernel) i hb h2
  have hlt : i + 10 < npl g := by rcases hg.1 with e | e <;> omega
  exact ⟨by unfold kd; rw [if_pos hlt]; exact q3, q4⟩
theorem inW1 : ∀ w ∈ u_ws RX1 TX1 11, w ∈ lw_g := by decide +kernel
theorem kq1_7 {g : Gl} (hg : GOK g) {i : Nat} (h : kd g i = 1) : kd g (i + 22) = 11 ∧ lnT (i + 22) = 8 := by
  obtain ⟨h1, h2⟩ := kd_lt h (by decide)
  have hb : i < 129 := by rcases hg.1 with e | e <;> omega
  obtain ⟨q1, q2, q3, q4⟩ := (show ∀ i, i < 129 → kdT i = 1 → (i < 103 → i + 22 < 103) ∧ i + 22 < 129 ∧ kdT (i + 22) = 11 ∧ lnT (i + 22) = 8 from by decide +kernel) i hb h2
  have hlt : i + 22 < npl g := by rcases hg.1 with e | e <;> omega
  exact ⟨by unfold kd; rw [if_pos hlt]; exact q3, q4⟩
theorem kq1_8 {g : Gl} (hg : GOK g) {i : Nat} (h : kd g i = 1) : kd g (i + 23) = 11 ∧ lnT (i + 23) = 9 := by
  obtain ⟨h1, h2⟩ := kd_lt h (by decide)
  have hb : i < 129 := by rcases hg.1 with e | e <;> omega
  obtain ⟨q1, q2, q3, q4⟩ := (show ∀ i, i < 129 → kdT i = 1 → (i < 103 → i + 23 < 103) ∧ i + 23 < 129 ∧ kdT (i + 23) = 11 ∧ lnT (i + 23) = 9 from by decide +kernel) i hb h2
  have hlt : i + 23 < npl g := by rcases hg.1 with e | e <;> omega
  exact ⟨by unfold kd; rw [if_pos hlt]; exact q3, q4⟩
theorem kq1_9 {g : Gl} (hg : GOK g) {i : Nat} (h : kd g i = 1) : kd g (i + 24) = 11 ∧ lnT (i + 24) = 9 := by
  obtain ⟨h1, h2⟩ := kd_lt h (by decide)
  have hb : i < 129 := by rcases hg.1 with e | e <;> omega
  obtain ⟨q1, q2, q3, q4⟩ := (show ∀ i, i < 129 → kdT i = 1 → (i < 103 → i + 24 < 103) ∧ i + 24 < 129 ∧ kdT (i + 24) = 11 ∧ lnT (i + 24) = 9 from by decide +kernel) i hb h2
  have hlt : i + 24 < npl g := by rcases hg.1 with e | e <;> omega
  exact ⟨by unfold kd; rw [if_pos hlt]; exact q3, q4⟩
theorem kq1_10 {g : Gl} (hg : GOK g) {i : Nat} (h : kd g i = 1) : kd g (i + 25) = 11 ∧ lnT (i + 25) = 9 := by
  obtain ⟨h1, h2⟩ := kd_lt h (by decide)
  have hb : i < 129 := by rcases hg.1 with e | e <;> omega
  obtain ⟨q1, q2, q3, q4⟩ := (show ∀ i, i < 129 → kdT i = 1 → (i < 103 → i + 25 < 103) ∧ i + 25 < 129 ∧ kdT (i + 25) = 11 ∧ lnT (i + 25) = 9 from by decide +kernel) i hb h2
  have hlt : i + 25 < npl g := by rcases hg.1 with e | e <;> omega
  exact ⟨by unfold kd; rw [if_pos hlt]; exact q3, q4⟩
theorem inW2 : ∀ w ∈ u_ws RX2 TX2 11, w ∈ lw_g := by decide +kernel
theorem kq2_10 {g : Gl} (hg : GOK g) {i : Nat} (h : kd g i = 2) : kd g (i + 1) = 6 := by
  obtain ⟨h1, h2⟩ := kd_lt h (by decide)
  have hb : i < 129 := by rcases hg.1 with e | e <;> omega
  obtain ⟨q1, q2, q3⟩ := (show ∀ i, i < 129 → kdT i = 2 → (i < 103 → i + 1 < 103) ∧ i + 1 < 129 ∧ kdT (i + 1) = 6 from by decide +kernel) i hb h2
  have hlt : i + 1 < npl g := by rcases hg.1 with e | e <;> omega
  exact by unfold kd; rw [if_pos hlt]; exact q3
theorem inW3 : ∀ w ∈ u_ws RX3 TX3 2, w ∈ lw_g := by decide +kernel
theorem kq3_0 {g : Gl} (hg : GOK g) {i : Nat} (h : kd g i = 3) : kd g (i + 1) = 11 ∧ lnT (i + 1) = 5 := by
  obtain ⟨h1, h2⟩ := kd_lt h (by decide)
  have hb : i < 129 := by rcases hg.1 with e | e <;> omega
  obtain ⟨q1, q2, q3, q4⟩ := (show ∀ i, i < 129 → kdT i = 3 → (i < 103 → i + 1 < 103) ∧ i + 1 < 129 ∧ kdT (i + 1) = 11 ∧ lnT (i + 1) = 5 from by decide +kernel) i hb h2
  have hlt : i + 1 < npl g := by rcases hg.1 with e | e <;> omega
  exact ⟨by unfold kd; rw [if_pos hlt]; exact q3, q4⟩
theorem inW4 : ∀ w ∈ u_ws RX4 TX4 6, w ∈ lw_g := by decide +kernel
theorem kq4_4 {g : Gl} (hg : GOK g) {i : Nat} (h : kd g i = 4) : kd g (i + 12) = 11 ∧ lnT (i + 12) = 8 := by
  obtain ⟨h1, h2⟩ := kd_lt h (by decide)
  have hb : i < 129 := by rcases hg.1 with e | e <;> omega
  obtain ⟨q1, q2, q3, q4⟩ := (show ∀ i, i < 129 → kdT i = 4 → (i < 103 → i + 12 < 103) ∧ i + 12 < 129 ∧ kdT (i + 12) = 11 ∧ lnT (i + 12) = 8 from by decide +kernel) i hb h2
  have hlt : i + 12 < npl g := by rcases hg.1 with e | e <;> omega
  exact ⟨by unfold kd; rw [if_pos hlt]; exact q3, q4⟩
theorem kq4_5 {g : Gl} (hg : GOK g) {i : Nat} (h : kd g i = 4) : kd g (i + 13) = 12 ∧ lnT (i + 13) = 549 := by
  obtain ⟨h1, h2⟩ := kd_lt h (by decide)
  have hb : i < 129 := by rcases hg.1 with e | e <;> omega
  obtain ⟨q1, q2, q3, q4⟩ := (show ∀ i, i < 129 → kdT i = 4 → (i < 103 → i + 13 < 103) ∧ i + 13 < 129 ∧ kdT (i + 13) = 12 ∧ lnT (i + 13) = 549 from by decide +kernel) i hb h2
  have hlt : i + 13 < npl g := by rcases hg.1 with e | e <;> omega
  exact ⟨by unfold kd; rw [if_pos hlt]; exact q3, q4⟩
theorem inW5 : ∀ w ∈ u_ws RX5 TX5 3, w ∈ lw_g := by decide +kernel
theorem kq5_1 {g : Gl} (hg : GOK g) {i : Nat} (h : kd g i = 5) : kd g (i + 1) = 11 ∧ lnT (i + 1) = 16 := by
  obtain ⟨h1, h2⟩ := kd_lt h (by decide)
  have hb : i < 129 := by rcases hg.1 with e | e <;> omega
  obtain ⟨q1, q2, q3, q4⟩ := (show ∀ i, i < 129 → kdT i = 5 → (i < 103 → i + 1 < 103) ∧ i + 1 < 129 ∧ kdT (i + 1) = 11 ∧ lnT (i + 1) = 16 from by decide +kernel) i hb h2
  have hlt : i + 1 < npl g := by rcases hg.1 with e | e <;> omega
  exact ⟨by unfold kd; rw [if_pos hlt]; exact q3, q4⟩
theorem kq5_2 {g : Gl} (hg : GOK g) {i : Nat} (h : kd g i = 5) : kd g (i + 2) = 11 ∧ lnT (i + 2) = 2 := by
  obtain ⟨h1, h2⟩ := kd_lt h (by decide)
  have hb : i < 129 := by rcases hg.1 with e | e <;> omega
  obtain ⟨q1, q2, q3, q4⟩ := (show ∀ i, i < 129 → kdT i = 5 → (i < 103 → i + 2 < 103) ∧ i + 2 < 129 ∧ kdT (i + 2) = 11 ∧ lnT (i + 2) = 2 from by decide +kernel) i hb h2
  have hlt : i + 2 < npl g := by rcases hg.1 with e | e <;> omega
  exact ⟨by unfold kd; rw [if_pos hlt]; exact q3, q4⟩
theorem inW6 : ∀ w ∈ u_ws RX6 TX6 10, w ∈ lw_g := by decide +kernel
theorem kq6_2 {g : Gl} (hg : GOK g) {i : Nat} (h : kd g i = 6) : kd g (i + 1) = 11 ∧ lnT (i + 1) = 6 := by
  obtain ⟨h1, h2⟩ := kd_lt h (by decide)
  have hb : i < 129 := by rcases hg.1 with e | e <;> omega
  obtain ⟨q1, q2, q3, q4⟩ := (show ∀ i, i < 129 → kdT i = 6 → (i < 103 → i + 1 < 103) ∧ i + 1 < 129 ∧ kdT (i + 1) = 11 ∧ lnT (i + 1) = 6 from by decide +kernel) i hb h2
  have hlt : i + 1 < npl g := by rcases hg.1 with e | e <;> omega
  exact ⟨by unfold kd; rw [if_pos hlt]; exact q3, q4⟩
theorem kq6_3 {g : Gl} (hg : GOK g) {i : Nat} (h : kd g i = 6) : kd g (i + 2) = 11 ∧ lnT (i + 2) = 6 := by
  obtain ⟨h1, h2⟩ := kd_lt h (by decide)
  have hb : i < 129 := by rcases hg.1 with e | e <;> omega
  obtain ⟨q1, q2, q3, q4⟩ := (show ∀ i, i < 129 → kdT i = 6 → (i < 103 → i + 2 < 103) ∧ i + 2 < 129 ∧ kdT (i + 2) = 11 ∧ lnT (i + 2) = 6 from by decide +kernel) i hb h2
  have hlt : i + 2 < npl g := by rcases hg.1 with e | e <;> omega
  exact ⟨by unfold kd; rw [if_pos hlt]; exact q3, q4⟩
theorem kq6_4 {g : Gl} (hg : GOK g) {i : Nat} (h : kd g i = 6) : kd g (i + 3) = 11 ∧ lnT (i + 3) = 6 := by
  obtain ⟨h1, h2⟩ := kd_lt h (by decide)
  have hb : i < 129 := by rcases hg.1 with e | e <;> omega
  obtain ⟨q1, q2, q3, q4⟩ := (show ∀ i, i < 129 → kdT i = 6 → (i < 103 → i + 3 < 103) ∧ i + 3 < 129 ∧ kdT (i + 3) = 11 ∧ lnT (i + 3) = 6 from by decide +kernel) i hb h2
  have hlt : i + 3 < npl g := by rcases hg.1 with e | e <;> omega
  exact ⟨by unfold kd; rw [if_pos hlt]; exact q3, q4⟩
theorem kq6_5 {g : Gl} (hg : GOK g) {i : Nat} (h : kd g i = 6) : kd g (i + 4) = 11 ∧ lnT (i + 4) = 6 := by
  obtain ⟨h1, h2⟩ := kd_lt h (by decide)
  have hb : i < 129 := by rcases hg.1 with e | e <;> omega
  obtain ⟨q1, q2, q3, q4⟩ := (show ∀ i, i < 129 → kdT i = 6 → (i < 103 → i + 4 < 103) ∧ i + 4 < 129 ∧ kdT (i + 4) = 11 ∧ lnT (i + 4) = 6 from by decide +kernel) i hb h2
  have hlt : i + 4 < npl g := by rcases hg.1 with e | e <;> omega
  exact ⟨by unfold kd; rw [if_pos hlt]; exact q3, q4⟩
theorem kq6_6 {g : Gl} (hg : GOK g) {i : Nat} (h : kd g i = 6) : kd g (i + 5) = 11 ∧ lnT (i + 5) = 18 := by
  obtain ⟨h1, h2⟩ := kd_lt h (by decide)
  have hb : i < 129 := by rcases hg.1 with e | e <;> omega
  obtain ⟨q1, q2, q3, q4⟩ := (show ∀ i, i < 129 → kdT i = 6 → (i < 103 → i + 5 < 103) ∧ i + 5 < 129 ∧ kdT (i + 5) = 11 ∧ lnT (i + 5) = 18 from by decide +kernel) i hb h2
  have hlt : i + 5 < npl g := by rcases hg.1 with e | e <;> omega
  exact ⟨by unfold kd; rw [if_pos hlt]; exact q3, q4⟩
theorem kq6_7 {g : Gl} (hg : GOK g) {i : Nat} (h : kd g i = 6) : kd g (i + 6) = 11 ∧ lnT (i + 6) = 18 := by
  obtain ⟨h1, h2⟩ := kd_lt h (by decide)
  have hb : i < 129 := by rcases hg.1 with e | e <;> omega
  obtain ⟨q1, q2, q3, q4⟩ := (show ∀ i, i < 129 → kdT i = 6 → (i < 103 → i + 6 < 103) ∧ i + 6 < 129 ∧ kdT (i + 6) = 11 ∧ lnT (i + 6) = 18 from by decide +kernel) i hb h2
  have hlt : i + 6 < npl g := by rcases hg.1 with e | e <;> omega
  exact ⟨by unfold kd; rw [if_pos hlt]; exact q3, q4⟩
theorem kq6_8 {g : Gl} (hg : GOK g) {i : Nat} (h : kd g i = 6) : kd g (i + 7) = 11 ∧ lnT (i + 7) = 8 := by
  obtain ⟨h1, h2⟩ := kd_lt h (by decide)
  have hb : i < 129 := by rcases hg.1 with e | e <;> omega
  obtain ⟨q1, q2, q3, q4⟩ := (show ∀ i, i < 129 → kdT i = 6 → (i < 103 → i + 7 < 103) ∧ i + 7 < 129 ∧ kdT (i + 7) = 11 ∧ lnT (i + 7) = 8 from by decide +kernel) i hb h2
  have hlt : i + 7 < npl g := by rcases hg.1 with e | e <;> omega
  exact ⟨by unfold kd; rw [if_pos hlt]; exact q3, q4⟩
theorem kq6_9 {g : Gl} (hg : GOK g) {i : Nat} (h : kd g i = 6) : kd g (i + 8) = 11 ∧ lnT (i + 8) = 8 := by
  obtain ⟨h1, h2⟩ := kd_lt h (by decide)
  have hb : i < 129 := by rcases hg.1 with e | e <;> omega
  obtain ⟨q1, q2, q3, q4⟩ := (show ∀ i, i < 129 → kdT i = 6 → (i < 103 → i + 8 < 103) ∧ i + 8 < 129 ∧ kdT (i + 8) = 11 ∧ lnT (i + 8) = 8 from by decide +kernel) i hb h2
  have hlt : i + 8 < npl g := by rcases hg.1 with e | e <;> omega
  exact ⟨by unfold kd; rw [if_pos hlt]; exact q3, q4⟩
theorem inW7 : ∀ w ∈ u_ws RX7 TX7 2, w ∈ lw_g := by decide +kernel
theorem kq7_0 {g : Gl} (hg : GOK g) {i : Nat} (h : kd g i = 7) : kd g (i + 1) = 11 ∧ lnT (i + 1) = 300 := by
  obtain ⟨h1, h2⟩ := kd_lt h (by decide)
  have hb : i < 129 := by rcases hg.1 with e | e <;> omega
  obtain ⟨q1, q2, q3, q4⟩ := (show ∀ i, i < 129 → kdT i = 7 → (i < 103 → i + 1 < 103) ∧ i + 1 < 129 ∧ kdT (i + 1) = 11 ∧ lnT (i + 1) = 300 from by decide +kernel) i hb h2
  have hlt : i + 1 < npl g := by rcases hg.1 with e | e <;> omega
  exact ⟨by unfold kd; rw [if_pos hlt]; exact q3, q4⟩
theorem inW8 : ∀ w ∈ u_ws RX8 TX8 10, w ∈ lw_g := by decide +kernel
theorem kq8_5 {g : Gl} (hg : GOK g) {i : Nat} (h : kd g i = 8) : kd g (i + 1) = 12 ∧ lnT (i + 1) = 8 := by
  obtain ⟨h1, h2⟩ := kd_lt h (by decide)
  have hb : i < 129 := by rcases hg.1 with e | e <;> omega
  obtain ⟨q1, q2, q3, q4⟩ := (show ∀ i, i < 129 → kdT i = 8 → (i < 103 → i + 1 < 103) ∧ i + 1 < 129 ∧ kdT (i + 1) = 12 ∧ lnT (i + 1) = 8 from by decide +kernel) i hb h2
  have hlt : i + 1 < npl g := by rcases hg.1 with e | e <;> omega
  exact ⟨by unfold kd; rw [if_pos hlt]; exact q3, q4⟩
theorem kq8_6 {g : Gl} (hg : GOK g) {i : Nat} (h : kd g i = 8) : kd g (i + 2) = 12 ∧ lnT (i + 2) = 8 := by
  obtain ⟨h1, h2⟩ := kd_lt h (by decide)
  have hb : i < 129 := by rcases hg.1 with e | e <;> omega
  obtain ⟨q1, q2, q3, q4⟩ := (show ∀ i, i < 129 → kdT i = 8 → (i < 103 → i + 2 < 103) ∧ i + 2 < 129 ∧ kdT (i + 2) = 12 ∧ lnT (i + 2) = 8 from by decide +kernel) i hb h2
  have hlt : i + 2 < npl g := by rcases hg.1 with e | e <;> omega
  exact ⟨by unfold kd; rw [if_pos hlt]; exact q3, q4⟩
theorem kq8_7 {g : Gl} (hg : GOK g) {i : Nat} (h : kd g i = 8) : kd g (i + 3) = 11 ∧ lnT (i + 3) = 8 := by
  obtain ⟨h1, h2⟩ := kd_lt h (by decide)
  have hb : i < 129 := by rcases hg.1 with e | e <;> omega
  obtain ⟨q1, q2, q3, q4⟩ := (show ∀ i, i < 129 → kdT i = 8 → (i < 103 → i + 3 < 103) ∧ i + 3 < 129 ∧ kdT (i + 3) = 11 ∧ lnT (i + 3) = 8 from by decide +kernel) i hb h2
  have hlt : i + 3 < npl g := by rcases hg.1 with e | e <;> omega
  exact ⟨by unfold kd; rw [if_pos hlt]; exact q3, q4⟩
theorem kq8_8 {g : Gl} (hg : GOK g) {i : Nat} (h : kd g i = 8) : kd g (i + 4) = 12 ∧ lnT (i + 4) = 9 := by
  obtain ⟨h1, h2⟩ := kd_lt h (by decide)
  have hb : i < 129 := by rcases hg.1 with e | e <;> omega
  obtain ⟨q1, q2, q3, q4⟩ := (show ∀ i, i < 129 → kdT i = 8 → (i < 103 → i + 4 < 103) ∧ i + 4 < 129 ∧ kdT (i + 4) = 12 ∧ lnT (i + 4) = 9 from by decide +kernel) i hb h2
  have hlt : i + 4 < npl g := by rcases hg.1 with e | e <;> omega
  exact ⟨by unfold kd; rw [if_pos hlt]; exact q3, q4⟩
theorem kq8_9 {g : Gl} (hg : GOK g) {i : Nat} (h : kd g i = 8) : kd g (i + 5) = 11 ∧ lnT (i + 5) = 9 := by
  obtain ⟨h1, h2⟩ := kd_lt h (by decide)
  have hb : i < 129 := by rcases hg.1 with e | e <;> omega
  obtain ⟨q1, q2, q3, q4⟩ := (show ∀ i, i < 129 → kdT i = 8 → (i < 103 → i + 5 < 103) ∧ i + 5 < 129 ∧ kdT (i + 5) = 11 ∧ lnT (i + 5) = 9 from by decide +kernel) i hb h2
  have hlt : i + 5 < npl g := by rcases hg.1 with e | e <;> omega
  exact ⟨by unfold kd; rw [if_pos hlt]; exact q3, q4⟩
theorem inW9 : ∀ w ∈ u_ws RX9 TX9 19, w ∈ lw_g := by decide +kernel
theorem kq9_0 {g : Gl} (hg : GOK g) {i : Nat} (h : kd g i = 9) : kd g (i + 1) = 7 := by
  obtain ⟨h1, h2⟩ := kd_lt h (by decide)
  have hb : i < 129 := by rcases hg.1 with e | e <;> omega
  obtain ⟨q1, q2, q3⟩ := (show ∀ i, i < 129 → kdT i = 9 → (i < 103 → i + 1 < 103) ∧ i + 1 < 129 ∧ kdT (i + 1) = 7 from by decide +kernel) i hb h2
  have hlt : i + 1 < npl g := by rcases hg.1 with e | e <;> omega
  exact by unfold kd; rw [if_pos hlt]; exact q3
theorem kq9_1 {g : Gl} (hg : GOK g) {i : Nat} (h : kd g i = 9) : kd g (i + 3) = 3 := by
  obtain ⟨h1, h2⟩ := kd_lt h (by decide)
  have hb : i < 129 := by rcases hg.1 with e | e <;> omega
  obtain ⟨q1, q2, q3⟩ := (show ∀ i, i < 129 → kdT i = 9 → (i < 103 → i + 3 < 103) ∧ i + 3 < 129 ∧ kdT (i + 3) = 3 from by decide +kernel) i hb h2
  have hlt : i + 3 < npl g := by rcases hg.1 with e | e <;> omega
  exact by unfold kd; rw [if_pos hlt]; exact q3
theorem kq9_4 {g : Gl} (hg : GOK g) {i : Nat} (h : kd g i = 9) : kd g (i + 25) = 0 := by
  obtain ⟨h1, h2⟩ := kd_lt h (by decide)
  have hb : i < 129 := by rcases hg.1 with e | e <;> omega
  obtain ⟨q1, q2, q3⟩ := (show ∀ i, i < 129 → kdT i = 9 → (i < 103 → i + 25 < 103) ∧ i + 25 < 129 ∧ kdT (i + 25) = 0 from by decide +kernel) i hb h2
  have hlt : i + 25 < npl g := by rcases hg.1 with e | e <;> omega
  exact by unfold kd; rw [if_pos hlt]; exact q3
theorem kq9_5 {g : Gl} (hg : GOK g) {i : Nat} (h : kd g i = 9) : kd g (i + 36) = 0 := by
  obtain ⟨h1, h2⟩ := kd_lt h (by decide)
  have hb : i < 129 := by rcases hg.1 with e | e <;> omega
  obtain ⟨q1, q2, q3⟩ := (show ∀ i, i < 129 → kdT i = 9 → (i < 103 → i + 36 < 103) ∧ i + 36 < 129 ∧ kdT (i + 36) = 0 from by decide +kernel) i hb h2
  have hlt : i + 36 < npl g := by rcases hg.1 with e | e <;> omega
  exact by unfold kd; rw [if_pos hlt]; exact q3
theorem kq9_6 {g : Gl} (hg : GOK g) {i : Nat} (h : kd g i = 9) : kd g (i + 47) = 1 := by
  obtain ⟨h1, h2⟩ := kd_lt h (by decide)
  have hb : i < 129 := by rcases hg.1 with e | e <;> omega
  obtain ⟨q1, q2, q3⟩ := (show ∀ i, i < 129 → kdT i = 9 → (i < 103 → i + 47 < 103) ∧ i + 47 < 129 ∧ kdT (i + 47) = 1 from by decide +kernel) i hb h2
  have hlt : i + 47 < npl g := by rcases hg.1 with e | e <;> omega
  exact by unfold kd; rw [if_pos hlt]; exact q3
theorem kq9_7 {g : Gl} (hg : GOK g) {i : Nat} (h : kd g i = 9) : kd g (i + 73) = 8 := by
  obtain ⟨h1, h2⟩ := kd_lt h (by decide)
  have hb : i < 129 := by rcases hg.1 with e | e <;> omega
  obtain ⟨q1, q2, q3⟩ := (show ∀ i, i < 129 → kdT i = 9 → (i < 103 → i + 73 < 103) ∧ i + 73 < 129 ∧ kdT (i + 73) = 8 from by decide +kernel) i hb h2
  have hlt : i + 73 < npl g := by rcases hg.1 with e | e <;> omega
  exact by unfold kd; rw [if_pos hlt]; exact q3
theorem kq9_8 {g : Gl} (hg : GOK g) {i : Nat} (h : kd g i = 9) : kd g (i + 79) = 8 := by
  obtain ⟨h1, h2⟩ := kd_lt h (by decide)
  have hb : i < 129 := by rcases hg.1 with e | e <;> omega
  obtain ⟨q1, q2, q3⟩ := (show ∀ i, i < 129 → kdT i = 9 → (i < 103 → i + 79 < 103) ∧ i + 79 < 129 ∧ kdT (i + 79) = 8 from by decide +kernel) i hb h2
  have hlt : i + 79 < npl g := by rcases hg.1 with e | e <;> omega
  exact by unfold kd; rw [if_pos hlt]; exact q3
theorem kq9_9 {g : Gl} (hg : GOK g) {i : Nat} (h : kd g i = 9) : kd g (i + 85) = 4 := by
  obtain ⟨h1, h2⟩ := kd_lt h (by decide)
  have hb : i < 129 := by rcases hg.1 with e | e <;> omega
  obtain ⟨q1, q2, q3⟩ := (show ∀ i, i < 129 → kdT i = 9 → (i < 103 → i + 85 < 103) ∧ i + 85 < 129 ∧ kdT (i + 85) = 4 from by decide +kernel) i hb h2
  have hlt : i + 85 < npl g := by rcases hg.1 with e | e <;> omega
  exact by unfold kd; rw [if_pos hlt]; exact q3
theorem kq9_10 {g : Gl} (hg : GOK g) {i : Nat} (h : kd g i = 9) : kd g (i + 99) = 11 ∧ lnT (i + 99) = 8 := by
  obtain ⟨h1, h2⟩ := kd_lt h (by decide)
  have hb : i < 129 := by rcases hg.1 with e | e <;> omega
  obtain ⟨q1, q2, q3, q4⟩ := (show ∀ i, i < 129 → kdT i = 9 → (i < 103 → i + 99 < 103) ∧ i + 99 < 129 ∧ kdT (i + 99) = 11 ∧ lnT (i + 99) = 8 from by decide +kernel) i hb h2
  have hlt : i + 99 < npl g := by rcases hg.1 with e | e <;> omega
  exact ⟨by unfold kd; rw [if_pos hlt]; exact q3, q4⟩
theorem kq9_12 {g : Gl} (hg : GOK g) {i : Nat} (h : kd g i = 9) : kd g (i + 100) = 5 := by
  obtain ⟨h1, h2⟩ := kd_lt h (by decide)
  have hb : i < 129 := by rcases hg.1 with e | e <;> omega
  obtain ⟨q1, q2, q3⟩ := (show ∀ i, i < 129 → kdT i = 9 → (i < 103 → i + 100 < 103) ∧ i + 100 < 129 ∧ kdT (i + 100) = 5 from by decide +kernel) i hb h2
  have hlt : i + 100 < npl g := by rcases hg.1 with e | e <;> omega
  exact by unfold kd; rw [if_pos hlt]; exact q3
theorem gl_X7_9 : Cond.fieldLink RX7 9 (TX7 0).1 (TX7 0).2.1 (TX7 0).2.2.1 ∈ lw_g := (lwm 54 (by decide +kernel) rfl)
theorem gf_X7_9 {p : Program} {l : Launch} {e : Env} {R : Room} {s : State} {m : MethodId} {args : Array Value} {below : List Frame} {meth : Method} {c : Code} {cells slots : Nat} {Q : State → Prop} {cc : ByteArray} {nL : Nat} {ret : Option FieldType} {g : Gl} {A : Nat → Prop} {S : St} {pc : Nat} {lv : List (Nat × Value)} {st : List Value} (cx : Cx p s m args meth c cc nL ret RX7 g A) {i : Nat} (hk : kd g i = 7) (hdg : decode cc pc = .ok (.getfield 9, 3)) (kk : WA p l e R s m args below meth c cells slots Q nL g A S (pc + 3) lv (.ref (ad g (i + 1)) :: st)) : WA p l e R s m args below meth c cells slots Q nL g A S pc lv (.ref (ad g i) :: st) := wa_get cx hk (by decide) (cell_eq7 (kd_lt hk (by decide)).2) rfl inW7 (k := 0) (by decide) gl_X7_9 rfl hdg kk
theorem gl_X7_13 : Cond.fieldLink RX7 13 (TX7 1).1 (TX7 1).2.1 (TX7 1).2.2.1 ∈ lw_g := (lwm 55 (by decide +kernel) rfl)
theorem gf_X7_13 {p : Program} {l : Launch} {e : Env} {R : Room} {s : State} {m : MethodId} {args : Array Value} {below : List Frame} {meth : Method} {c : Code} {cells slots : Nat} {Q : State → Prop} {cc : ByteArray} {nL : Nat} {ret : Option FieldType} {g : Gl} {A : Nat → Prop} {S : St} {pc : Nat} {lv : List (Nat × Value)} {st : List Value} (cx : Cx p s m args meth c cc nL ret RX7 g A) {i : Nat} (hk : kd g i = 7) (hdg : decode cc pc = .ok (.getfield 13, 3)) (kk : WA p l e R s m args below meth c cells slots Q nL g A S (pc + 3) lv (.int (S.1 i 1) :: st)) : WA p l e R s m args below meth c cells slots Q nL g A S pc lv (.ref (ad g i) :: st) := wa_get cx hk (by decide) (cell_eq7 (kd_lt hk (by decide)).2) rfl inW7 (k := 1) (by decide) gl_X7_13 rfl hdg kk
theorem pf_X7_13 {p : Program} {l : Launch} {e : Env} {R : Room} {s : State} {m : MethodId} {args : Array Value} {below : List Frame} {meth : Method} {c : Code} {cells slots : Nat} {Q : State → Prop} {cc : ByteArray} {nL : Nat} {ret : Option FieldType} {g : Gl} {A : Nat → Prop} {S : St} {pc : Nat} {lv : List (Nat × Value)} {st : List Value} (cx : Cx p s m args meth c cc nL ret RX7 g A) {i : Nat} {x : Int32} (hk : kd g i = 7) (hdg : decode cc pc = .ok (.putfield 13, 3)) (kk : WA p l e R s m args below meth c cells slots Q nL g A (pI S i 1 x) (pc + 3) lv st) : WA p l e R s m args below meth c cells slots Q nL g A S pc lv (.int x :: .ref (ad g i) :: st) := wa_put (S2 := pI S i 1 x) (ty := .int) tyX7 hk (by decide) (cell_eq7 (kd_lt hk (by decide)).2) (by rw [cell_eq7 (kd_lt hk (by decide)).2]; unfold pI; dsimp only; rw [up2_at]; rfl) cell_pI rfl inW7 tyX7_ok nmX7 (k := 1) (by decide) gl_X7_13 rfl (by decide +kernel) rfl rfl (Nat.le_of_ble_eq_true rfl) hdg (cx := cx) kk
theorem gl_X3_26 : Cond.fieldLink RX3 26 (TX7 1).1 (TX7 1).2.1 (TX7 1).2.2.1 ∈ lw_g := (lwm 56 (by decide +kernel) rfl)
theorem gf_X3_26 {p : Program} {l : Launch} {e : Env} {R : Room} {s : State} {m : MethodId} {args : Array Value} {below : List Frame} {meth : Method} {c : Code} {cells slots : Nat} {Q : State → Prop} {cc : ByteArray} {nL : Nat} {ret : Option FieldType} {g : Gl} {A : Nat → Prop} {S : St} {pc : Nat} {lv : List (Nat × Value)} {st : List Value} (cx : Cx p s m args meth c cc nL ret RX3 g A) {i : Nat} (hk : kd g i = 7) (hdg : decode cc pc = .ok (.getfield 26, 3)) (kk : WA p l e R s m args below meth c cells slots Q nL g A S (pc + 3) lv (.int (S.1 i 1) :: st)) : WA p l e R s m args below meth c cells slots Q nL g A S pc lv (.ref (ad g i) :: st) := wa_get cx hk (by decide) (cell_eq7 (kd_lt hk (by decide)).2) rfl inW7 (k := 1) (by decide) gl_X3_26 rfl hdg kk
theorem pf_X3_26 {p : Program} {l : Launch} {e : Env} {R : Room} {s : State} {m : MethodId} {args : Array Value} {below : List Frame} {meth : Method} {c : Code} {cells slots : Nat} {Q : State → Prop} {cc : ByteArray} {nL : Nat} {ret : Option FieldType} {g : Gl} {A : Nat → Prop} {S : St} {pc : Nat} {lv : List (Nat × Value)} {st : List Value} (cx : Cx p s m args meth c cc nL ret RX3 g A) {i : Nat} {x : Int32} (hk : kd g i = 7) (hdg : decode cc pc = .ok (.putfield 26, 3)) (kk : WA p l e R s m args below meth c cells slots Q nL g A (pI S i 1 x) (pc + 3) lv st) : WA p l e R s m args below meth c cells slots Q nL g A S pc lv (.int x :: .ref (ad g i) :: st) := wa_put (S2 := pI S i 1 x) (ty := .int) tyX7 hk (by decide) (cell_eq7 (kd_lt hk (by decide)).2) (by rw [cell_eq7 (kd_lt hk (by decide)).2]; unfold pI; dsimp only; rw [up2_at]; rfl) cell_pI rfl inW7 tyX7_ok nmX7 (k := 1) (by decide) gl_X3_26 rfl (by decide +kernel) rfl rfl (Nat.le_of_ble_eq_true rfl) hdg (cx := cx) kk
theorem gl_X9_110 : Cond.fieldLink RX9 110 (TX7 1).1 (TX7 1).2.1 (TX7 1).2.2.1 ∈ lw_g := (lwm 57 (by decide +kernel) rfl)
theorem gf_X9_110 {p : Program} {l : Launch} {e : Env} {R : Room} {s : State} {m : MethodId} {args : Array Value} {below : List Frame} {meth : Method} {c : Code} {cells slots : Nat} {Q : State → Prop} {cc : ByteArray} {nL : Nat} {ret : Option FieldType} {g : Gl} {A : Nat → Prop} {S : St} {pc : Nat} {lv : List (Nat × Value)} {st : List Value} (cx : Cx p s m args meth c cc nL ret RX9 g A) {i : Nat} (hk : kd g i = 7) (hdg : decode cc pc = .ok (.getfield 110, 3)) (kk : WA p l e R s m args below meth c cells slots Q nL g A S (pc + 3) lv (.int (S.1 i 1) :: st)) : WA p l e R s m args below meth c cells slots Q nL g A S pc lv (.ref (ad g i) :: st) := wa_get cx hk (by decide) (cell_eq7 (kd_lt hk (by decide)).2) rfl inW7 (k := 1) (by decide) gl_X9_110 rfl hdg kk
theorem pf_X9_110 {p : Program} {l : Launch} {e : Env} {R : Room} {s : State} {m : MethodId} {args : Array Value} {below : List Frame} {meth : Method} {c : Code} {cells slots : Nat} {Q : State → Prop} {cc : ByteArray} {nL : Nat} {ret : Option FieldType} {g : Gl} {A : Nat → Prop} {S : St} {pc : Nat} {lv : List (Nat × Value)} {st : List Value} (cx : Cx p s m args meth c cc nL ret RX9 g A) {i : Nat} {x : Int32} (hk : kd g i = 7) (hdg : decode cc pc = .ok (.putfield 110, 3)) (kk : WA p l e R s m args below meth c cells slots Q nL g A (pI S i 1 x) (pc + 3) lv st) : WA p l e R s m args below meth c cells slots Q nL g A S pc lv (.int x :: .ref (ad g i) :: st) := wa_put (S2 := pI S i 1 x) (ty := .int) tyX7 hk (by decide) (cell_eq7 (kd_lt hk (by decide)).2) (by rw [cell_eq7 (kd_lt hk (by decide)).2]; unfold pI; dsimp only; rw [up2_at]; rfl) cell_pI rfl inW7 tyX7_ok nmX7 (k := 1) (by decide) gl_X9_110 rfl (by decide +kernel) rfl rfl (Nat.le_of_ble_eq_true rfl) hdg (cx := cx) kk
theorem gl_X3_11 : Cond.fieldLink RX3 11 (TX3 0).1 (TX3 0).2.1 (TX3 0).2.2.1 ∈ lw_g := (lwm 70 (by decide +kernel) rfl)
theorem gf_X3_11 {p : Program} {l : Launch} {e : Env} {R : Room} {s : State} {m : MethodId} {args : Array Value} {below : List Frame} {meth : Method} {c : Code} {cells slots : Nat} {Q : State → Prop} {cc : ByteArray} {nL : Nat} {ret : Option FieldType} {g : Gl} {A : Nat → Prop} {S : St} {pc : Nat} {lv : List (Nat × Value)} {st : List Value} (cx : Cx p s m args meth c cc nL ret RX3 g A) {i : Nat} (hk : kd g i = 3) (hdg : decode cc pc = .ok (.getfield 11, 3)) (kk : WA p l e R s m args below meth c cells slots Q nL g A S (pc + 3) lv (.ref (ad g (i + 1)) :: st)) : WA p l e R s m args below meth c cells slots Q nL g A S pc lv (.ref (ad g i) :: st) := wa_get cx hk (by decide) (cell_eq3 (kd_lt hk (by decide)).2) rfl inW3 (k := 0) (by decide) gl_X3_11 rfl hdg kk
theorem gl_X3_20 : Cond.fieldLink RX3 20 (TX3 1).1 (TX3 1).2.1 (TX3 1).2.2.1 ∈ lw_g := (lwm 71 (by decide +kernel) rfl)
theorem gf_X3_20 {p : Program} {l : Launch} {e : Env} {R : Room} {s : State} {m : MethodId} {args : Array Value} {below : List Frame} {meth : Method} {c : Code} {cells slots : Nat} {Q : State → Prop} {cc : ByteArray} {nL : Nat} {ret : Option FieldType} {g : Gl} {A : Nat → Prop} {S : St} {pc : Nat} {lv : List (Nat × Value)} {st : List Value} (cx : Cx p s m args meth c cc nL ret RX3 g A) {i : Nat} (hk : kd g i = 3) (hdg : decode cc pc = .ok (.getfield 20, 3)) (kk : WA p l e R s m args below meth c cells slots Q nL g A S (pc + 3) lv (.int (S.1 i 1) :: st)) : WA p l e R s m args below meth c cells slots Q nL g A S pc lv (.ref (ad g i) :: st) := wa_get cx hk (by decide) (cell_eq3 (kd_lt hk (by decide)).2) rfl inW3 (k := 1) (by decide) gl_X3_20 rfl hdg kk
theorem pf_X3_20 {p : Program} {l : Launch} {e : Env} {R : Room} {s : State} {m : MethodId} {args : Array Value} {below : List Frame} {meth : Method} {c : Code} {cells slots : Nat} {Q : State → Prop} {cc : ByteArray} {nL : Nat} {ret : Option FieldType} {g : Gl} {A : Nat → Prop} {S : St} {pc : Nat} {lv : List (Nat × Value)} {st : List Value} (cx : Cx p s m args meth c cc nL ret RX3 g A) {i : Nat} {x : Int32} (hk : kd g i = 3) (hdg : decode cc pc = .ok (.putfield 20, 3)) (kk : WA p l e R s m args below meth c cells slots Q nL g A (pI S i 1 x) (pc + 3) lv st) : WA p l e R s m args below meth c cells slots Q nL g A S pc lv (.int x :: .ref (ad g i) :: st) := wa_put (S2 := pI S i 1 x) (ty := .int) tyX3 hk (by decide) (cell_eq3 (kd_lt hk (by decide)).2) (by rw [cell_eq3 (kd_lt hk (by decide)).2]; unfold pI; dsimp only; rw [up2_at]; rfl) cell_pI rfl inW3 tyX3_ok nmX3 (k := 1) (by decide) gl_X3_20 rfl (by decide +kernel) rfl rfl (Nat.le_of_ble_eq_true rfl) hdg (cx := cx) kk
theorem gl_X6_34 : Cond.fieldLink RX6 34 (TX6 0).1 (TX6 0).2.1 (TX6 0).2.2.1 ∈ lw_g := (lwm 89 (by decide +kernel) rfl)
theorem gf_X6_34 {p : Program} {l : Launch} {e : Env} {R : Room} {s : State} {m : MethodId} {args : Array Value} {below : List Frame} {meth : Method} {c : Code} {cells slots : Nat} {Q : State → Prop} {cc : ByteArray} {nL : Nat} {ret : Option FieldType} {g : Gl} {A : Nat → Prop} {S : St} {pc : Nat} {lv : List (Nat × Value)} {st : List Value} (cx : Cx p s m args meth c cc nL ret RX6 g A) {i : Nat} (hk : kd g i = 6) (hdg : decode cc pc = .ok (.getfield 34, 3)) (kk : WA p l e R s m args below meth c cells slots Q nL g A S (pc + 3) lv (.int (S.1 i 0) :: st)) : WA p l e R s m args below meth c cells slots Q nL g A S pc lv (.ref (ad g i) :: st) := wa_get cx hk (by decide) (cell_eq6 (kd_lt hk (by decide)).2) rfl inW6 (k := 0) (by decide) gl_X6_34 rfl hdg kk
theorem pf_X6_34 {p : Program} {l : Launch} {e : Env} {R : Room} {s : State} {m : MethodId} {args : Array Value} {below : List Frame} {meth : Method} {c : Code} {cells slots : Nat} {Q : State → Prop} {cc : ByteArray} {nL : Nat} {ret : Option FieldType} {g : Gl} {A : Nat → Prop} {S : St} {pc : Nat} {lv : List (Nat × Value)} {st : List Value} (cx : Cx p s m args meth c cc nL ret RX6 g A) {i : Nat} {x : Int32} (hk : kd g i = 6) (hdg : decode cc pc = .ok (.putfield 34, 3)) (kk : WA p l e R s m args below meth c cells slots Q nL g A (pI S i 0 x) (pc + 3) lv st) : WA p l e R s m args below meth c cells slots Q nL g A S pc lv (.int x :: .ref (ad g i) :: st) := wa_put (S2 := pI S i 0 x) (ty := .int) tyX6 hk (by decide) (cell_eq6 (kd_lt hk (by decide)).2) (by rw [cell_eq6 (kd_lt hk (by decide)).2]; unfold pI; dsimp only; rw [up2_at]; rfl) cell_pI rfl inW6 tyX6_ok nmX6 (k := 0) (by decide) gl_X6_34 rfl (by decide +kernel) rfl rfl (Nat.le_of_ble_eq_true rfl) hdg (cx := cx) kk
theorem gl_X9_117 : Cond.fieldLink RX9 117 (TX6 0).1 (TX6 0).2.1 (TX6 0).2.2.1 ∈ lw_g := (lwm 90 (by decide +kernel) rfl)
theorem gf_X9_117 {p : Program} {l : Launch} {e : Env} {R : Room} {s : State} {m : MethodId} {args : Array Value} {below : List Frame} {meth : Method} {c : Code} {cells slots : Nat} {Q : State → Prop} {cc : ByteArray} {nL : Nat} {ret : Option FieldType} {g : Gl} {A : Nat → Prop} {S : St} {pc : Nat} {lv : List (Nat × Value)} {st : List Value} (cx : Cx p s m args meth c cc nL ret RX9 g A) {i : Nat} (hk : kd g i = 6) (hdg : decode cc pc = .ok (.getfield 117, 3)) (kk : WA p l e R s m args below meth c cells slots Q nL g A S (pc + 3) lv (.int (S.1 i 0) :: st)) : WA p l e R s m args below meth c cells slots Q nL g A S pc lv (.ref (ad g i) :: st) := wa_get cx hk (by decide) (cell_eq6 (kd_lt hk (by decide)).2) rfl inW6 (k := 0) (by decide) gl_X9_117 rfl hdg kk
theorem pf_X9_117 {p : Program} {l : Launch} {e : Env} {R : Room} {s : State} {m : MethodId} {args : Array Value} {below : List Frame} {meth : Method} {c : Code} {cells slots : Nat} {Q : State → Prop} {cc : ByteArray} {nL : Nat} {ret : Option FieldType} {g : Gl} {A : Nat → Prop} {S : St} {pc : Nat} {lv : List (Nat × Value)} {st : List Value} (cx : Cx p s m args meth c cc nL ret RX9 g A) {i : Nat} {x : Int32} (hk : kd g i = 6) (hdg : decode cc pc = .ok (.putfield 117, 3)) (kk : WA p l e R s m args below meth c cells slots Q nL g A (pI S i 0 x) (pc + 3) lv st) : WA p l e R s m args below meth c cells slots Q nL g A S pc lv (.int x :: .ref (ad g i) :: st) := wa_put (S2 := pI S i 0 x) (ty := .int) tyX6 hk (by decide) (cell_eq6 (kd_lt hk (by decide)).2) (by rw [cell_eq6 (kd_lt hk (by decide)).2]; unfold pI; dsimp only; rw [up2_at]; rfl) cell_pI rfl inW6 tyX6_ok nmX6 (k := 0) (by decide) gl_X9_117 rfl (by decide +kernel) rfl rfl (Nat.le_of_ble_eq_true rfl) hdg (cx := cx) kk
theorem gl_X6_38 : Cond.fieldLink RX6 38 (TX6 1).1 (TX6 1).2.1 (TX6 1).2.2.1 ∈ lw_g := (lwm 91 (by decide +kernel) rfl)
theorem gf_X6_38 {p : Program} {l : Launch} {e : Env} {R : Room} {s : State} {m : MethodId} {args : Array Value} {below : List Frame} {meth : Method} {c : Code} {cells slots : Nat} {Q : State → Prop} {cc : ByteArray} {nL : Nat} {ret : Option FieldType} {g : Gl} {A : Nat → Prop} {S : St} {pc : Nat} {lv : List (Nat × Value)} {st : List Value} (cx : Cx p s m args meth c cc nL ret RX6 g A) {i : Nat} (hk : kd g i = 6) (hdg : decode cc pc = .ok (.getfield 38, 3)) (kk : WA p l e R s m args below meth c cells slots Q nL g A S (pc + 3) lv (.int (S.1 i 1) :: st)) : WA p l e R s m args below meth c cells slots Q nL g A S pc lv (.ref (ad g i) :: st) := wa_get cx hk (by decide) (cell_eq6 (kd_lt hk (by decide)).2) rfl inW6 (k := 1) (by decide) gl_X6_38 rfl hdg kk
theorem pf_X6_38 {p : Program} {l : Launch} {e : Env} {R : Room} {s : State} {m : MethodId} {args : Array Value} {below : List Frame} {meth : Method} {c : Code} {cells slots : Nat} {Q : State → Prop} {cc : ByteArray} {nL : Nat} {ret : Option FieldType} {g : Gl} {A : Nat → Prop} {S : St} {pc : Nat} {lv : List (Nat × Value)} {st : List Value} (cx : Cx p s m args meth c cc nL ret RX6 g A) {i : Nat} {x : Int32} (hk : kd g i = 6) (hdg : decode cc pc = .ok (.putfield 38, 3)) (kk : WA p l e R s m args below meth c cells slots Q nL g A (pI S i 1 x) (pc + 3) lv st) : WA p l e R s m args below meth c cells slots Q nL g A S pc lv (.int x :: .ref (ad g i) :: st) := wa_put (S2 := pI S i 1 x) (ty := .int) tyX6 hk (by decide) (cell_eq6 (kd_lt hk (by decide)).2) (by rw [cell_eq6 (kd_lt hk (by decide)).2]; unfold pI; dsimp only; rw [up2_at]; rfl) cell_pI rfl inW6 tyX6_ok nmX6 (k := 1) (by decide) gl_X6_38 rfl (by decide +kernel) rfl rfl (Nat.le_of_ble_eq_true rfl) hdg (cx := cx) kk
theorem gl_X0_50 : Cond.fieldLink RX0 50 (TX6 1).1 (TX6 1).2.1 (TX6 1).2.2.1 ∈ lw_g := (lwm 92 (by decide +kernel) rfl)
theorem gf_X0_50 {p : Program} {l : Launch} {e : Env} {R : Room} {s : State} {m : MethodId} {args : Array Value} {below : List Frame} {meth : Method} {c : Code} {cells slots : Nat} {Q : State → Prop} {cc : ByteArray} {nL : Nat} {ret : Option FieldType} {g : Gl} {A : Nat → Prop} {S : St} {pc : Nat} {lv : List (Nat × Value)} {st : List Value} (cx : Cx p s m args meth c cc nL ret RX0 g A) {i : Nat} (hk : kd g i = 6) (hdg : decode cc pc = .ok (.getfield 50, 3)) (kk : WA p l e R s m args below meth c cells slots Q nL g A S (pc + 3) lv (.int (S.1 i 1) :: st)) : WA p l e R s m args below meth c cells slots Q nL g A S pc lv (.ref (ad g i) :: st) := wa_get cx hk (by decide) (cell_eq6 (kd_lt hk (by decide)).2) rfl inW6 (k := 1) (by decide) gl_X0_50 rfl hdg kk
theorem pf_X0_50 {p : Program} {l : Launch} {e : Env} {R : Room} {s : State} {m : MethodId} {args : Array Value} {below : List Frame} {meth : Method} {c : Code} {cells slots : Nat} {Q : State → Prop} {cc : ByteArray} {nL : Nat} {ret : Option FieldType} {g : Gl} {A : Nat → Prop} {S : St} {pc : Nat} {lv : List (Nat × Value)} {st : List Value} (cx : Cx p s m args meth c cc nL ret RX0 g A) {i : Nat} {x : Int32} (hk : kd g i = 6) (hdg : decode cc pc = .ok (.putfield 50, 3)) (kk : WA p l e R s m args below meth c cells slots Q nL g A (pI S i 1 x) (pc + 3) lv st) : WA p l e R s m args below meth c cells slots Q nL g A S pc lv (.int x :: .ref (ad g i) :: st) := wa_put (S2 := pI S i 1 x) (ty := .int) tyX6 hk (by decide) (cell_eq6 (kd_lt hk (by decide)).2) (by rw [cell_eq6 (kd_lt hk (by decide)).2]; unfold pI; dsimp only; rw [up2_at]; rfl) cell_pI rfl inW6 tyX6_ok nmX6 (k := 1) (by decide) gl_X0_50 rfl (by decide +kernel) rfl rfl (Nat.le_of_ble_eq_true rfl) hdg (cx := cx) kk
theorem gl_X9_138 : Cond.fieldLink RX9 138 (TX6 1).1 (TX6 1).2.1 (TX6 1).2.2.1 ∈ lw_g := (lwm 93 (by decide +kernel) rfl)
theorem gf_X9_138 {p : Program} {l : Launch} {e : Env} {R : Room} {s : State} {m : MethodId} {args : Array Value} {below : List Frame} {meth : Method} {c : Code} {cells slots : Nat} {Q : State → Prop} {cc : ByteArray} {nL : Nat} {ret : Option FieldType} {g : Gl} {A : Nat → Prop} {S : St} {pc : Nat} {lv : List (Nat × Value)} {st : List Value} (cx : Cx p s m args meth c cc nL ret RX9 g A) {i : Nat} (hk : kd g i = 6) (hdg : decode cc pc = .ok (.getfield 138, 3)) (kk : WA p l e R s m args below meth c cells slots Q nL g A S (pc + 3) lv (.int (S.1 i 1) :: st)) : WA p l e R s m args below meth c cells slots Q nL g A S pc lv (.ref (ad g i) :: st) := wa_get cx hk (by decide) (cell_eq6 (kd_lt hk (by decide)).2) rfl inW6 (k := 1) (by decide) gl_X9_138 rfl hdg kk
theorem pf_X9_138 {p : Program} {l : Launch} {e : Env} {R : Room} {s : State} {m : MethodId} {args : Array Value} {below : List Frame} {meth : Method} {c : Code} {cells slots : Nat} {Q : State → Prop} {cc : ByteArray} {nL : Nat} {ret : Option FieldType} {g : Gl} {A : Nat → Prop} {S : St} {pc : Nat} {lv : List (Nat × Value)} {st : List Value} (cx : Cx p s m args meth c cc nL ret RX9 g A) {i : Nat} {x : Int32} (hk : kd g i = 6) (hdg : decode cc pc = .ok (.putfield 138, 3)) (kk : WA p l e R s m args below meth c cells slots Q nL g A (pI S i 1 x) (pc + 3) lv st) : WA p l e R s m args below meth c cells slots Q nL g A S pc lv (.int x :: .ref (ad g i) :: st) := wa_put (S2 := pI S i 1 x) (ty := .int) tyX6 hk (by decide) (cell_eq6 (kd_lt hk (by decide)).2) (by rw [cell_eq6 (kd_lt hk (by decide)).2]; unfold pI; dsimp only; rw [up2_at]; rfl) cell_pI rfl inW6 tyX6_ok nmX6 (k := 1) (by decide) gl_X9_138 rfl (by decide +kernel) rfl rfl (Nat.le_of_ble_eq_true rfl) hdg (cx := cx) kk
theorem gl_X6_9 : Cond.fieldLink RX6 9 (TX6 2).1 (TX6 2).2.1 (TX6 2).2.2.1 ∈ lw_g := (lwm 94 (by decide +kernel) rfl)
theorem gf_X6_9 {p : Program} {l : Launch} {e : Env} {R : Room} {s : State} {m : MethodId} {args : Array Value} {below : List Frame} {meth : Method} {c : Code} {cells slots : Nat} {Q : State → Prop} {cc : ByteArray} {nL : Nat} {ret : Option FieldType} {g : Gl} {A : Nat → Prop} {S : St} {pc : Nat} {lv : List (Nat × Value)} {st : List Value} (cx : Cx p s m args meth c cc nL ret RX6 g A) {i : Nat} (hk : kd g i = 6) (hdg : decode cc pc = .ok (.getfield 9, 3)) (kk : WA p l e R s m args below meth c cells slots Q nL g A S (pc + 3) lv (.ref (ad g (i + 1)) :: st)) : WA p l e R s m args below meth c cells slots Q nL g A S pc lv (.ref (ad g i) :: st) := wa_get cx hk (by decide) (cell_eq6 (kd_lt hk (by decide)).2) rfl inW6 (k := 2) (by decide) gl_X6_9 rfl hdg kk
theorem gl_X0_54 : Cond.fieldLink RX0 54 (TX6 2).1 (TX6 2).2.1 (TX6 2).2.2.1 ∈ lw_g := (lwm 95 (by decide +kernel) rfl)
theorem gf_X0_54 {p : Program} {l : Launch} {e : Env} {R : Room} {s : State} {m : MethodId} {args : Array Value} {below : List Frame} {meth : Method} {c : Code} {cells slots : Nat} {Q : State → Prop} {cc : ByteArray} {nL : Nat} {ret : Option FieldType} {g : Gl} {A : Nat → Prop} {S : St} {pc : Nat} {lv : List (Nat × Value)} {st : List Value} (cx : Cx p s m args meth c cc nL ret RX0 g A) {i : Nat} (hk : kd g i = 6) (hdg : decode cc pc = .ok (.getfield 54, 3)) (kk : WA p l e R s m args below meth c cells slots Q nL g A S (pc + 3) lv (.ref (ad g (i + 1)) :: st)) : WA p l e R s m args below meth c cells slots Q nL g A S pc lv (.ref (ad g i) :: st) := wa_get cx hk (by decide) (cell_eq6 (kd_lt hk (by decide)).2) rfl inW6 (k := 2) (by decide) gl_X0_54 rfl hdg kk
theorem gl_X9_152 : Cond.fieldLink RX9 152 (TX6 2).1 (TX6 2).2.1 (TX6 2).2.2.1 ∈ lw_g := (lwm 96 (by decide +kernel) rfl)
theorem gf_X9_152 {p : Program} {l : Launch} {e : Env} {R : Room} {s : State} {m : MethodId} {args : Array Value} {below : List Frame} {meth : Method} {c : Code} {cells slots : Nat} {Q : State → Prop} {cc : ByteArray} {nL : Nat} {ret : Option FieldType} {g : Gl} {A : Nat → Prop} {S : St} {pc : Nat} {lv : List (Nat × Value)} {st : List Value} (cx : Cx p s m args meth c cc nL ret RX9 g A) {i : Nat} (hk : kd g i = 6) (hdg : decode cc pc = .ok (.getfield 152, 3)) (kk : WA p l e R s m args below meth c cells slots Q nL g A S (pc + 3) lv (.ref (ad g (i + 1)) :: st)) : WA p l e R s m args below meth c cells slots Q nL g A S pc lv (.ref (ad g i) :: st) := wa_get cx hk (by decide) (cell_eq6 (kd_lt hk (by decide)).2) rfl inW6 (k := 2) (by decide) gl_X9_152 rfl hdg kk
theorem gl_X6_13 : Cond.fieldLink RX6 13 (TX6 3).1 (TX6 3).2.1 (TX6 3).2.2.1 ∈ lw_g := (lwm 97 (by decide +kernel) rfl)
theorem gf_X6_13 {p : Program} {l : Launch} {e : Env} {R : Room} {s : State} {m : MethodId} {args : Array Value} {below : List Frame} {meth : Method} {c : Code} {cells slots : Nat} {Q : State → Prop} {cc : ByteArray} {nL : Nat} {ret : Option FieldType} {g : Gl} {A : Nat → Prop} {S : St} {pc : Nat} {lv : List (Nat × Value)} {st : List Value} (cx : Cx p s m args meth c cc nL ret RX6 g A) {i : Nat} (hk : kd g i = 6) (hdg : decode cc pc = .ok (.getfield 13, 3)) (kk : WA p l e R s m args below meth c cells slots Q nL g A S (pc + 3) lv (.ref (ad g (i + 2)) :: st)) : WA p l e R s m args below meth c cells slots Q nL g A S pc lv (.ref (ad g i) :: st) := wa_get cx hk (by decide) (cell_eq6 (kd_lt hk (by decide)).2) rfl inW6 (k := 3) (by decide) gl_X6_13 rfl hdg kk
theorem gl_X0_72 : Cond.fieldLink RX0 72 (TX6 3).1 (TX6 3).2.1 (TX6 3).2.2.1 ∈ lw_g := (lwm 98 (by decide +kernel) rfl)
theorem gf_X0_72 {p : Program} {l : Launch} {e : Env} {R : Room} {s : State} {m : MethodId} {args : Array Value} {below : List Frame} {meth : Method} {c : Code} {cells slots : Nat} {Q : State → Prop} {cc : ByteArray} {nL : Nat} {ret : Option FieldType} {g : Gl} {A : Nat → Prop} {S : St} {pc : Nat} {lv : List (Nat × Value)} {st : List Value} (cx : Cx p s m args meth c cc nL ret RX0 g A) {i : Nat} (hk : kd g i = 6) (hdg : decode cc pc = .ok (.getfield 72, 3)) (kk : WA p l e R s m args below meth c cells slots Q nL g A S (pc + 3) lv (.ref (ad g (i + 2)) :: st)) : WA p l e R s m args below meth c cells slots Q nL g A S pc lv (.ref (ad g i) :: st) := wa_get cx hk (by decide) (cell_eq6 (kd_lt hk (by decide)).2) rfl inW6 (k := 3) (by decide) gl_X0_72 rfl hdg kk
theorem gl_X6_16 : Cond.fieldLink RX6 16 (TX6 4).1 (TX6 4).2.1 (TX6 4).2.2.1 ∈ lw_g := (lwm 99 (by decide +kernel) rfl)
theorem gf_X6_16 {p : Program} {l : Launch} {e : Env} {R : Room} {s : State} {m : MethodId} {args : Array Value} {below : List Frame} {meth : Method} {c : Code} {cells slots : Nat} {Q : State → Prop} {cc : ByteArray} {nL : Nat} {ret : Option FieldType} {g : Gl} {A : Nat → Prop} {S : St} {pc : Nat} {lv : List (Nat × Value)} {st : List Value} (cx : Cx p s m args meth c cc nL ret RX6 g A) {i : Nat} (hk : kd g i = 6) (hdg : decode cc pc = .ok (.getfield 16, 3)) (kk : WA p l e R s m args below meth c cells slots Q nL g A S (pc + 3) lv (.ref (ad g (i + 3)) :: st)) : WA p l e R s m args below meth c cells slots Q nL g A S pc lv (.ref (ad g i) :: st) := wa_get cx hk (by decide) (cell_eq6 (kd_lt hk (by decide)).2) rfl inW6 (k := 4) (by decide) gl_X6_16 rfl hdg kk
theorem gl_X0_73 : Cond.fieldLink RX0 73 (TX6 4).1 (TX6 4).2.1 (TX6 4).2.2.1 ∈ lw_g := (lwm 100 (by decide +kernel) rfl)
theorem gf_X0_73 {p : Program} {l : Launch} {e : Env} {R : Room} {s : State} {m : MethodId} {args : Array Value} {below : List Frame} {meth : Method} {c : Code} {cells slots : Nat} {Q : State → Prop} {cc : ByteArray} {nL : Nat} {ret : Option FieldType} {g : Gl} {A : Nat → Prop} {S : St} {pc : Nat} {lv : List (Nat × Value)} {st : List Value} (cx : Cx p s m args meth c cc nL ret RX0 g A) {i : Nat} (hk : kd g i = 6) (hdg : decode cc pc = .ok (.getfield 73, 3)) (kk : WA p l e R s m args below meth c cells slots Q nL g A S (pc + 3) lv (.ref (ad g (i + 3)) :: st)) : WA p l e R s m args below meth c cells slots Q nL g A S pc lv (.ref (ad g i) :: st) := wa_get cx hk (by decide) (cell_eq6 (kd_lt hk (by decide)).2) rfl inW6 (k := 4) (by decide) gl_X0_73 rfl hdg kk
theorem gl_X6_19 : Cond.fieldLink RX6 19 (TX6 5).1 (TX6 5).2.1 (TX6 5).2.2.1 ∈ lw_g := (lwm 101 (by decide +kernel) rfl)
theorem gf_X6_19 {p : Program} {l : Launch} {e : Env} {R : Room} {s : State} {m : MethodId} {args : Array Value} {below : List Frame} {meth : Method} {c : Code} {cells slots : Nat} {Q : State → Prop} {cc : ByteArray} {nL : Nat} {ret : Option FieldType} {g : Gl} {A : Nat → Prop} {S : St} {pc : Nat} {lv : List (Nat × Value)} {st : List Value} (cx : Cx p s m args meth c cc nL ret RX6 g A) {i : Nat} (hk : kd g i = 6) (hdg : decode cc pc = .ok (.getfield 19, 3)) (kk : WA p l e R s m args below meth c cells slots Q nL g A S (pc + 3) lv (.ref (ad g (i + 4)) :: st)) : WA p l e R s m args below meth c cells slots Q nL g A S pc lv (.ref (ad g i) :: st) := wa_get cx hk (by decide) (cell_eq6 (kd_lt hk (by decide)).2) rfl inW6 (k := 5) (by decide) gl_X6_19 rfl hdg kk
theorem gl_X0_74 : Cond.fieldLink RX0 74 (TX6 5).1 (TX6 5).2.1 (TX6 5).2.2.1 ∈ lw_g := (lwm 102 (by decide +kernel) rfl)
theorem gf_X0_74 {p : Program} {l : Launch} {e : Env} {R : Room} {s : State} {m : MethodId} {args : Array Value} {below : List Frame} {meth : Method} {c : Code} {cells slots : Nat} {Q : State → Prop} {cc : ByteArray} {nL : Nat} {ret : Option FieldType} {g : Gl} {A : Nat → Prop} {S : St} {pc : Nat} {lv : List (Nat × Value)} {st : List Value} (cx : Cx p s m args meth c cc nL ret RX0 g A) {i : Nat} (hk : kd g i = 6) (hdg : decode cc pc = .ok (.getfield 74, 3)) (kk : WA p l e R s m args below meth c cells slots Q nL g A S (pc + 3) lv (.ref (ad g (i + 4)) :: st)) : WA p l e R s m args below meth c cells slots Q nL g A S pc lv (.ref (ad g i) :: st) := wa_get cx hk (by decide) (cell_eq6 (kd_lt hk (by decide)).2) rfl inW6 (k := 5) (by decide) gl_X0_74 rfl hdg kk
theorem gl_X6_22 : Cond.fieldLink RX6 22 (TX6 6).1 (TX6 6).2.1 (TX6 6).2.2.1 ∈ lw_g := (lwm 103 (by decide +kernel) rfl)
theorem gf_X6_22 {p : Program} {l : Launch} {e : Env} {R : Room} {s : State} {m : MethodId} {args : Array Value} {below : List Frame} {meth : Method} {c : Code} {cells slots : Nat} {Q : State → Prop} {cc : ByteArray} {nL : Nat} {ret : Option FieldType} {g : Gl} {A : Nat → Prop} {S : St} {pc : Nat} {lv : List (Nat × Value)} {st : List Value} (cx : Cx p s m args meth c cc nL ret RX6 g A) {i : Nat} (hk : kd g i = 6) (hdg : decode cc pc = .ok (.getfield 22, 3)) (kk : WA p l e R s m args below meth c cells slots Q nL g A S (pc + 3) lv (.ref (ad g (i + 5)) :: st)) : WA p l e R s m args below meth c cells slots Q nL g A S pc lv (.ref (ad g i) :: st) := wa_get cx hk (by decide) (cell_eq6 (kd_lt hk (by decide)).2) rfl inW6 (k := 6) (by decide) gl_X6_22 rfl hdg kk
theorem gl_X0_75 : Cond.fieldLink RX0 75 (TX6 6).1 (TX6 6).2.1 (TX6 6).2.2.1 ∈ lw_g := (lwm 104 (by decide +kernel) rfl)
theorem gf_X0_75 {p : Program} {l : Launch} {e : Env} {R : Room} {s : State} {m : MethodId} {args : Array Value} {below : List Frame} {meth : Method} {c : Code} {cells slots : Nat} {Q : State → Prop} {cc : ByteArray} {nL : Nat} {ret : Option FieldType} {g : Gl} {A : Nat → Prop} {S : St} {pc : Nat} {lv : List (Nat × Value)} {st : List Value} (cx : Cx p s m args meth c cc nL ret RX0 g A) {i : Nat} (hk : kd g i = 6) (hdg : decode cc pc = .ok (.getfield 75, 3)) (kk : WA p l e R s m args below meth c cells slots Q nL g A S (pc + 3) lv (.ref (ad g (i + 5)) :: st)) : WA p l e R s m args below meth c cells slots Q nL g A S pc lv (.ref (ad g i) :: st) := wa_get cx hk (by decide) (cell_eq6 (kd_lt hk (by decide)).2) rfl inW6 (k := 6) (by decide) gl_X0_75 rfl hdg kk
theorem gl_X6_25 : Cond.fieldLink RX6 25 (TX6 7).1 (TX6 7).2.1 (TX6 7).2.2.1 ∈ lw_g := (lwm 105 (by decide +kernel) rfl)
theorem gf_X6_25 {p : Program} {l : Launch} {e : Env} {R : Room} {s : State} {m : MethodId} {args : Array Value} {below : List Frame} {meth : Method} {c : Code} {cells slots : Nat} {Q : State → Prop} {cc : ByteArray} {nL : Nat} {ret : Option FieldType} {g : Gl} {A : Nat → Prop} {S : St} {pc : Nat} {lv : List (Nat × Value)} {st : List Value} (cx : Cx p s m args meth c cc nL ret RX6 g A) {i : Nat} (hk : kd g i = 6) (hdg : decode cc pc = .ok (.getfield 25, 3)) (kk : WA p l e R s m args below meth c cells slots Q nL g A S (pc + 3) lv (.ref (ad g (i + 6)) :: st)) : WA p l e R s m args below meth c cells slots Q nL g A S pc lv (.ref (ad g i) :: st) := wa_get cx hk (by decide) (cell_eq6 (kd_lt hk (by decide)).2) rfl inW6 (k := 7) (by decide) gl_X6_25 rfl hdg kk
theorem gl_X0_76 : Cond.fieldLink RX0 76 (TX6 7).1 (TX6 7).2.1 (TX6 7).2.2.1 ∈ lw_g := (lwm 106 (by decide +kernel) rfl)
theorem gf_X0_76 {p : Program} {l : Launch} {e : Env} {R : Room} {s : State} {m : MethodId} {args : Array Value} {below : List Frame} {meth : Method} {c : Code} {cells slots : Nat} {Q : State → Prop} {cc : ByteArray} {nL : Nat} {ret : Option FieldType} {g : Gl} {A : Nat → Prop} {S : St} {pc : Nat} {lv : List (Nat × Value)} {st : List Value} (cx : Cx p s m args meth c cc nL ret RX0 g A) {i : Nat} (hk : kd g i = 6) (hdg : decode cc pc = .ok (.getfield 76, 3)) (kk : WA p l e R s m args below meth c cells slots Q nL g A S (pc + 3) lv (.ref (ad g (i + 6)) :: st)) : WA p l e R s m args below meth c cells slots Q nL g A S pc lv (.ref (ad g i) :: st) := wa_get cx hk (by decide) (cell_eq6 (kd_lt hk (by decide)).2) rfl inW6 (k := 7) (by decide) gl_X0_76 rfl hdg kk
theorem gl_X6_28 : Cond.fieldLink RX6 28 (TX6 8).1 (TX6 8).2.1 (TX6 8).2.2.1 ∈ lw_g := (lwm 107 (by decide +kernel) rfl)
theorem gf_X6_28 {p : Program} {l : Launch} {e : Env} {R : Room} {s : State} {m : MethodId} {args : Array Value} {below : List Frame} {meth : Method} {c : Code} {cells slots : Nat} {Q : State → Prop} {cc : ByteArray} {nL : Nat} {ret : Option FieldType} {g : Gl} {A : Nat → Prop} {S : St} {pc : Nat} {lv : List (Nat × Value)} {st : List Value} (cx : Cx p s m args meth c cc nL ret RX6 g A) {i : Nat} (hk : kd g i = 6) (hdg : decode cc pc = .ok (.getfield 28, 3)) (kk : WA p l e R s m args below meth c cells slots Q nL g A S (pc + 3) lv (.ref (ad g (i + 7)) :: st)) : WA p l e R s m args below meth c cells slots Q nL g A S pc lv (.ref (ad g i) :: st) := wa_get cx hk (by decide) (cell_eq6 (kd_lt hk (by decide)).2) rfl inW6 (k := 8) (by decide) gl_X6_28 rfl hdg kk
theorem gl_X0_55 : Cond.fieldLink RX0 55 (TX6 8).1 (TX6 8).2.1 (TX6 8).2.2.1 ∈ lw_g := (lwm 108 (by decide +kernel) rfl)
theorem gf_X0_55 {p : Program} {l : Launch} {e : Env} {R : Room} {s : State} {m : MethodId} {args : Array Value} {below : List Frame} {meth : Method} {c : Code} {cells slots : Nat} {Q : State → Prop} {cc : ByteArray} {nL : Nat} {ret : Option FieldType} {g : Gl} {A : Nat → Prop} {S : St} {pc : Nat} {lv : List (Nat × Value)} {st : List Value} (cx : Cx p s m args meth c cc nL ret RX0 g A) {i : Nat} (hk : kd g i = 6) (hdg : decode cc pc = .ok (.getfield 55, 3)) (kk : WA p l e R s m args below meth c cells slots Q nL g A S (pc + 3) lv (.ref (ad g (i + 7)) :: st)) : WA p l e R s m args below meth c cells slots Q nL g A S pc lv (.ref (ad g i) :: st) := wa_get cx hk (by decide) (cell_eq6 (kd_lt hk (by decide)).2) rfl inW6 (k := 8) (by decide) gl_X0_55 rfl hdg kk
theorem gl_X6_31 : Cond.fieldLink RX6 31 (TX6 9).1 (TX6 9).2.1 (TX6 9).2.2.1 ∈ lw_g := (lwm 109 (by decide +kernel) rfl)
theorem gf_X6_31 {p : Program} {l : Launch} {e : Env} {R : Room} {s : State} {m : MethodId} {args : Array Value} {below : List Frame} {meth : Method} {c : Code} {cells slots : Nat} {Q : State → Prop} {cc : ByteArray} {nL : Nat} {ret : Option FieldType} {g : Gl} {A : Nat → Prop} {S : St} {pc : Nat} {lv : List (Nat × Value)} {st : List Value} (cx : Cx p s m args meth c cc nL ret RX6 g A) {i : Nat} (hk : kd g i = 6) (hdg : decode cc pc = .ok (.getfield 31, 3)) (kk : WA p l e R s m args below meth c cells slots Q nL g A S (pc + 3) lv (.ref (ad g (i + 8)) :: st)) : WA p l e R s m args below meth c cells slots Q nL g A S pc lv (.ref (ad g i) :: st) := wa_get cx hk (by decide) (cell_eq6 (kd_lt hk (by decide)).2) rfl inW6 (k := 9) (by decide) gl_X6_31 rfl hdg kk
theorem gl_X0_58 : Cond.fieldLink RX0 58 (TX6 9).1 (TX6 9).2.1 (TX6 9).2.2.1 ∈ lw_g := (lwm 110 (by decide +kernel) rfl)
theorem gf_X0_58 {p : Program} {l : Launch} {e : Env} {R : Room} {s : State} {m : MethodId} {args : Array Value} {below : List Frame} {meth : Method} {c : Code} {cells slots : Nat} {Q : State → Prop} {cc : ByteArray} {nL : Nat} {ret : Option FieldType} {g : Gl} {A : Nat → Prop} {S : St} {pc : Nat} {lv : List (Nat × Value)} {st : List Value} (cx : Cx p s m args meth c cc nL ret RX0 g A) {i : Nat} (hk : kd g i = 6) (hdg : decode cc pc = .ok (.getfield 58, 3)) (kk : WA p l e R s m args below meth c cells slots Q nL g A S (pc + 3) lv (.ref (ad g (i + 8)) :: st)) : WA p l e R s m args below meth c cells slots Q nL g A S pc lv (.ref (ad g i) :: st) := wa_get cx hk (by decide) (cell_eq6 (kd_lt hk (by decide)).2) rfl inW6 (k := 9) (by decide) gl_X0_58 rfl hdg kk
theorem gl_X2_16 : Cond.fieldLink RX2 16 (TX2 0).1 (TX2 0).2.1 (TX2 0).2.2.1 ∈ lw_g := (lwm 132 (by decide +kernel) rfl)
theorem gf_X2_16 {p : Program} {l : Launch} {e : Env} {R : Room} {s : State} {m : MethodId} {args : Array Value} {below : List Frame} {meth : Method} {c : Code} {cells slots : Nat} {Q : State → Prop} {cc : ByteArray} {nL : Nat} {ret : Option FieldType} {g : Gl} {A : Nat → Prop} {S : St} {pc : Nat} {lv : List (Nat × Value)} {st : List Value} (cx : Cx p s m args meth c cc nL ret RX2 g A) {i : Nat} (hk : kd g i = 2) (hdg : decode cc pc = .ok (.getfield 16, 3)) (kk : WA p l e R s m args below meth c cells slots Q nL g A S (pc + 3) lv (.int (S.1 i 0) :: st)) : WA p l e R s m args below meth c cells slots Q nL g A S pc lv (.ref (ad g i) :: st) := wa_get cx hk (by decide) (cell_eq2 (kd_lt hk (by decide)).2) rfl inW2 (k := 0) (by decide) gl_X2_16 rfl hdg kk
theorem pf_X2_16 {p : Program} {l : Launch} {e : Env} {R : Room} {s : State} {m : MethodId} {args : Array Value} {below : List Frame} {meth : Method} {c : Code} {cells slots : Nat} {Q : State → Prop} {cc : ByteArray} {nL : Nat} {ret : Option FieldType} {g : Gl} {A : Nat → Prop} {S : St} {pc : Nat} {lv : List (Nat × Value)} {st : List Value} (cx : Cx p s m args meth c cc nL ret RX2 g A) {i : Nat} {x : Int32} (hk : kd g i = 2) (hdg : decode cc pc = .ok (.putfield 16, 3)) (kk : WA p l e R s m args below meth c cells slots Q nL g A (pI S i 0 x) (pc + 3) lv st) : WA p l e R s m args below meth c cells slots Q nL g A S pc lv (.int x :: .ref (ad g i) :: st) := wa_put (S2 := pI S i 0 x) (ty := .int) tyX2 hk (by decide) (cell_eq2 (kd_lt hk (by decide)).2) (by rw [cell_eq2 (kd_lt hk (by decide)).2]; unfold pI; dsimp only; rw [up2_at]; rfl) cell_pI rfl inW2 tyX2_ok nmX2 (k := 0) (by decide) gl_X2_16 rfl (by decide +kernel) rfl rfl (Nat.le_of_ble_eq_true rfl) hdg (cx := cx) kk
theorem gl_X4_28 : Cond.fieldLink RX4 28 (TX2 0).1 (TX2 0).2.1 (TX2 0).2.2.1 ∈ lw_g := (lwm 133 (by decide +kernel) rfl)
theorem gf_X4_28 {p : Program} {l : Launch} {e : Env} {R : Room} {s : State} {m : MethodId} {args : Array Value} {below : List Frame} {meth : Method} {c : Code} {cells slots : Nat} {Q : State → Prop} {cc : ByteArray} {nL : Nat} {ret : Option FieldType} {g : Gl} {A : Nat → Prop} {S : St} {pc : Nat} {lv : List (Nat × Value)} {st : List Value} (cx : Cx p s m args meth c cc nL ret RX4 g A) {i : Nat} (hk : kd g i = 2) (hdg : decode cc pc = .ok (.getfield 28, 3)) (kk : WA p l e R s m args below meth c cells slots Q nL g A S (pc + 3) lv (.int (S.1 i 0) :: st)) : WA p l e R s m args below meth c cells slots Q nL g A S pc lv (.ref (ad g i) :: st) := wa_get cx hk (by decide) (cell_eq2 (kd_lt hk (by decide)).2) rfl inW2 (k := 0) (by decide) gl_X4_28 rfl hdg kk
theorem pf_X4_28 {p : Program} {l : Launch} {e : Env} {R : Room} {s : State} {m : MethodId} {args : Array Value} {below : List Frame} {meth : Method} {c : Code} {cells slots : Nat} {Q : State → Prop} {cc : ByteArray} {nL : Nat} {ret : Option FieldType} {g : Gl} {A : Nat → Prop} {S : St} {pc : Nat} {lv : List (Nat × Value)} {st : List Value} (cx : Cx p s m args meth c cc nL ret RX4 g A) {i : Nat} {x : Int32} (hk : kd g i = 2) (hdg : decode cc pc = .ok (.putfield 28, 3)) (kk : WA p l e R s m args below meth c cells slots Q nL g A (pI S i 0 x) (pc + 3) lv st) : WA p l e R s m args below meth c cells slots Q nL g A S pc lv (.int x :: .ref (ad g i) :: st) := wa_put (S2 := pI S i 0 x) (ty := .int) tyX2 hk (by decide) (cell_eq2 (kd_lt hk (by decide)).2) (by rw [cell_eq2 (kd_lt hk (by decide)).2]; unfold pI; dsimp only; rw [up2_at]; rfl) cell_pI rfl inW2 tyX2_ok nmX2 (k := 0) (by decide) gl_X4_28 rfl (by decide +kernel) rfl rfl (Nat.le_of_ble_eq_true rfl) hdg (cx := cx) kk
theorem gl_X1_42 : Cond.fieldLink RX1 42 (TX2 0).1 (TX2 0).2.1 (TX2 0).2.2.1 ∈ lw_g := (lwm 134 (by decide +kernel) rfl)
theorem gf_X1_42 {p : Program} {l : Launch} {e : Env} {R : Room} {s : State} {m : MethodId} {args : Array Value} {below : List Frame} {meth : Method} {c : Code} {cells slots : Nat} {Q : State → Prop} {cc : ByteArray} {nL : Nat} {ret : Option FieldType} {g : Gl} {A : Nat → Prop} {S : St} {pc : Nat} {lv : List (Nat × Value)} {st : List Value} (cx : Cx p s m args meth c cc nL ret RX1 g A) {i : Nat} (hk : kd g i = 2) (hdg : decode cc pc = .ok (.getfield 42, 3)) (kk : WA p l e R s m args below meth c cells slots Q nL g A S (pc + 3) lv (.int (S.1 i 0) :: st)) : WA p l e R s m args below meth c cells slots Q nL g A S pc lv (.ref (ad g i) :: st) := wa_get cx hk (by decide) (cell_eq2 (kd_lt hk (by decide)).2) rfl inW2 (k := 0) (by decide) gl_X1_42 rfl hdg kk
theorem pf_X1_42 {p : Program} {l : Launch} {e : Env} {R : Room} {s : State} {m : MethodId} {args : Array Value} {below : List Frame} {meth : Method} {c : Code} {cells slots : Nat} {Q : State → Prop} {cc : ByteArray} {nL : Nat} {ret : Option FieldType} {g : Gl} {A : Nat → Prop} {S : St} {pc : Nat} {lv : List (Nat × Value)} {st : List Value} (cx : Cx p s m args meth c cc nL ret RX1 g A) {i : Nat} {x : Int32} (hk : kd g i = 2) (hdg : decode cc pc = .ok (.putfield 42, 3)) (kk : WA p l e R s m args below meth c cells slots Q nL g A (pI S i 0 x) (pc + 3) lv st) : WA p l e R s m args below meth c cells slots Q nL g A S pc lv (.int x :: .ref (ad g i) :: st) := wa_put (S2 := pI S i 0 x) (ty := .int) tyX2 hk (by decide) (cell_eq2 (kd_lt hk (by decide)).2) (by rw [cell_eq2 (kd_lt hk (by decide)).2]; unfold pI; dsimp only; rw [up2_at]; rfl) cell_pI rfl inW2 tyX2_ok nmX2 (k := 0) (by decide) gl_X1_42 rfl (by decide +kernel) rfl rfl (Nat.le_of_ble_eq_true rfl) hdg (cx := cx) kk
theorem gl_X9_209 : Cond.fieldLink RX9 209 (TX2 0).1 (TX2 0).2.1 (TX2 0).2.2.1 ∈ lw_g := (lwm 135 (by decide +kernel) rfl)
theorem gf_X9_209 {p : Program} {l : Launch} {e : Env} {R : Room} {s : State} {m : MethodId} {args : Array Value} {below : List Frame} {meth : Method} {c : Code} {cells slots : Nat} {Q : State → Prop} {cc : ByteArray} {nL : Nat} {ret : Option FieldType} {g : Gl} {A : Nat → Prop} {S : St} {pc : Nat} {lv : List (Nat × Value)} {st : List Value} (cx : Cx p s m args meth c cc nL ret RX9 g A) {i : Nat} (hk : kd g i = 2) (hdg : decode cc pc = .ok (.getfield 209, 3)) (kk : WA p l e R s m args below meth c cells slots Q nL g A S (pc + 3) lv (.int (S.1 i 0) :: st)) : WA p l e R s m args below meth c cells slots Q nL g A S pc lv (.ref (ad g i) :: st) := wa_get cx hk (by decide) (cell_eq2 (kd_lt hk (by decide)).2) rfl inW2 (k := 0) (by decide) gl_X9_209 rfl hdg kk
theorem pf_X9_209 {p : Program} {l : Launch} {e : Env} {R : Room} {s : State} {m : MethodId} {args : Array Value} {below : List Frame} {meth : Method} {c : Code} {cells slots : Nat} {Q : State → Prop} {cc : ByteArray} {nL : Nat} {ret : Option FieldType} {g : Gl} {A : Nat → Prop} {S : St} {pc : Nat} {lv : List (Nat × Value)} {st : List Value} (cx : Cx p s m args meth c cc nL ret RX9 g A) {i : Nat} {x : Int32} (hk : kd g i = 2) (hdg : decode cc pc = .ok (.putfield 209, 3)) (kk : WA p l e R s m args below meth c cells slots Q nL g A (pI S i 0 x) (pc + 3) lv st) : WA p l e R s m args below meth c cells slots Q nL g A S pc lv (.int x :: .ref (ad g i) :: st) := wa_put (S2 := pI S i 0 x) (ty := .int) tyX2 hk (by decide) (cell_eq2 (kd_lt hk (by decide)).2) (by rw [cell_eq2 (kd_lt hk (by decide)).2]; unfold pI; dsimp only; rw [up2_at]; rfl) cell_pI rfl inW2 tyX2_ok nmX2 (k := 0) (by decide) gl_X9_209 rfl (by decide +kernel) rfl rfl (Nat.le_of_ble_eq_true rfl) hdg (cx := cx) kk
theorem gl_X2_20 : Cond.fieldLink RX2 20 (TX2 1).1 (TX2 1).2.1 (TX2 1).2.2.1 ∈ lw_g := (lwm 136 (by decide +kernel) rfl)
theorem gf_X2_20 {p : Program} {l : Launch} {e : Env} {R : Room} {s : State} {m : MethodId} {args : Array Value} {below : List Frame} {meth : Method} {c : Code} {cells slots : Nat} {Q : State → Prop} {cc : ByteArray} {nL : Nat} {ret : Option FieldType} {g : Gl} {A : Nat → Prop} {S : St} {pc : Nat} {lv : List (Nat × Value)} {st : List Value} (cx : Cx p s m args meth c cc nL ret RX2 g A) {i : Nat} (hk : kd g i = 2) (hdg : decode cc pc = .ok (.getfield 20, 3)) (kk : WA p l e R s m args below meth c cells slots Q nL g A S (pc + 3) lv (.int (S.1 i 1) :: st)) : WA p l e R s m args below meth c cells slots Q nL g A S pc lv (.ref (ad g i) :: st) := wa_get cx hk (by decide) (cell_eq2 (kd_lt hk (by decide)).2) rfl inW2 (k := 1) (by decide) gl_X2_20 rfl hdg kk
theorem pf_X2_20 {p : Program} {l : Launch} {e : Env} {R : Room} {s : State} {m : MethodId} {args : Array Value} {below : List Frame} {meth : Method} {c : Code} {cells slots : Nat} {Q : State → Prop} {cc : ByteArray} {nL : Nat} {ret : Option FieldType} {g : Gl} {A : Nat → Prop} {S : St} {pc : Nat} {lv : List (Nat × Value)} {st : List Value} (cx : Cx p s m args meth c cc nL ret RX2 g A) {i : Nat} {x : Int32} (hk : kd g i = 2) (hdg : decode cc pc = .ok (.putfield 20, 3)) (kk : WA p l e R s m args below meth c cells slots Q nL g A (pI S i 1 x) (pc + 3) lv st) : WA p l e R s m args below meth c cells slots Q nL g A S pc lv (.int x :: .ref (ad g i) :: st) := wa_put (S2 := pI S i 1 x) (ty := .int) tyX2 hk (by decide) (cell_eq2 (kd_lt hk (by decide)).2) (by rw [cell_eq2 (kd_lt hk (by decide)).2]; unfold pI; dsimp only; rw [up2_at]; rfl) cell_pI rfl inW2 tyX2_ok nmX2 (k := 1) (by decide) gl_X2_20 rfl (by decide +kernel) rfl rfl (Nat.le_of_ble_eq_true rfl) hdg (cx := cx) kk
theorem gl_X4_35 : Cond.fieldLink RX4 35 (TX2 1).1 (TX2 1).2.1 (TX2 1).2.2.1 ∈ lw_g := (lwm 137 (by decide +kernel) rfl)
theorem gf_X4_35 {p : Program} {l : Launch} {e : Env} {R : Room} {s : State} {m : MethodId} {args : Array Value} {below : List Frame} {meth : Method} {c : Code} {cells slots : Nat} {Q : State → Prop} {cc : ByteArray} {nL : Nat} {ret : Option FieldType} {g : Gl} {A : Nat → Prop} {S : St} {pc : Nat} {lv : List (Nat × Value)} {st : List Value} (cx : Cx p s m args meth c cc nL ret RX4 g A) {i : Nat} (hk : kd g i = 2) (hdg : decode cc pc = .ok (.getfield 35, 3)) (kk : WA p l e R s m args below meth c cells slots Q nL g A S (pc + 3) lv (.int (S.1 i 1) :: st)) : WA p l e R s m args below meth c cells slots Q nL g A S pc lv (.ref (ad g i) :: st) := wa_get cx hk (by decide) (cell_eq2 (kd_lt hk (by decide)).2) rfl inW2 (k := 1) (by decide) gl_X4_35 rfl hdg kk
theorem pf_X4_35 {p : Program} {l : Launch} {e : Env} {R : Room} {s : State} {m : MethodId} {args : Array Value} {below : List Frame} {meth : Method} {c : Code} {cells slots : Nat} {Q : State → Prop} {cc : ByteArray} {nL : Nat} {ret : Option FieldType} {g : Gl} {A : Nat → Prop} {S : St} {pc : Nat} {lv : List (Nat × Value)} {st : List Value} (cx : Cx p s m args meth c cc nL ret RX4 g A) {i : Nat} {x : Int32} (hk : kd g i = 2) (hdg : decode cc pc = .ok (.putfield 35, 3)) (kk : WA p l e R s m args below meth c cells slots Q nL g A (pI S i 1 x) (pc + 3) lv st) : WA p l e R s m args below meth c cells slots Q nL g A S pc lv (.int x :: .ref (ad g i) :: st) := wa_put (S2 := pI S i 1 x) (ty := .int) tyX2 hk (by decide) (cell_eq2 (kd_lt hk (by decide)).2) (by rw [cell_eq2 (kd_lt hk (by decide)).2]; unfold pI; dsimp only; rw [up2_at]; rfl) cell_pI rfl inW2 tyX2_ok nmX2 (k := 1) (by decide) gl_X4_35 rfl (by decide +kernel) rfl rfl (Nat.le_of_ble_eq_true rfl) hdg (cx := cx) kk
theorem gl_X1_106 : Cond.fieldLink RX1 106 (TX2 1).1 (TX2 1).2.1 (TX2 1).2.2.1 ∈ lw_g := (lwm 138 (by decide +kernel) rfl)
theorem gf_X1_106 {p : Program} {l : Launch} {e : Env} {R : Room} {s : State} {m : MethodId} {args : Array Value} {below : List Frame} {meth : Method} {c : Code} {cells slots : Nat} {Q : State → Prop} {cc : ByteArray} {nL : Nat} {ret : Option FieldType} {g : Gl} {A : Nat → Prop} {S : St} {pc : Nat} {lv : List (Nat × Value)} {st : List Value} (cx : Cx p s m args meth c cc nL ret RX1 g A) {i : Nat} (hk : kd g i = 2) (hdg : decode cc pc = .ok (.getfield 106, 3)) (kk : WA p l e R s m args below meth c cells slots Q nL g A S (pc + 3) lv (.int (S.1 i 1) :: st)) : WA p l e R s m args below meth c cells slots Q nL g A S pc lv (.ref (ad g i) :: st) := wa_get cx hk (by decide) (cell_eq2 (kd_lt hk (by decide)).2) rfl inW2 (k := 1) (by decide) gl_X1_106 rfl hdg kk
