/-! ONE STEP of the law, and all of it -/
theorem cmp_self (v : Int) : w32 (cmp64 v v) = 0 := by
  rw [cmp64_eq, if_neg (show ¬ w64 v < w64 v from Int.lt_irrefl _), if_pos rfl]
  rfl
theorem step_all {L : Nat} {xs : Nat → Int} (hL : L ≤ 3072) (hx : ∀ j, -2147483648 ≤ xs j ∧ xs j < 2147483648) {p : Nat} {h : Hp} (R : RAll h h) (hp : p < 1000) : OK (L_law_l10 L xs (((6 * p : Nat) : Int), h)) (LQ (fun s' => p < L ∧ ∃ h', s' = (((6 * (p + 1) : Nat) : Int), h') ∧ RAll h' h') (fun _ => True)) := by
  obtain ⟨r1, r2, r3, r4, r5, ⟨r6, r7, r8, r9⟩, r10⟩ := id R
  unfold L_law_l10
  dsimp only
  refine OK_if (fun c => by rw [OK_some, LQ_r]; trivial) (fun c => ?_)
  rw [w32_id (z := (L : Int) - 6) (by omega) (by omega), w32_id (z := ((6 * p : Nat) : Int)) (by omega) (by omega)] at c
  have fin : ∀ h' : Hp, RAll h' h' → OK (L_law_j1235 L xs ((6 * p : Nat) : Int) h') (LQ (fun s' => p < L ∧ ∃ h', s' = (((6 * (p + 1) : Nat) : Int), h') ∧ RAll h' h') (fun _ => True)) := fun h' Rh => by
    unfold L_law_j1235
    rw [OK_some, LQ_l]
    exact ⟨by omega, h', by rw [show ((6 * (p + 1) : Nat) : Int) = ((6 * p : Nat) : Int) + 6 from by omega], Rh⟩
  refine OK_gi (by omega) (by omega) (by omega) ?_
  refine OK_if (fun _ => ?_) (fun _ => ?_)
  · refine OK_gi (by omega) (by omega) (by omega) (OK_gi (by omega) (by omega) (by omega) ?_)
    rw [OK_bindE]
    refine OK_mono (oneH_of (al_author (hx _) (hx _)) R) (fun z hz => ?_)
    obtain ⟨w, ew, e1, Rw⟩ := OK_ex hz
    refine OK_gi (by omega) (by omega) (by omega) (OK_gi (by omega) (by omega) (by omega) ?_)
    rw [ew, OK_bindE, OK_some]
    exact OK_gd (by rw [e1]) (fin w.2 Rw)
  refine OK_if (fun _ => ?_) (fun _ => ?_)
  · refine OK_gi (by omega) (by omega) (by omega) (OK_gi (by omega) (by omega) (by omega) ?_)
    rw [OK_bindE]
    refine OK_mono (oneH_of (al_work (hx _) (hx _)) R) (fun z hz => ?_)
    obtain ⟨w, ew, e1, Rw⟩ := OK_ex hz
    refine OK_gi (by omega) (by omega) (by omega) (OK_gi (by omega) (by omega) (by omega) ?_)
    rw [ew, OK_bindE, OK_some]
    exact OK_gd (by rw [e1]) (fin w.2 Rw)
  refine OK_if (fun _ => ?_) (fun _ => ?_)
  · refine OK_gi (by omega) (by omega) (by omega) ?_
    rw [OK_bindE]
    refine OK_mono (oneH_of (al_writer (hx _)) R) (fun z hz => ?_)
    obtain ⟨w, ew, e1, Rw⟩ := OK_ex hz
    refine OK_gi (by omega) (by omega) (by omega) ?_
    rw [ew, OK_bindE, OK_some]
    exact OK_gd (by rw [e1]) (fin w.2 Rw)
  refine OK_if (fun _ => ?_) (fun _ => ?_)
  · refine OK_gi (by omega) (by omega) (by omega) ?_
    rw [OK_bindE]
    refine OK_mono (oneH_of (al_seed (hx _)) R) (fun z hz => ?_)
    obtain ⟨w, ew, e1, Rw⟩ := OK_ex hz
    refine OK_gi (by omega) (by omega) (by omega) ?_
    rw [ew, OK_bindE, OK_some]
    exact OK_gd (by rw [e1]) (fin w.2 Rw)
  refine OK_if (fun _ => ?_) (fun _ => ?_)
  · refine OK_gi (by omega) (by omega) (by omega) (OK_gi (by omega) (by omega) (by omega) (OK_gi (by omega) (by omega) (by omega) (OK_gi (by omega) (by omega) (by omega) (OK_gi (by omega) (by omega) (by omega) ?_))))
    rw [OK_bindE]
    refine OK_mono (oneH_of (al_feed (hx _) (hx _) (hx _) (hx _) (hx _)) R) (fun z hz => ?_)
    obtain ⟨w, ew, e1, Rw⟩ := OK_ex hz
    refine OK_gi (by omega) (by omega) (by omega) (OK_gi (by omega) (by omega) (by omega) (OK_gi (by omega) (by omega) (by omega) (OK_gi (by omega) (by omega) (by omega) (OK_gi (by omega) (by omega) (by omega) ?_))))
    rw [ew, OK_bindE, OK_some]
    exact OK_gd (by rw [e1]) (fin w.2 Rw)
  refine OK_if (fun _ => ?_) (fun _ => ?_)
  · refine OK_gi (by omega) (by omega) (by omega) (OK_gi (by omega) (by omega) (by omega) ?_)
    rw [OK_bindE]
    refine OK_mono (oneH_of (al_left (hx _) (hx _)) R) (fun z hz => ?_)
    obtain ⟨w, ew, e1, Rw⟩ := OK_ex hz
    refine OK_gi (by omega) (by omega) (by omega) (OK_gi (by omega) (by omega) (by omega) ?_)
    rw [ew, OK_bindE, OK_some]
    exact OK_gd (by rw [e1]) (fin w.2 Rw)
  refine OK_if (fun _ => ?_) (fun _ => ?_)
  · refine OK_gi (by omega) (by omega) (by omega) (OK_gi (by omega) (by omega) (by omega) (OK_gi (by omega) (by omega) (by omega) (OK_gi (by omega) (by omega) (by omega) (OK_gi (by omega) (by omega) (by omega) ?_))))
    rw [OK_bindE]
    refine OK_mono (oneH_of (al_bit (hx _) (hx _) (hx _) (hx _) (hx _)) R) (fun z hz => ?_)
    obtain ⟨w, ew, e1, Rw⟩ := OK_ex hz
    refine OK_gi (by omega) (by omega) (by omega) (OK_gi (by omega) (by omega) (by omega) (OK_gi (by omega) (by omega) (by omega) (OK_gi (by omega) (by omega) (by omega) (OK_gi (by omega) (by omega) (by omega) ?_))))
    rw [ew, OK_bindE, OK_some]
    exact OK_gd (by rw [e1]) (fin w.2 Rw)
  refine OK_if (fun _ => ?_) (fun _ => ?_)
  · refine OK_gi (by omega) (by omega) (by omega) (OK_gi (by omega) (by omega) (by omega) ?_)
    rw [OK_bindE]
    refine OK_mono (oneH_of (al_way (hx _) (hx _)) R) (fun z hz => ?_)
    obtain ⟨w, ew, e1, Rw⟩ := OK_ex hz
    refine OK_gi (by omega) (by omega) (by omega) (OK_gi (by omega) (by omega) (by omega) ?_)
    rw [ew, OK_bindE, OK_some]
    exact OK_gd (by rw [e1]) (fin w.2 Rw)
  refine OK_if (fun _ => ?_) (fun _ => ?_)
  · refine OK_gi (by omega) (by omega) (by omega) ?_
    rw [OK_bindE]
    refine OK_mono (oneH_of (al_plan (hx _)) R) (fun z hz => ?_)
    obtain ⟨w, ew, e1, Rw⟩ := OK_ex hz
    refine OK_gi (by omega) (by omega) (by omega) ?_
    rw [ew, OK_bindE, OK_some]
    exact OK_gd (by rw [e1]) (fin w.2 Rw)
  refine OK_if (fun _ => ?_) (fun _ => ?_)
  · refine OK_gi (by omega) (by omega) (by omega) ?_
    rw [OK_bindE]
    refine OK_mono (oneH_of (al_habit (hx _)) R) (fun z hz => ?_)
    obtain ⟨w, ew, e1, Rw⟩ := OK_ex hz
    refine OK_gi (by omega) (by omega) (by omega) ?_
    rw [ew, OK_bindE, OK_some]
    exact OK_gd (by rw [e1]) (fin w.2 Rw)
  refine OK_if (fun _ => ?_) (fun _ => ?_)
  · refine OK_gi (by omega) (by omega) (by omega) ?_
    rw [OK_bindE]
    refine OK_mono (oneH_of (al_table (hx _)) R) (fun z hz => ?_)
    obtain ⟨w, ew, e1, Rw⟩ := OK_ex hz
    refine OK_gi (by omega) (by omega) (by omega) ?_
    rw [ew, OK_bindE, OK_some]
    exact OK_gd (by rw [e1]) (fin w.2 Rw)
  refine OK_if (fun _ => ?_) (fun _ => ?_)
  · refine OK_gi (by omega) (by omega) (by omega) (OK_gi (by omega) (by omega) (by omega) (OK_gi (by omega) (by omega) (by omega) (OK_gi (by omega) (by omega) (by omega) (OK_gi (by omega) (by omega) (by omega) ?_))))
    rw [OK_bindE]
    refine OK_mono (oneH_of (al_quote (hx _) (hx _) (hx _) (hx _) (hx _)) R) (fun z hz => ?_)
    obtain ⟨w, ew, e1, Rw⟩ := OK_ex hz
    refine OK_gi (by omega) (by omega) (by omega) (OK_gi (by omega) (by omega) (by omega) (OK_gi (by omega) (by omega) (by omega) (OK_gi (by omega) (by omega) (by omega) (OK_gi (by omega) (by omega) (by omega) ?_))))
    rw [ew, OK_bindE, OK_some]
    exact OK_gd (by rw [e1]) (fin w.2 Rw)
  refine OK_if (fun _ => ?_) (fun _ => ?_)
  · refine OK_gi (by omega) (by omega) (by omega) (OK_gi (by omega) (by omega) (by omega) ?_)
    rw [OK_bindE]
    refine OK_mono (bitIs_b r1 (hx _) (hx _)) (fun z hz => ?_)
    obtain ⟨w, ew, e1⟩ := OK_ex hz
    refine OK_gi (by omega) (by omega) (by omega) (OK_gi (by omega) (by omega) (by omega) ?_)
    rw [ew, OK_bindE, OK_some]
    exact OK_gd (by rw [e1]) (fin h R)
  refine OK_if (fun _ => ?_) (fun _ => ?_)
  · refine OK_gi (by omega) (by omega) (by omega) (OK_gi (by omega) (by omega) (by omega) ?_)
    rw [OK_bindE]
    refine OK_mono (oneH_of (al_apart (hx _) (hx _)) R) (fun z hz => ?_)
    obtain ⟨w, ew, e1, Rw⟩ := OK_ex hz
    refine OK_gi (by omega) (by omega) (by omega) (OK_gi (by omega) (by omega) (by omega) ?_)
    rw [ew, OK_bindE, OK_some]
    exact OK_gd (by rw [e1]) (fin w.2 Rw)
  refine OK_if (fun _ => ?_) (fun _ => ?_)
  · refine OK_gi (by omega) (by omega) (by omega) (OK_gi (by omega) (by omega) (by omega) (OK_gi (by omega) (by omega) (by omega) ?_))
    rw [OK_bindE]
    refine OK_mono (oneH_of (al_near (hx _) (hx _) (hx _)) R) (fun z hz => ?_)
    obtain ⟨w, ew, e1, Rw⟩ := OK_ex hz
    refine OK_gi (by omega) (by omega) (by omega) (OK_gi (by omega) (by omega) (by omega) (OK_gi (by omega) (by omega) (by omega) ?_))
    rw [ew, OK_bindE, OK_some]
    exact OK_gd (by rw [e1]) (fin w.2 Rw)
  refine OK_if (fun _ => ?_) (fun _ => ?_)
  · refine OK_gi (by omega) (by omega) (by omega) (OK_gi (by omega) (by omega) (by omega) ?_)
    rw [OK_bindE]
    refine OK_mono (oneH_of (al_nearness (hx _) (hx _)) R) (fun z hz => ?_)
    obtain ⟨w, ew, e1, Rw⟩ := OK_ex hz
    refine OK_gi (by omega) (by omega) (by omega) (OK_gi (by omega) (by omega) (by omega) ?_)
    rw [ew, OK_bindE, OK_some]
    exact OK_gd (by rw [e1]) (fin w.2 Rw)
  refine OK_if (fun _ => ?_) (fun _ => ?_)
  · refine OK_gi (by omega) (by omega) (by omega) (OK_gi (by omega) (by omega) (by omega) ?_)
    rw [OK_bindE]
    refine OK_mono (oneH_of (al_same (hx _) (hx _)) R) (fun z hz => ?_)
    obtain ⟨w, ew, e1, Rw⟩ := OK_ex hz
    refine OK_gi (by omega) (by omega) (by omega) (OK_gi (by omega) (by omega) (by omega) ?_)
    rw [ew, OK_bindE, OK_some]
    exact OK_gd (by rw [e1]; exact cmp_self _) (fin w.2 Rw)
  refine OK_if (fun _ => ?_) (fun _ => ?_)
  · refine OK_gi (by omega) (by omega) (by omega) (OK_gi (by omega) (by omega) (by omega) (OK_gi (by omega) (by omega) (by omega) ?_))
    rw [OK_bindE]
    refine OK_mono (oneH_of (al_stood (hx _) (hx _) (hx _)) R) (fun z hz => ?_)
    obtain ⟨w, ew, e1, Rw⟩ := OK_ex hz
    refine OK_gi (by omega) (by omega) (by omega) (OK_gi (by omega) (by omega) (by omega) (OK_gi (by omega) (by omega) (by omega) ?_))
    rw [ew, OK_bindE, OK_some]
    exact OK_gd (by rw [e1]) (fin w.2 Rw)
  refine OK_if (fun _ => ?_) (fun _ => ?_)
  · refine OK_gi (by omega) (by omega) (by omega) (OK_gi (by omega) (by omega) (by omega) (OK_gi (by omega) (by omega) (by omega) ?_))
    rw [OK_bindE]
    refine OK_mono (oneH_of (al_slips (hx _) (hx _) (hx _)) R) (fun z hz => ?_)
    obtain ⟨w, ew, e1, Rw⟩ := OK_ex hz
    refine OK_gi (by omega) (by omega) (by omega) (OK_gi (by omega) (by omega) (by omega) (OK_gi (by omega) (by omega) (by omega) ?_))
    rw [ew, OK_bindE, OK_some]
    exact OK_gd (by rw [e1]; exact cmp_self _) (fin w.2 Rw)
  refine OK_if (fun _ => ?_) (fun _ => ?_)
  · refine OK_gi (by omega) (by omega) (by omega) (OK_gi (by omega) (by omega) (by omega) (OK_gi (by omega) (by omega) (by omega) ?_))
    rw [OK_bindE]
    refine OK_mono (oneH_of (al_slip (hx _) (hx _) (hx _)) R) (fun z hz => ?_)
    obtain ⟨w, ew, e1, Rw⟩ := OK_ex hz
    refine OK_gi (by omega) (by omega) (by omega) (OK_gi (by omega) (by omega) (by omega) (OK_gi (by omega) (by omega) (by omega) ?_))
    rw [ew, OK_bindE, OK_some]
    exact OK_gd (by rw [e1]) (fin w.2 Rw)
  refine OK_if (fun _ => ?_) (fun _ => ?_)
  · refine OK_gi (by omega) (by omega) (by omega) (OK_gi (by omega) (by omega) (by omega) (OK_gi (by omega) (by omega) (by omega) (OK_gi (by omega) (by omega) (by omega) ?_)))
    rw [OK_bindE]
    refine OK_mono (oneH_of (al_shared (hx _) (hx _) (hx _) (hx _)) R) (fun z hz => ?_)
    obtain ⟨w, ew, e1, Rw⟩ := OK_ex hz
    refine OK_gi (by omega) (by omega) (by omega) (OK_gi (by omega) (by omega) (by omega) (OK_gi (by omega) (by omega) (by omega) (OK_gi (by omega) (by omega) (by omega) ?_)))
    rw [ew, OK_bindE, OK_some]
    exact OK_gd (by rw [e1]; exact cmp_self _) (fin w.2 Rw)
  refine OK_if (fun _ => ?_) (fun _ => ?_)
  · refine OK_gi (by omega) (by omega) (by omega) (OK_gi (by omega) (by omega) (by omega) ?_)
    rw [OK_bindE]
    refine OK_mono (oneH_of (al_groups (hx _) (hx _)) R) (fun z hz => ?_)
    obtain ⟨w, ew, e1, Rw⟩ := OK_ex hz
    refine OK_gi (by omega) (by omega) (by omega) (OK_gi (by omega) (by omega) (by omega) ?_)
    rw [ew, OK_bindE, OK_some]
    exact OK_gd (by rw [e1]) (fin w.2 Rw)
  refine OK_if (fun _ => ?_) (fun _ => ?_)
  · refine OK_gi (by omega) (by omega) (by omega) (OK_gi (by omega) (by omega) (by omega) (OK_gi (by omega) (by omega) (by omega) ?_))
    rw [OK_bindE]
    refine OK_mono (oneH_of (al_from (hx _) (hx _) (hx _)) R) (fun z hz => ?_)
    obtain ⟨w, ew, e1, Rw⟩ := OK_ex hz
    refine OK_gi (by omega) (by omega) (by omega) (OK_gi (by omega) (by omega) (by omega) (OK_gi (by omega) (by omega) (by omega) ?_))
    rw [ew, OK_bindE, OK_some]
    exact OK_gd (by rw [e1]) (fin w.2 Rw)
  refine OK_if (fun _ => ?_) (fun _ => ?_)
  · refine OK_gi (by omega) (by omega) (by omega) ?_
    rw [OK_bindE]
    refine OK_mono (oneH_of (al_there (hx _)) R) (fun z hz => ?_)
    obtain ⟨w, ew, e1, Rw⟩ := OK_ex hz
    refine OK_gi (by omega) (by omega) (by omega) ?_
    rw [ew, OK_bindE, OK_some]
    exact OK_gd (by rw [e1]) (fin w.2 Rw)
  refine OK_if (fun _ => ?_) (fun _ => ?_)
  · refine OK_gi (by omega) (by omega) (by omega) (OK_gi (by omega) (by omega) (by omega) ?_)
    rw [OK_bindE]
    refine OK_mono (oneH_of (al_ahead (hx _) (hx _)) R) (fun z hz => ?_)
    obtain ⟨w, ew, e1, Rw⟩ := OK_ex hz
    refine OK_gi (by omega) (by omega) (by omega) (OK_gi (by omega) (by omega) (by omega) ?_)
    rw [ew, OK_bindE, OK_some]
    exact OK_gd (by rw [e1]) (fin w.2 Rw)
  refine OK_if (fun _ => ?_) (fun _ => ?_)
  · refine OK_gi (by omega) (by omega) (by omega) (OK_gi (by omega) (by omega) (by omega) ?_)
    rw [OK_bindE]
    refine OK_mono (oneH_of (al_order (hx _) (hx _)) R) (fun z hz => ?_)
    obtain ⟨w, ew, e1, Rw⟩ := OK_ex hz
    refine OK_gi (by omega) (by omega) (by omega) (OK_gi (by omega) (by omega) (by omega) ?_)
    rw [ew, OK_bindE, OK_some]
    exact OK_gd (by rw [e1]) (fin w.2 Rw)
  refine OK_if (fun _ => ?_) (fun _ => ?_)
  · refine OK_gi (by omega) (by omega) (by omega) ?_
    rw [OK_bindE]
    refine OK_mono (oneH_of (al_orders (hx _)) R) (fun z hz => ?_)
    obtain ⟨w, ew, e1, Rw⟩ := OK_ex hz
    refine OK_gi (by omega) (by omega) (by omega) ?_
    rw [ew, OK_bindE, OK_some]
    exact OK_gd (by rw [e1]; exact cmp_self _) (fin w.2 Rw)
  refine OK_if (fun _ => ?_) (fun _ => ?_)
  · refine OK_gi (by omega) (by omega) (by omega) (OK_gi (by omega) (by omega) (by omega) ?_)
    rw [OK_bindE]
    refine OK_mono (oneH_of (al_sure (hx _) (hx _)) R) (fun z hz => ?_)
    obtain ⟨w, ew, e1, Rw⟩ := OK_ex hz
    refine OK_gi (by omega) (by omega) (by omega) (OK_gi (by omega) (by omega) (by omega) ?_)
    rw [ew, OK_bindE, OK_some]
    exact OK_gd (by rw [e1]) (fin w.2 Rw)
  refine OK_if (fun _ => ?_) (fun _ => ?_)
  · refine OK_gi (by omega) (by omega) (by omega) (OK_gi (by omega) (by omega) (by omega) (OK_gi (by omega) (by omega) (by omega) (OK_gi (by omega) (by omega) (by omega) ?_)))
    rw [OK_bindE]
    refine OK_mono (oneH_of (al_truth (hx _) (hx _)) R) (fun z hz => ?_)
    obtain ⟨w, ew, e1, Rw⟩ := OK_ex hz
    refine OK_gi (by omega) (by omega) (by omega) (OK_gi (by omega) (by omega) (by omega) (OK_gi (by omega) (by omega) (by omega) (OK_gi (by omega) (by omega) (by omega) ?_)))
    rw [ew, OK_bindE, OK_some]
    exact OK_gd (by rw [e1]; exact cmp_self _) (fin w.2 Rw)
  refine OK_if (fun _ => ?_) (fun _ => ?_)
  · refine OK_gi (by omega) (by omega) (by omega) (OK_gi (by omega) (by omega) (by omega) (OK_gi (by omega) (by omega) (by omega) ?_))
    rw [OK_bindE]
    refine OK_mono (twoH_of (al_length (hx _) (hx _) (hx _)) R) (fun z hz => ?_)
    obtain ⟨w, ew, e1, Rw⟩ := OK_ex hz
    refine OK_gi (by omega) (by omega) (by omega) (OK_gi (by omega) (by omega) (by omega) (OK_gi (by omega) (by omega) (by omega) ?_))
    rw [ew, OK_bindE, OK_some]
    exact OK_gd (by rw [e1]; exact cmp_self _) (fin z.2 Rw)
  refine OK_if (fun _ => ?_) (fun _ => ?_)
  · refine OK_gi (by omega) (by omega) (by omega) (OK_gi (by omega) (by omega) (by omega) (OK_gi (by omega) (by omega) (by omega) ?_))
    rw [OK_bindE]
    refine OK_mono (twoH_of (al_span (hx _) (hx _) (hx _)) R) (fun z hz => ?_)
    obtain ⟨w, ew, e1, Rw⟩ := OK_ex hz
    refine OK_gi (by omega) (by omega) (by omega) (OK_gi (by omega) (by omega) (by omega) (OK_gi (by omega) (by omega) (by omega) ?_))
    rw [ew, OK_bindE, OK_some]
    exact OK_gd (by rw [e1]) (fin z.2 Rw)
  refine OK_if (fun _ => ?_) (fun _ => ?_)
  · refine OK_gi (by omega) (by omega) (by omega) (OK_gi (by omega) (by omega) (by omega) ?_)
    rw [OK_bindE]
    refine OK_mono (nobody_b r1 (hx _) (hx _)) (fun z hz => ?_)
    obtain ⟨w, ew, e1⟩ := OK_ex hz
    refine OK_gi (by omega) (by omega) (by omega) (OK_gi (by omega) (by omega) (by omega) ?_)
    rw [ew, OK_bindE, OK_some]
    exact OK_gd (by rw [e1]; exact cmp_self _) (fin h R)
  refine OK_if (fun _ => ?_) (fun _ => ?_)
  · refine OK_gi (by omega) (by omega) (by omega) (OK_gi (by omega) (by omega) (by omega) ?_)
    rw [OK_bindE]
    refine OK_mono (oneH_of (al_whose (hx _) (hx _)) R) (fun z hz => ?_)
    obtain ⟨w, ew, e1, Rw⟩ := OK_ex hz
    refine OK_gi (by omega) (by omega) (by omega) (OK_gi (by omega) (by omega) (by omega) ?_)
    rw [ew, OK_bindE, OK_some]
    exact OK_gd (by rw [e1]) (fin w.2 Rw)
  refine OK_if (fun _ => ?_) (fun _ => ?_)
  · refine OK_gi (by omega) (by omega) (by omega) (OK_gi (by omega) (by omega) (by omega) ?_)
    rw [OK_bindE]
    refine OK_mono (oneH_of (al_men (hx _) (hx _)) R) (fun z hz => ?_)
    obtain ⟨w, ew, e1, Rw⟩ := OK_ex hz
    refine OK_gi (by omega) (by omega) (by omega) (OK_gi (by omega) (by omega) (by omega) ?_)
    rw [ew, OK_bindE, OK_some]
    exact OK_gd (by rw [e1]; exact cmp_self _) (fin w.2 Rw)
  refine OK_if (fun _ => ?_) (fun _ => ?_)
  · refine OK_gi (by omega) (by omega) (by omega) (OK_gi (by omega) (by omega) (by omega) (OK_gi (by omega) (by omega) (by omega) ?_))
    rw [OK_bindE]
    refine OK_mono (oneH_of (al_gives (hx _) (hx _) (hx _)) R) (fun z hz => ?_)
    obtain ⟨w, ew, e1, Rw⟩ := OK_ex hz
    refine OK_gi (by omega) (by omega) (by omega) (OK_gi (by omega) (by omega) (by omega) (OK_gi (by omega) (by omega) (by omega) ?_))
    rw [ew, OK_bindE, OK_some]
    exact OK_gd (by rw [e1]) (fin w.2 Rw)
  refine OK_if (fun _ => ?_) (fun _ => ?_)
  · refine OK_gi (by omega) (by omega) (by omega) (OK_gi (by omega) (by omega) (by omega) ?_)
    rw [OK_bindE]
    refine OK_mono (given_b r1 r4 (hx _) (hx _)) (fun z hz => ?_)
    obtain ⟨w, ew, e1⟩ := OK_ex hz
    refine OK_gi (by omega) (by omega) (by omega) (OK_gi (by omega) (by omega) (by omega) ?_)
    rw [ew, OK_bindE, OK_some]
    exact OK_gd (by rw [e1]) (fin h R)
  refine OK_if (fun _ => ?_) (fun _ => ?_)
  · refine OK_gi (by omega) (by omega) (by omega) ?_
    rw [OK_bindE]
    refine OK_mono (wrong_b r1 r4 (hx _)) (fun z hz => ?_)
    obtain ⟨w, ew, e1⟩ := OK_ex hz
    refine OK_gi (by omega) (by omega) (by omega) ?_
    rw [ew, OK_bindE, OK_some]
    exact OK_gd (by rw [e1]; exact cmp_self _) (fin h R)
  refine OK_if (fun _ => ?_) (fun _ => ?_)
  · refine OK_gi (by omega) (by omega) (by omega) ?_
    rw [OK_bindE]
    refine OK_mono (oneH_of (al_moves (hx _)) R) (fun z hz => ?_)
    obtain ⟨w, ew, e1, Rw⟩ := OK_ex hz
    refine OK_gi (by omega) (by omega) (by omega) ?_
    rw [ew, OK_bindE, OK_some]
    exact OK_gd (by rw [e1]) (fin w.2 Rw)
  refine OK_if (fun _ => ?_) (fun _ => ?_)
  · refine OK_gi (by omega) (by omega) (by omega) (OK_gi (by omega) (by omega) (by omega) ?_)
    rw [OK_bindE]
    refine OK_mono (oneH_of (al_check (hx _) (hx _)) R) (fun z hz => ?_)
    obtain ⟨w, ew, e1, Rw⟩ := OK_ex hz
    refine OK_gi (by omega) (by omega) (by omega) (OK_gi (by omega) (by omega) (by omega) ?_)
    rw [ew, OK_bindE, OK_some]
    exact OK_gd (by rw [e1]) (fin w.2 Rw)
  refine OK_if (fun _ => ?_) (fun _ => ?_)
  · refine OK_gi (by omega) (by omega) (by omega) ?_
    have h66 : h 66 2 = h 150 75 := by
      obtain ⟨n, P, -, ⟨⟨-, o1, o2, -⟩, -⟩⟩ := r10
      rw [o1, o2]
    rw [OK_bindE]
    refine OK_mono (count_b r1 r2 r5 h66 (hx _)) (fun z hz => ?_)
    obtain ⟨w, ew, e1⟩ := OK_ex hz
    refine OK_gi (by omega) (by omega) (by omega) ?_
    rw [ew, OK_bindE, OK_some]
    exact OK_gd (by rw [e1]) (fin h R)
  exact fin h R
theorem RAll_0 : RAll hS0 hS0 := by
  have z : ∀ e j, ¬ (e = 52 ∧ j = 1) → ¬ (e = 66 ∧ j = 16) → ¬ (e = 0 ∧ j = 15) → ¬ (e = 150 ∧ j = 6) → hS0 e j = 0 := fun e j h1 h2 h3 h4 => by
    unfold hS0
    rw [setH_f h4, setH_f h3, setH_f h2, setH_f h1]
    rfl
  have c : ∀ e, e ≠ 52 → e ≠ 66 → e ≠ 0 → e ≠ 150 → hS0 e = fun _ => 0 := fun e h1 h2 h3 h4 => funext fun j => z e j (by omega) (by omega) (by omega) (by omega)
  have e0 : hS0 0 15 = 1 := by
    unfold hS0
    rw [setH_o (by decide), setH_s]
  have e6 : hS0 150 6 = 1 := by
    unfold hS0
    rw [setH_s]
  have e16 : hS0 66 16 = -1 := by
    unfold hS0
    rw [setH_o (by decide), setH_o (by decide), setH_s]
  have z150 : ∀ j, j ≠ 6 → hS0 150 j = 0 := fun j h => z 150 j (by omega) (by omega) (by omega) (by omega)
  have b : ∀ lo hi : Int, lo ≤ 0 → 0 ≤ hi → ∀ e, e ≠ 52 → e ≠ 66 → e ≠ 0 → e ≠ 150 → ∀ i, lo ≤ hS0 e i ∧ hS0 e i ≤ hi := fun lo hi h1 h2 e q1 q2 q3 q4 i => by
    rw [c e q1 q2 q3 q4]
    exact ⟨h1, h2⟩
  have same : ∀ e e', e ≠ 52 → e ≠ 66 → e ≠ 0 → e ≠ 150 → e' ≠ 52 → e' ≠ 66 → e' ≠ 0 → e' ≠ 150 → hS0 e = hS0 e' := fun e e' h1 h2 h3 h4 h5 h6 h7 h8 => by rw [c e h1 h2 h3 h4, c e' h5 h6 h7 h8]
  have S : SB hS0 := by
    unfold SB
    simp only [z150 2 (by decide), z150 3 (by decide), z150 4 (by decide), z150 5 (by decide)]
    refine ⟨by decide, ⟨b _ _ (by decide) (by decide) 152 (by decide) (by decide) (by decide) (by decide), b _ _ (by decide) (by decide) 153 (by decide) (by decide) (by decide) (by decide), b _ _ (by decide) (by decide) 154 (by decide) (by decide) (by decide) (by decide), b _ _ (by decide) (by decide) 155 (by decide) (by decide) (by decide) (by decide)⟩, ⟨b _ _ (by decide) (by decide) 156 (by decide) (by decide) (by decide) (by decide), b _ _ (by decide) (by decide) 157 (by decide) (by decide) (by decide) (by decide), b _ _ (by decide) (by decide) 158 (by decide) (by decide) (by decide) (by decide), b _ _ (by decide) (by decide) 159 (by decide) (by decide) (by decide) (by decide)⟩, ⟨b _ _ (by decide) (by decide) 160 (by decide) (by decide) (by decide) (by decide), b _ _ (by decide) (by decide) 161 (by decide) (by decide) (by decide) (by decide), b _ _ (by decide) (by decide) 162 (by decide) (by decide) (by decide) (by decide), b _ _ (by decide) (by decide) 163 (by decide) (by decide) (by decide) (by decide)⟩, ⟨b _ _ (by decide) (by decide) 164 (by decide) (by decide) (by decide) (by decide), b _ _ (by decide) (by decide) 165 (by decide) (by decide) (by decide) (by decide)⟩, fun i hi => by omega, fun k hk => by omega, fun k _ => by rw [c 156 (by decide) (by decide) (by decide) (by decide)]⟩
  have RS0 : RS hS0 hS0 := by
    refine ⟨⟨⟨?_, ?_, ?_, ?_⟩, ⟨same _ _ (by decide) (by decide) (by decide) (by decide) (by decide) (by decide) (by decide) (by decide), same _ _ (by decide) (by decide) (by decide) (by decide) (by decide) (by decide) (by decide) (by decide), same _ _ (by decide) (by decide) (by decide) (by decide) (by decide) (by decide) (by decide) (by decide), same _ _ (by decide) (by decide) (by decide) (by decide) (by decide) (by decide) (by decide) (by decide), same _ _ (by decide) (by decide) (by decide) (by decide) (by decide) (by decide) (by decide) (by decide), same _ _ (by decide) (by decide) (by decide) (by decide) (by decide) (by decide) (by decide) (by decide), same _ _ (by decide) (by decide) (by decide) (by decide) (by decide) (by decide) (by decide) (by decide), same _ _ (by decide) (by decide) (by decide) (by decide) (by decide) (by decide) (by decide) (by decide)⟩, ⟨same _ _ (by decide) (by decide) (by decide) (by decide) (by decide) (by decide) (by decide) (by decide), same _ _ (by decide) (by decide) (by decide) (by decide) (by decide) (by decide) (by decide) (by decide), same _ _ (by decide) (by decide) (by decide) (by decide) (by decide) (by decide) (by decide) (by decide), same _ _ (by decide) (by decide) (by decide) (by decide) (by decide) (by decide) (by decide) (by decide), same _ _ (by decide) (by decide) (by decide) (by decide) (by decide) (by decide) (by decide) (by decide)⟩, fun i q _ _ => by rw [c 17 (by decide) (by decide) (by decide) (by decide), c 165 (by decide) (by decide) (by decide) (by decide)], b _ _ (by decide) (by decide) 17 (by decide) (by decide) (by decide) (by decide)⟩, S⟩
    · rw [z150 2 (by decide), c 3 (by decide) (by decide) (by decide) (by decide)]
    · rw [z150 3 (by decide), c 3 (by decide) (by decide) (by decide) (by decide)]
    · rw [z150 4 (by decide), c 3 (by decide) (by decide) (by decide) (by decide)]
    · rw [z150 5 (by decide), c 3 (by decide) (by decide) (by decide) (by decide)]
  have RT0 : RT hS0 hS0 := by
    unfold RT
    rw [z150 1 (by decide), e6, e0, c 1 (by decide) (by decide) (by decide) (by decide)]
    exact ⟨⟨rfl, by decide, by decide⟩, ⟨rfl, by decide, by decide⟩, fun i => by rw [c 2 (by decide) (by decide) (by decide) (by decide), c 151 (by decide) (by decide) (by decide) (by decide)]; exact ⟨rfl, (by decide : (-128 : Int) ≤ 0), (by decide : (0 : Int) ≤ 127)⟩⟩
  have RC0 : RC hS0 hS0 := fun i k _ _ => ⟨Or.inl (by rw [c 55 (by decide) (by decide) (by decide) (by decide)]), b (-1) 100 (by decide) (by decide) 57 (by decide) (by decide) (by decide) (by decide) _⟩
  have RE0 : RE hS0 hS0 := by
    unfold RE
    rw [z150 88 (by decide), c 81 (by decide) (by decide) (by decide) (by decide)]
    refine ⟨⟨rfl, by decide, by decide⟩, ⟨same _ _ (by decide) (by decide) (by decide) (by decide) (by decide) (by decide) (by decide) (by decide), same _ _ (by decide) (by decide) (by decide) (by decide) (by decide) (by decide) (by decide) (by decide), same _ _ (by decide) (by decide) (by decide) (by decide) (by decide) (by decide) (by decide) (by decide)⟩, ⟨b _ _ (by decide) (by decide) 196 (by decide) (by decide) (by decide) (by decide), b _ _ (by decide) (by decide) 197 (by decide) (by decide) (by decide) (by decide), b _ _ (by decide) (by decide) 198 (by decide) (by decide) (by decide) (by decide)⟩, fun g hg => by omega, fun g h _ hg => by omega⟩
  have RP0 : RP hS0 hS0 := by
    refine ⟨fun T hT => ⟨0, by omega, ?_, ?_, fun j hj => absurd hj (Nat.not_lt_zero _)⟩, fun i => ?_, fun i => ?_⟩
    · rw [c (tOf T) (by unfold tOf; split <;> omega) (by unfold tOf; split <;> omega) (by unfold tOf; split <;> omega) (by unfold tOf; split <;> omega)]
      rfl
    · rw [c 166 (by decide) (by decide) (by decide) (by decide)]
      rfl
    · exact b _ _ (by decide) (by decide) 171 (by decide) (by decide) (by decide) (by decide) i
    · exact b _ _ (by decide) (by decide) 172 (by decide) (by decide) (by decide) (by decide) i
  have lt0 : ∀ e, e ≠ 52 → e ≠ 66 → e ≠ 0 → e ≠ 150 → ∀ j, -2147483648 ≤ hS0 e j ∧ hS0 e j < 2147483648 := fun e h1 h2 h3 h4 j => by
    rw [c e h1 h2 h3 h4]
    exact ⟨(by decide : (-2147483648 : Int) ≤ 0), (by decide : (0 : Int) < 2147483648)⟩
  have RLa0 : RLa hS0 := fun U hU => by
    unfold RLw
    rw [c (86 + 8 * U + 6) (by omega) (by omega) (by omega) (by omega)]
    exact ⟨⟨rfl, rfl, rfl, rfl, rfl, rfl⟩, fun j => ⟨(by decide : (-2147483648 : Int) ≤ 0), (by decide : (0 : Int) < 2147483648)⟩⟩
  have c50 := c 50 (by decide) (by decide) (by decide) (by decide)
  have c42 := c 42 (by decide) (by decide) (by decide) (by decide)
  have c34 := c 34 (by decide) (by decide) (by decide) (by decide)
  refine ⟨RS0, RT0, RC0, RE0, RP0, ⟨RLa0, ⟨fun j _ _ _ _ => by rw [c50], lt0 50 (by decide) (by decide) (by decide) (by decide)⟩, ⟨fun j _ _ _ _ _ _ _ => by rw [c42], lt0 42 (by decide) (by decide) (by decide) (by decide)⟩, ⟨fun j _ _ _ _ _ _ _ _ _ => by rw [c34], lt0 34 (by decide) (by decide) (by decide) (by decide)⟩⟩, 0, 0, by rw [z150 5 (by decide)]; rfl, ⟨by decide, by rw [z 66 2 (by omega) (by omega) (by omega) (by omega)]; rfl, by rw [z150 75 (by decide)]; rfl, fun q hq => absurd hq (Nat.not_lt_zero _)⟩, Or.inl e16⟩
theorem hp_all (L : Nat) (xs : Nat → Int) (hL : L ≤ 3072) (hx : ∀ j, -2147483648 ≤ xs j ∧ xs j < 2147483648) : OK (L_law L xs hS0) (fun _ => True) := by
  unfold L_law
  rw [OK_bindE]
  refine OK_mono (iter_up (fun p st => p < 1000 ∧ ∃ h : Hp, st = (((6 * p : Nat) : Int), h) ∧ RAll h h) (fun _ => True) 999 (by omega) (fun p st hp hI => ?_) ⟨by omega, hS0, rfl, RAll_0⟩) (fun _ _ => trivial)
  obtain ⟨hp1, h, rfl, R⟩ := hI
  by_cases c : 6 * p + 6 ≤ L
  · refine OK_mono (step_all hL hx R hp1) (fun s hs => ?_)
    rcases s with s | s
    · rw [LQ_l] at hs ⊢
      exact ⟨by omega, by omega, hs.2⟩
    · trivial
  · unfold L_law_l10
    refine OK_gd (by dsimp only; rw [w32_id (z := (L : Int) - 6) (by omega) (by omega), w32_id (z := ((6 * p : Nat) : Int)) (by omega) (by omega)]; omega) ?_
    rw [OK_some, LQ_r]
    trivial
