theorem frR_rt {M M' : Mem} (h : frR M M') {g : Nat} (hg : g ≠ 1) : rt M' g = rt M g := by
  unfold rt
  refine r5 (tr_eq fun i hi => (h.1 _ (by omega)).1) (tr_eq fun i hi => (h.1 _ (by omega)).2) (tr_eq fun i hi => h.2.1 _ (by omega)) (h.2.2 g hg).1 (h.2.2 g hg).2
theorem X9_layReduced_sp {n : NN} {tp ts : Nat} {M : Mem} {K : Mem → Prop} (hn : rt M 0 = enc n) (w : WF n tp ts)
    (h : ∀ M', rt M' 1 = enc (redN 18 n) → rt M' 0 = rt M 0 → rt M' 2 = rt M 2 → M'.1 0 = upd (M.1 0) 58 (nI (redL 18 n).length) → rlsAt (M'.1 37) (M'.1 38) (M'.1 39) 0 (redL 18 n) → (∀ b, 5 < b → b ≠ 37 → b ≠ 38 → b ≠ 39 → M'.1 b = M.1 b) → M'.2 = M.2 → K M') : f_X9_layReduced M K := by
  unfold f_X9_layReduced
  refine X9_copies_sp (g1 := 0) (g2 := 1) (by omega) (by omega) (by omega) (fun M2 a1 a2 a3 a4 M3 e3 => ⟨20, ?_⟩)
  have f3 : ∀ b, b ≠ 0 → M3.1 b = M2.1 b := fun b hb => by rw [e3, w1_ne hb]
  have r3 : ∀ g, rt M3 g = rt M2 g := fun g => by unfold rt; rw [f3 1 (by decide), f3 2 (by decide), f3 3 (by decide), f3 4 (by decide), f3 5 (by decide)]
  refine X9_lrl_sp (d := 18) (c := 0) (by omega) (mu_18 n w) (by rw [r3, a1]; exact hn) w (by rw [e3, w1_at]; rfl) (fun M' b1 b2 b3 _ b5 b6 b7 => h M' b1 ?_ ?_ ?_ b3 (fun b h1 h2 h3 h4 => ?_) ?_)
  · rw [frR_rt b5 (by decide), r3, a2 0 (by omega) (by omega)]
  · rw [frR_rt b5 (by decide), r3, a2 2 (by omega) (by omega)]
  · rw [b2, e3, w1_eq, a3 0 (by omega) (by omega) (by omega) (by omega) (by omega), Nat.zero_add]
    funext k
    by_cases q : k = 58
    · subst q; rw [upd_at, upd_at]
    · rw [upd_no q, upd_no q, upd_no q]
  · rw [b6 b h1 h2 h3 h4, f3 b (by omega), a3 b (by omega) (by omega) (by omega) (by omega) (by omega)]
  · rw [b7, e3, w1_2, a4]
