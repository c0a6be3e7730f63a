/-! ===== ANY CALL, ANY RUN ===== -/
theorem gS.up {c c' : Nat} {I : pm_I} (h : gS c I) (hc : c ≤ c') : gS c' I := by
  obtain ⟨len, txt, err, P, A, n, H, sv, S, hC, hR, ok⟩ := h
  exact ⟨len, txt, err, P, A, n, H, sv, S, hC, hR, ok.up hc⟩
theorem step_all {G : pm_G} {xs : Nat → Int32} {x4 : Int32} {I : pm_I} {K : pm_I → Prop} {c : Nat} (hG : gK G) (h : gS c I) (hc : c < 512) (hk : ∀ J, gS (c + 1) J → K J) : wStep G xs x4 I K := by
  unfold wStep
  exact ⟨fun _ => hk I (h.up (by omega)), fun _ => case_0 hG h hc hk, fun _ => case_1 hG h hc hk, fun _ => case_2 hG h hc hk, fun _ => case_3 hG h hc hk, fun _ => case_4 hG h hc hk, fun _ => case_5 hG h hc hk, fun _ => case_6 hG h hc hk, fun _ => case_7 hG h hc hk, fun _ => case_8 hG h hc hk, fun _ => case_9 hG h hc hk, fun _ => case_10 hG h hc hk, fun _ => case_11 hG h hc hk, fun _ => case_12 hG h hc hk, fun _ => case_13 hG h hc hk, fun _ => case_14 hG h hc hk, fun _ => case_15 hG h hc hk, fun _ => case_16 hG h hc hk, fun _ => case_17 hG h hc hk, fun _ => case_18 hG h hc hk, fun _ => case_19 hG h hc hk, fun _ => case_20 hG h hc hk, fun _ => case_21 hG h hc hk, fun _ => case_22 hG h hc hk, fun _ => case_23 hG h hc hk, fun _ => case_24 hG h hc hk, fun _ => case_25 hG h hc hk, fun _ => case_26 hG h hc hk, fun _ => case_27 hG h hc hk, fun _ => case_28 hG h hc hk, fun _ => case_29 hG h hc hk, fun _ => case_30 hG h hc hk, fun _ => case_31 hG h hc hk, fun _ => case_32 hG h hc hk, fun _ => case_33 hG h hc hk⟩
theorem run_all {G : pm_G} {xs : Nat → Int32} (hG : gK G) : ∀ n i c I, c + n ≤ 512 → gS c I → wRun G xs n i I
  | 0, _, _, _, _, _ => trivial
  | n + 1, i, c, I, hc, h => step_all hG h (by omega) (fun J hJ => run_all hG n (i + 6) (c + 1) J (by omega) hJ)
