/-! The induction. -/
set_option maxHeartbeats 1000000 in
theorem pt_PX_all {l : Launch} (hl0 : l.stackTraces = false) : ∀ n, pt_PX l n := by
  intro n
  induction n with
  | zero =>
    intro p e R s m args below meth c Q D cy A k b x ext pc L st μ o ad dl H locs cells slots ls C htab hXt h
    simp [pt_ex] at h
  | succ n ih =>
    intro p e R s m args below meth c Q D cy A k b x ext pc L st μ o ad dl H locs cells slots ls C htab hXt h T hc hn K
    rw [pt_ex] at h
    cases hf : pt_fetch k pc with
    | none => rw [hf] at h; simp at h
    | some e9 =>
      rw [hf] at h
      simp only [] at h
      cases hs : pt_step k ext e9 L st μ with
      | none => rw [hs] at h; simp at h
      | some c9 =>
        rw [hs] at h
        rcases c9 with ⟨pc', L', st', μ'⟩ | ⟨y, as, pc', r⟩ | v' | E'
        · have hg := pt_ex_grow _ _ _ _ _ _ _ _ h
          have z1 := pt_sz_le hg
          have z2 := pt_sn_le hg
          refine pt_step_W C hf hs hXt (by omega) (by omega) T (fun ad2 dl2 H2 locs2 cells2 slots2 ls2 a1 a2 a3 a4 => ?_)
          exact ih p e R s m args below meth c Q D cy A k b x ext pc' L' st' μ' o ad2 dl2 H2 locs2 cells2 slots2 ls2 C htab hXt h a4 (by omega) (by omega) (K.next (pt_step_le hs) a1 a2 a3)
        · simp only [] at h
          obtain ⟨X, j, Z, h4, h6, rfl, hml9, hp, hrc, hfit, hk⟩ := pt_call_inv hf hs
          obtain ⟨hy, hds, hz, h5, hini, hmt⟩ := pt_ml_use hml9 h4 h6
          obtain ⟨hlen, hst⟩ := pt_pop_all hp
          obtain ⟨f1, f2, f3, f4⟩ := pt_fit_spec hfit
          have hI := T.2.2.2.2.1
          have hS := T.2.2.2.2.2
          have hA : ∀ q, s.heap.size ≤ q → A q := C.2.2.2.2.2.2.2.2.2.2.2.2.1
          have hsub := pt_A1_sub hA hI.2.2.2.2 hS
          have hoka : pt_okS μ as := fun v hv => T.2.2.2.1 v (by rw [hst]; exact List.mem_append_left _ (List.mem_reverse.mpr hv))
          have hokr : pt_okS μ r := fun v hv => T.2.2.2.1 v (by rw [hst]; exact List.mem_append_right _ hv)
          have hPc : FrameBlind (pt_Pc ext D cy ad dl μ H.size x b as) ∧ ∀ U : State, U.heap = H → s.WarmedH U.vm → pt_Pc ext D cy ad dl μ H.size x b as (as.map (pt_cv ad x b)).toArray U := ⟨pt_Pc_blind, fun U hU hW => ⟨rfl, pt_Bg_of C hI hS hU hW, pt_Xt_of hXt hS (fun q hq => hsub q hq) hU hW⟩⟩
          cases hcl : pt_ex n y ext 0 (pt_ent (pt_maxL y) as) [] μ with
          | none => rw [hcl] at h; simp at h
          | some q =>
            rw [hcl] at h
            have hg1 := pt_ex_grow _ _ _ _ _ _ _ _ hcl
            have z1 := pt_sz_le hg1
            have z2 := pt_sn_le hg1
            rcases q with ⟨v | E, μ1⟩
            · simp only [] at h
              have z1 : pt_sz μ ≤ pt_sz μ1 := z1
              have z2 : pt_sn μ ≤ pt_sn μ1 := z2
              have hg2 := pt_ex_grow _ _ _ _ _ _ _ _ h
              have z3 := pt_sz_le hg2
              have z4 := pt_sn_le hg2
              have hrun := pt_call_run (e := e) (below := below) (cells := cells) (slots := slots) C hml9 h4 h6 hp hrc hfit T (pt_Mn_of ih hl0 (D := D) (cy := cy) hy f4 hoka hcl ad dl H.size x b) ⟨rfl, rfl, rfl, rfl⟩ hPc ⟨by omega, by omega⟩ hk
              have fin : ∀ (ad2 : pt_R → Nat) (dl2 : List pt_R) (H1 : Heap) (locs1 : List Loc), pt_ag μ ad ad2 → pt_In D cy A ad2 dl2 μ1 H1 → va_S A s.heap H1 locs1 → pt_okS μ1 (pt_vl v r) → W p l e R s m args below meth c H1 locs1 (cells + (pt_sz μ1 - pt_sz μ)) (slots + (pt_sn μ1 - pt_sn μ)) Q (F0 m (pc + 3) ls ((pt_vl v r).map (pt_cv ad2 x b))) := fun ad2 dl2 H1 locs1 hag hI1 hS1 hok =>
                ih p e R s m args below meth c Q D cy A k b x ext (pc + 3) L (pt_vl v r) μ1 o ad2 dl2 H1 locs1 _ _ ls C htab hXt h ⟨by rw [pt_lv_ag hag L 0 T.2.2.1]; exact T.1, T.2.1, pt_okL_le hg1 T.2.2.1, hok, hI1, hS1⟩ (by omega) (by omega) (K.next hg1 hag (by omega) (by omega))
              have hokr1 : pt_okS μ1 r := pt_okS_le hg1 hokr
              rcases v with _ | v | v | v | v
              · refine va_callv (a := (as.map (pt_cv ad x b)).toArray) hrun hS (fun q _ hq => hsub q hq) (fun q hq => hsub q hq) (fun u t H1 locs1 ht hvm hw hB hz1 hk1 hS1 => ?_)
                obtain ⟨hag, hI1⟩ := hB
                rw [ht] at hI1
                have := fin u.1 u.2 H1 locs1 hag (pt_In_up hI1 hsub) hS1 hokr1
                rw [show (pt_vl none r).map (pt_cv u.1 x b) = r.map (pt_cv ad x b) from pt_map_ag hag hokr] at this
                exact this
              · refine va_calli (a := (as.map (pt_cv ad x b)).toArray) hrun hS (fun q _ hq => hsub q hq) (fun q hq => hsub q hq) (fun w u t H1 locs1 ht hvm hw hB hz1 hk1 hS1 => ?_)
                obtain ⟨hag, hI1⟩ := hB
                rw [ht] at hI1
                subst hw
                have := fin u.1 u.2 H1 locs1 hag (pt_In_up hI1 hsub) hS1 (pt_okS_c trivial hokr1)
                rw [show (pt_vl (some (.inl w)) r).map (pt_cv u.1 x b) = .int w :: r.map (pt_cv ad x b) by rw [← pt_map_ag hag hokr]; rfl] at this
                exact this
              · refine va_calll (a := (as.map (pt_cv ad x b)).toArray) hrun hS (fun q _ hq => hsub q hq) (fun q hq => hsub q hq) (fun w u t H1 locs1 ht hvm hw hB hz1 hk1 hS1 => ?_)
                obtain ⟨hag, hI1⟩ := hB
                rw [ht] at hI1
                subst hw
                have := fin u.1 u.2 H1 locs1 hag (pt_In_up hI1 hsub) hS1 (pt_okS_c trivial hokr1)
                rw [show (pt_vl (some (.inr (.inl w))) r).map (pt_cv u.1 x b) = .long w :: r.map (pt_cv ad x b) by rw [← pt_map_ag hag hokr]; rfl] at this
                exact this
              · refine va_calld (a := (as.map (pt_cv ad x b)).toArray) hrun hS (fun q _ hq => hsub q hq) (fun q hq => hsub q hq) (fun w u t H1 locs1 ht hvm hw hB hz1 hk1 hS1 => ?_)
                obtain ⟨hag, hI1⟩ := hB
                rw [ht] at hI1
                subst hw
                have := fin u.1 u.2 H1 locs1 hag (pt_In_up hI1 hsub) hS1 (pt_okS_c trivial hokr1)
                rw [show (pt_vl (some (.inr (.inr (.inl w)))) r).map (pt_cv u.1 x b) = .double w :: r.map (pt_cv ad x b) by rw [← pt_map_ag hag hokr]; rfl] at this
                exact this
              · intro S hSH X9
                obtain ⟨v9, st₀, t, T', L9, -, -, -, -, -, hfalse, -⟩ := hrun S hSH X9
                exact hfalse.elim
            · simp only [] at h
              have z1 : pt_sz μ ≤ pt_sz μ1 := z1
              have z2 : pt_sn μ ≤ pt_sn μ1 := z2
              cases hm : (pt_mayT y && pt_noX L) with
              | false => rw [hm] at h; simp at h
              | true =>
                rw [hm] at h
                simp only [cond_true] at h
                simp only [Bool.and_eq_true] at hm
                cases hh : pt_catch (pt_hand k) pc E with
                | none => rw [hh] at h; simp at h
                | some h9 =>
                  rw [hh] at h
                  simp only [] at h
                  have hg2 := pt_ex_grow _ _ _ _ _ _ _ _ h
                  have z3 := pt_sz_le hg2
                  have z4 := pt_sn_le hg2
                  have hX1 : X = 1 := hmt hm.1
                  have hno : pt_hh y = [] := Classical.not_not.mp (fun z => absurd (h5.mpr z) (by rw [hX1]; decide))
                  have hd : decode (pt_by k) pc = .ok (.invokevirtual j, 3) := by
                    rcases hk with ⟨hk1, -⟩ | ⟨-, hk1⟩ | ⟨hk1, -⟩
                    · rcases hk1 with hk1 | hk1 <;> rw [hX1] at hk1 <;> cases hk1
                    · exact hk1
                    · rcases hk1 with hk1 | ⟨hk1, -⟩ <;> rw [hX1] at hk1 <;> cases hk1
                  have hrun := pt_call_runX (e := e) (below := below) (cells := cells) (slots := slots) C hml9 h4 h6 hp hrc hfit T (pt_Mt_of ih hl0 (D := D) (cy := cy) hy hno f4 hoka hcl ad dl H.size x b) ⟨rfl, rfl, rfl, rfl⟩ hPc ⟨by omega, by omega⟩ ⟨hX1, hd⟩
                  refine pt_caught (y := y) (as := as) C (htab (fun z => by rw [z] at hh; simp [pt_catch] at hh)) T hg1 (pt_ex_thr_E _ _ _ _ _ _ _ _ _ hcl) hh hrun (fun ad2 dl2 x2 H2 locs2 hag T2 => ?_) (pt_noX_spec L hm.2)
                  exact ih p e R s m args below meth c Q D cy A k b x2 ext h9 L [vX false] μ1 o ad2 dl2 H2 locs2 _ _ ls C htab hXt h T2 (by omega) (by omega) (K.next hg1 hag (by omega) (by omega))
        · cases h
          exact K ad dl x H locs cells slots ls pc L st e9 μ (fun _ _ => rfl) (pt_le_rf μ) rfl rfl T hf (Or.inl ⟨v', rfl, hs⟩)
        · cases h
          exact K ad dl x H locs cells slots ls pc L st e9 μ (fun _ _ => rfl) (pt_le_rf μ) rfl rfl T hf (Or.inr ⟨E', rfl, hs⟩)
