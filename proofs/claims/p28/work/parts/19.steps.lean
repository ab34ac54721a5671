/-! One step, group by group. -/
def pt_K (p : Program) (l : Launch) (e : Env) (R : Room) (s : State) (m : MethodId) (args : Array Value) (below : List Frame) (meth : Method) (c : Code) (Q : State → Prop) (D : va_G) (cy : Nat → ClassId) (A : Nat → Prop) (k b x cells slots : Nat) (μ : pt_M) (ad : pt_R → Nat) (pc' : Nat) (L' : pt_L) (st' : List pt_V) (μ' : pt_M) : Prop :=
  ∀ (ad' : pt_R → Nat) (dl' : List pt_R) (H' : Heap) (locs' : List Loc) (cells' slots' : Nat) (ls' : Array Slot), pt_ag μ ad ad' → cells' + pt_sz μ = cells + pt_sz μ' → slots' + pt_sn μ = slots + pt_sn μ' → pt_Tw D cy A s k b x ad' dl' μ' H' locs' ls' L' st' →
    W p l e R s m args below meth c H' locs' cells' slots' Q (F0 m pc' ls' (st'.map (pt_cv ad' x b)))
section
variable {p : Program} {l : Launch} {e : Env} {R : Room} {s : State} {m : MethodId} {args : Array Value} {below : List Frame} {meth : Method} {c : Code} {Q : State → Prop} {D : va_G} {cy : Nat → ClassId} {A : Nat → Prop} {k b x : Nat} {ad : pt_R → Nat} {dl : List pt_R} {μ μ' : pt_M} {H : Heap} {locs : List Loc} {cells slots : Nat} {ls : Array Slot} {L L' : pt_L} {st st' : List pt_V} {pc pc' n t : Nat}
theorem pt_K.go (K : pt_K p l e R s m args below meth c Q D cy A k b x cells slots μ ad pc' L st' μ) (T : pt_Tw D cy A s k b x ad dl μ H locs ls L st) (hS : pt_okS μ st') : W p l e R s m args below meth c H locs cells slots Q (F0 m pc' ls (st'.map (pt_cv ad x b))) :=
  K ad dl H locs cells slots ls (fun _ _ => rfl) rfl rfl ⟨T.1, T.2.1, T.2.2.1, hS, T.2.2.2.2⟩
theorem pt_K.lo {ls' : Array Slot} (K : pt_K p l e R s m args below meth c Q D cy A k b x cells slots μ ad pc' L' st' μ) (T : pt_Tw D cy A s k b x ad dl μ H locs ls L st) (hl : lv_has ls' (pt_maxL k) (pt_lv (pt_cv ad x b) 0 L')) (hn : L'.length = pt_maxL k) (hL : pt_okL μ L') (hS : pt_okS μ st') : W p l e R s m args below meth c H locs cells slots Q (F0 m pc' ls' (st'.map (pt_cv ad x b))) :=
  K ad dl H locs cells slots ls' (fun _ _ => rfl) rfl rfl ⟨hl, hn, hL, hS, T.2.2.2.2⟩
theorem pt_W_i2 {f : Int32 → Int32 → Int32} (row : ∀ (u v : Int32) (r : List Value), W p l e R s m args below meth c H locs cells slots Q (F0 m n ls (.int (f u v) :: r)) → W p l e R s m args below meth c H locs cells slots Q (F0 m pc ls (.int v :: .int u :: r))) (hs : pt_i2 f n L st μ = some (.inl (pc', L', st', μ'))) (T : pt_Tw D cy A s k b x ad dl μ H locs ls L st) (K : pt_K p l e R s m args below meth c Q D cy A k b x cells slots μ ad pc' L' st' μ') : W p l e R s m args below meth c H locs cells slots Q (F0 m pc ls (st.map (pt_cv ad x b))) := by
  unfold pt_i2 at hs
  split at hs
  · cases hs
    exact row _ _ _ (K.go T (pt_okS_c trivial (pt_okS_t (pt_okS_t T.2.2.2.1))))
  · cases hs
theorem pt_W_j2 {f : Int64 → Int64 → Int64} (row : ∀ (u v : Int64) (r : List Value), W p l e R s m args below meth c H locs cells slots Q (F0 m n ls (.long (f u v) :: r)) → W p l e R s m args below meth c H locs cells slots Q (F0 m pc ls (.long v :: .long u :: r))) (hs : pt_j2 f n L st μ = some (.inl (pc', L', st', μ'))) (T : pt_Tw D cy A s k b x ad dl μ H locs ls L st) (K : pt_K p l e R s m args below meth c Q D cy A k b x cells slots μ ad pc' L' st' μ') : W p l e R s m args below meth c H locs cells slots Q (F0 m pc ls (st.map (pt_cv ad x b))) := by
  unfold pt_j2 at hs
  split at hs
  · cases hs
    exact row _ _ _ (K.go T (pt_okS_c trivial (pt_okS_t (pt_okS_t T.2.2.2.1))))
  · cases hs
theorem pt_W_d2 {f : UInt64 → UInt64 → UInt64} (row : ∀ (u v : UInt64) (r : List Value), vf_n64 (f u v) → W p l e R s m args below meth c H locs cells slots Q (F0 m n ls (.double (f u v) :: r)) → W p l e R s m args below meth c H locs cells slots Q (F0 m pc ls (.double v :: .double u :: r))) (hs : pt_d2 f n L st μ = some (.inl (pc', L', st', μ'))) (T : pt_Tw D cy A s k b x ad dl μ H locs ls L st) (K : pt_K p l e R s m args below meth c Q D cy A k b x cells slots μ ad pc' L' st' μ') : W p l e R s m args below meth c H locs cells slots Q (F0 m pc ls (st.map (pt_cv ad x b))) := by
  unfold pt_d2 at hs
  split at hs
  · split at hs
    · next h9 =>
      cases hs
      exact row _ _ _ h9 (K.go T (pt_okS_c trivial (pt_okS_t (pt_okS_t T.2.2.2.1))))
    · cases hs
  · cases hs
theorem pt_W_ldI {i : Nat} (row : ∀ (v : Int32), ls[i]? = some (.val (.int v)) → ∀ (r : List Value), W p l e R s m args below meth c H locs cells slots Q (F0 m n ls (.int v :: r)) → W p l e R s m args below meth c H locs cells slots Q (F0 m pc ls r)) (hs : pt_ldI n L st μ i = some (.inl (pc', L', st', μ'))) (T : pt_Tw D cy A s k b x ad dl μ H locs ls L st) (K : pt_K p l e R s m args below meth c Q D cy A k b x cells slots μ ad pc' L' st' μ') : W p l e R s m args below meth c H locs cells slots Q (F0 m pc ls (st.map (pt_cv ad x b))) := by
  unfold pt_ldI at hs
  split at hs
  · next v h9 =>
    cases hs
    exact row v (pt_lget T.1 h9) _ (K.go T (pt_okS_c trivial T.2.2.2.1))
  · cases hs
theorem pt_W_ldJ {i : Nat} (row : ∀ (v : Int64), ls[i]? = some (.val (.long v)) → ∀ (r : List Value), W p l e R s m args below meth c H locs cells slots Q (F0 m n ls (.long v :: r)) → W p l e R s m args below meth c H locs cells slots Q (F0 m pc ls r)) (hs : pt_ldJ n L st μ i = some (.inl (pc', L', st', μ'))) (T : pt_Tw D cy A s k b x ad dl μ H locs ls L st) (K : pt_K p l e R s m args below meth c Q D cy A k b x cells slots μ ad pc' L' st' μ') : W p l e R s m args below meth c H locs cells slots Q (F0 m pc ls (st.map (pt_cv ad x b))) := by
  unfold pt_ldJ at hs
  split at hs
  · next v h9 =>
    cases hs
    exact row v (pt_lget T.1 h9) _ (K.go T (pt_okS_c trivial T.2.2.2.1))
  · cases hs
theorem pt_W_ldD {i : Nat} (row : ∀ (v : UInt64), ls[i]? = some (.val (.double v)) → ∀ (r : List Value), W p l e R s m args below meth c H locs cells slots Q (F0 m n ls (.double v :: r)) → W p l e R s m args below meth c H locs cells slots Q (F0 m pc ls r)) (hs : pt_ldD n L st μ i = some (.inl (pc', L', st', μ'))) (T : pt_Tw D cy A s k b x ad dl μ H locs ls L st) (K : pt_K p l e R s m args below meth c Q D cy A k b x cells slots μ ad pc' L' st' μ') : W p l e R s m args below meth c H locs cells slots Q (F0 m pc ls (st.map (pt_cv ad x b))) := by
  unfold pt_ldD at hs
  split at hs
  · next v h9 =>
    cases hs
    exact row v (pt_lget T.1 h9) _ (K.go T (pt_okS_c trivial T.2.2.2.1))
  · cases hs
theorem pt_W_ldR {i : Nat} (row : ∀ (v : Nat), ls[i]? = some (.val (.ref v)) → ∀ (r : List Value), W p l e R s m args below meth c H locs cells slots Q (F0 m n ls (.ref v :: r)) → W p l e R s m args below meth c H locs cells slots Q (F0 m pc ls r)) (hs : pt_ldR n L st μ i = some (.inl (pc', L', st', μ'))) (T : pt_Tw D cy A s k b x ad dl μ H locs ls L st) (K : pt_K p l e R s m args below meth c Q D cy A k b x cells slots μ ad pc' L' st' μ') : W p l e R s m args below meth c H locs cells slots Q (F0 m pc ls (st.map (pt_cv ad x b))) := by
  unfold pt_ldR at hs
  split at hs
  · next q h9 =>
    cases hs
    exact row (ad q) (pt_lget T.1 h9) _ (K.go T (pt_okS_c (T.2.2.1 _ (pt_lg_mem _ _ _ h9)) T.2.2.2.1))
  · next q h9 =>
    cases hs
    cases q with
    | false => exact row x (pt_lget T.1 h9) _ (K.go T (pt_okS_c trivial T.2.2.2.1))
    | true => exact row b (pt_lget T.1 h9) _ (K.go T (pt_okS_c trivial T.2.2.2.1))
  · cases hs
theorem pt_W_stI {i : Nat} (row : ∀ (v : Int32) (r : List Value), (∀ ls' : Array Slot, lv_has ls' (pt_maxL k) ((i, .int v) :: (pt_lv (pt_cv ad x b) 0 L).filter (fun q => !(q.1 == i) && !(q.1 + 1 == i && q.2.category == 2))) → W p l e R s m args below meth c H locs cells slots Q (F0 m n ls' r)) → W p l e R s m args below meth c H locs cells slots Q (F0 m pc ls (.int v :: r))) (hs : pt_stI n L st μ i = some (.inl (pc', L', st', μ'))) (T : pt_Tw D cy A s k b x ad dl μ H locs ls L st) (K : pt_K p l e R s m args below meth c Q D cy A k b x cells slots μ ad pc' L' st' μ') : W p l e R s m args below meth c H locs cells slots Q (F0 m pc ls (st.map (pt_cv ad x b))) := by
  unfold pt_stI at hs
  split at hs
  · next v r =>
    cases hs
    exact row v _ (fun ls' h9 => K.lo T (pt_lset1 (v := .inl v) (pt_cv_cat ad x b) h9) (by rw [pt_ls1_len]; exact T.2.1) (pt_okL_ls1 T.2.2.1 trivial) (pt_okS_t T.2.2.2.1))
  · cases hs
theorem pt_W_stJ {i : Nat} (hi : i + 1 < pt_maxL k) (row : ∀ (v : Int64) (r : List Value), (∀ ls' : Array Slot, lv_has ls' (pt_maxL k) ((i, .long v) :: (pt_lv (pt_cv ad x b) 0 L).filter (fun q => !(q.1 == i) && (!(q.1 == i + 1) && !(q.1 + 1 == i && q.2.category == 2)))) → W p l e R s m args below meth c H locs cells slots Q (F0 m n ls' r)) → W p l e R s m args below meth c H locs cells slots Q (F0 m pc ls (.long v :: r))) (hs : pt_stJ n L st μ i = some (.inl (pc', L', st', μ'))) (T : pt_Tw D cy A s k b x ad dl μ H locs ls L st) (K : pt_K p l e R s m args below meth c Q D cy A k b x cells slots μ ad pc' L' st' μ') : W p l e R s m args below meth c H locs cells slots Q (F0 m pc ls (st.map (pt_cv ad x b))) := by
  have hi2 : i + 1 < L.length := by rw [T.2.1]; exact hi
  unfold pt_stJ at hs
  split at hs
  · next v r =>
    cases hs
    exact row v _ (fun ls' h9 => K.lo T (pt_lset2 (v := .inr (.inl v)) (pt_cv_cat ad x b) hi2 h9) (by rw [pt_ls2_len _ _ _ hi2]; exact T.2.1) (pt_okL_ls2 T.2.2.1 trivial) (pt_okS_t T.2.2.2.1))
  · cases hs
theorem pt_W_stD {i : Nat} (hi : i + 1 < pt_maxL k) (row : ∀ (v : UInt64) (r : List Value), (∀ ls' : Array Slot, lv_has ls' (pt_maxL k) ((i, .double v) :: (pt_lv (pt_cv ad x b) 0 L).filter (fun q => !(q.1 == i) && (!(q.1 == i + 1) && !(q.1 + 1 == i && q.2.category == 2)))) → W p l e R s m args below meth c H locs cells slots Q (F0 m n ls' r)) → W p l e R s m args below meth c H locs cells slots Q (F0 m pc ls (.double v :: r))) (hs : pt_stD n L st μ i = some (.inl (pc', L', st', μ'))) (T : pt_Tw D cy A s k b x ad dl μ H locs ls L st) (K : pt_K p l e R s m args below meth c Q D cy A k b x cells slots μ ad pc' L' st' μ') : W p l e R s m args below meth c H locs cells slots Q (F0 m pc ls (st.map (pt_cv ad x b))) := by
  have hi2 : i + 1 < L.length := by rw [T.2.1]; exact hi
  unfold pt_stD at hs
  split at hs
  · next v r =>
    cases hs
    exact row v _ (fun ls' h9 => K.lo T (pt_lset2 (v := .inr (.inr (.inl v))) (pt_cv_cat ad x b) hi2 h9) (by rw [pt_ls2_len _ _ _ hi2]; exact T.2.1) (pt_okL_ls2 T.2.2.1 trivial) (pt_okS_t T.2.2.2.1))
  · cases hs
theorem pt_W_stR {i : Nat} (row : ∀ (v : Nat) (r : List Value), (∀ ls' : Array Slot, lv_has ls' (pt_maxL k) ((i, .ref v) :: (pt_lv (pt_cv ad x b) 0 L).filter (fun q => !(q.1 == i) && !(q.1 + 1 == i && q.2.category == 2))) → W p l e R s m args below meth c H locs cells slots Q (F0 m n ls' r)) → W p l e R s m args below meth c H locs cells slots Q (F0 m pc ls (.ref v :: r))) (hs : pt_stR n L st μ i = some (.inl (pc', L', st', μ'))) (T : pt_Tw D cy A s k b x ad dl μ H locs ls L st) (K : pt_K p l e R s m args below meth c Q D cy A k b x cells slots μ ad pc' L' st' μ') : W p l e R s m args below meth c H locs cells slots Q (F0 m pc ls (st.map (pt_cv ad x b))) := by
  unfold pt_stR at hs
  split at hs
  · next q r =>
    cases hs
    exact row (ad q) _ (fun ls' h9 => K.lo T (pt_lset1 (v := .inr (.inr (.inr (.inl (some q))))) (pt_cv_cat ad x b) h9) (by rw [pt_ls1_len]; exact T.2.1) (pt_okL_ls1 T.2.2.1 (pt_okS_h T.2.2.2.1)) (pt_okS_t T.2.2.2.1))
  · next q r =>
    cases hs
    cases q with
    | false => exact row x _ (fun ls' h9 => K.lo T (pt_lset1 (v := .inr (.inr (.inr (.inr false)))) (pt_cv_cat ad x b) h9) (by rw [pt_ls1_len]; exact T.2.1) (pt_okL_ls1 T.2.2.1 trivial) (pt_okS_t T.2.2.2.1))
    | true => exact row b _ (fun ls' h9 => K.lo T (pt_lset1 (v := .inr (.inr (.inr (.inr true)))) (pt_cv_cat ad x b) h9) (by rw [pt_ls1_len]; exact T.2.1) (pt_okL_ls1 T.2.2.1 trivial) (pt_okS_t T.2.2.2.1))
  · cases hs
theorem pt_br {C : Prop} [Decidable C] {r : List pt_V} (hs : (if C then pt_go t L r μ else pt_go n L r μ) = some (.inl (pc', L', st', μ'))) (T : pt_Tw D cy A s k b x ad dl μ H locs ls L st) (hr : pt_okS μ r) (K : pt_K p l e R s m args below meth c Q D cy A k b x cells slots μ ad pc' L' st' μ') : (C → W p l e R s m args below meth c H locs cells slots Q (F0 m t ls (r.map (pt_cv ad x b)))) ∧ (¬ C → W p l e R s m args below meth c H locs cells slots Q (F0 m n ls (r.map (pt_cv ad x b)))) := by
  by_cases hC : C
  · rw [if_pos hC] at hs
    cases hs
    exact ⟨fun _ => K.go T hr, fun z => absurd hC z⟩
  · rw [if_neg hC] at hs
    cases hs
    exact ⟨fun z => absurd z hC, fun _ => K.go T hr⟩
theorem pt_W_if0 {cc : ByteArray} {q : ClassFile.Cond} {off : Int} (hx : p.tables.exec = Jvm.exec) (hb : c.code = cc) (hdg : decode cc pc = .ok (.ifCond q off, 3)) (ht : (pc : Int) + off = (t : Int)) (hs : pt_if0 q (pc + 3) t L st μ = some (.inl (pc', L', st', μ'))) (T : pt_Tw D cy A s k b x ad dl μ H locs ls L st) (K : pt_K p l e R s m args below meth c Q D cy A k b x cells slots μ ad pc' L' st' μ') : W p l e R s m args below meth c H locs cells slots Q (F0 m pc ls (st.map (pt_cv ad x b))) := by
  unfold pt_if0 at hs
  split at hs
  · next x9 r =>
    have hr := pt_okS_t T.2.2.2.1
    cases q with
    | eq =>
      have h9 := pt_br hs T hr K
      exact lv_if_eq hx hb hdg ht h9.1 h9.2
    | ne =>
      have h9 := pt_br hs T hr K
      exact lv_if_ne hx hb hdg ht h9.1 (fun z => h9.2 (fun w => w z))
    | lt =>
      have h9 := pt_br hs T hr K
      exact lv_if_lt hx hb hdg ht h9.1 h9.2
    | ge =>
      have h9 := pt_br hs T hr K
      exact lv_if_ge hx hb hdg ht h9.1 h9.2
    | gt =>
      have h9 := pt_br hs T hr K
      exact lv_if_gt hx hb hdg ht h9.1 h9.2
    | le =>
      have h9 := pt_br hs T hr K
      exact lv_if_le hx hb hdg ht h9.1 h9.2
  · cases hs
theorem pt_W_if2 {cc : ByteArray} {q : ClassFile.Cond} {off : Int} (hx : p.tables.exec = Jvm.exec) (hb : c.code = cc) (hdg : decode cc pc = .ok (.if_icmp q off, 3)) (ht : (pc : Int) + off = (t : Int)) (hs : pt_if2 q (pc + 3) t L st μ = some (.inl (pc', L', st', μ'))) (T : pt_Tw D cy A s k b x ad dl μ H locs ls L st) (K : pt_K p l e R s m args below meth c Q D cy A k b x cells slots μ ad pc' L' st' μ') : W p l e R s m args below meth c H locs cells slots Q (F0 m pc ls (st.map (pt_cv ad x b))) := by
  unfold pt_if2 at hs
  split at hs
  · next y9 x9 r =>
    have hr := pt_okS_t (pt_okS_t T.2.2.2.1)
    cases q with
    | eq =>
      have h9 := pt_br hs T hr K
      exact lv_icmp_eq hx hb hdg ht h9.1 h9.2
    | ne =>
      have h9 := pt_br hs T hr K
      exact lv_icmp_ne hx hb hdg ht h9.1 (fun z => h9.2 (fun w => w z))
    | lt =>
      have h9 := pt_br hs T hr K
      exact lv_icmp_lt hx hb hdg ht h9.1 h9.2
    | ge =>
      have h9 := pt_br hs T hr K
      exact lv_icmp_ge hx hb hdg ht h9.1 h9.2
    | gt =>
      have h9 := pt_br hs T hr K
      exact lv_icmp_gt hx hb hdg ht h9.1 h9.2
    | le =>
      have h9 := pt_br hs T hr K
      exact lv_icmp_le hx hb hdg ht h9.1 h9.2
  · cases hs
end
