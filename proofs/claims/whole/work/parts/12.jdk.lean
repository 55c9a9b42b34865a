/-! ===== the JDK's own: Integer.compare, String.length, String.charAt ===== -/
set_option maxRecDepth 100000 in
theorem c_icmp (g : Gx) (h : Hea) (x y : Int32) (o : Int32) (hf : f_icmp x y = some o) : MC g yJ6_compare_7cf53 cJ6_compare_7cf53 2 (some .int) 0 0 0 [.int x, .int y] h (some (.int o), h) := by
  refine MC_of (own := RJ6) (nm := "compare") [(0, .int x), (1, .int y)] rfl rfl (by decide +kernel) (Nat.le_of_ble_eq_true rfl) rfl ?_
  unfold f_icmp at hf
  refine aw_iload_n 0 dJ6_compare_7cf53_0 rfl ?_
  refine aw_iload_n 1 dJ6_compare_7cf53_1 rfl ?_
  refine aw_icmp_ge (tgt := 9) dJ6_compare_7cf53_2 rfl (fun hc => ?_) (fun hc => ?_)
  · have hf := itp0 hc hf
    refine aw_iload_n 0 dJ6_compare_7cf53_9 rfl ?_
    refine aw_iload_n 1 dJ6_compare_7cf53_10 rfl ?_
    refine aw_icmp_ne (tgt := 18) dJ6_compare_7cf53_11 rfl (fun hc => ?_) (fun hc => ?_)
    · have hf := itn0 hc hf
      refine aw_iconst (v := 1) dJ6_compare_7cf53_18 rfl ?_
      cases hf
      exact aw_iret dJ6_compare_7cf53_19 rfl rfl
    · have hf := itp0 hc hf
      refine aw_iconst (v := 0) dJ6_compare_7cf53_14 rfl ?_
      refine aw_goto (tgt := 19) dJ6_compare_7cf53_15 rfl ?_
      cases hf
      exact aw_iret dJ6_compare_7cf53_19 rfl rfl
  · have hf := itn0 hc hf
    refine aw_iconst (v := -1) dJ6_compare_7cf53_5 rfl ?_
    refine aw_goto (tgt := 19) dJ6_compare_7cf53_6 rfl ?_
    cases hf
    exact aw_iret dJ6_compare_7cf53_19 rfl rfl
def WSl (own : String) (idx : Nat) : Prop := True
section
variable {g : Gx} {own : String} {cc : ByteArray} {Y : Ym} {res : Option Value × Hea} {pc : Nat} {L : List (Nat × Value)} {st : List Value} {h : Hea} {ck cn : Nat} {ρ : Type} {o : ρ}
theorem aw_strLen {idx w : Nat} {K : Int32 → Option ρ} (hw : WSl own idx) (hd : decode cc pc = .ok (.invokevirtual idx, 3)) (hdd : 4 ≤ Y.2.2.2.1) (hcat : (st.map fun v => v.category).sum ≤ 8) (hk : ck ≤ Y.2.2.2.2.1) (hn : cn ≤ Y.2.2.2.2.2) (hf : (sLen w).bind K = some o) (kk : ∀ x, K x = some o → AW g own cc Y res (pc + 3) L (.int x :: st) h ck cn) : AW g own cc Y res pc L (.ref (g.2.2.1 w) :: st) h ck cn := by
  sorry
theorem aw_strCh {idx w : Nat} {i : Int32} {K : Int32 → Option ρ} (hw : WSl own idx) (hd : decode cc pc = .ok (.invokevirtual idx, 3)) (hdd : 4 ≤ Y.2.2.2.1) (hcat : (st.map fun v => v.category).sum ≤ 8) (hk : ck ≤ Y.2.2.2.2.1) (hn : cn ≤ Y.2.2.2.2.2) (hf : (sCh w i).bind K = some o) (kk : ∀ x, K x = some o → AW g own cc Y res (pc + 3) L (.int x :: st) h ck cn) : AW g own cc Y res pc L (.int i :: .ref (g.2.2.1 w) :: st) h ck cn := by
  sorry
end
theorem wS_120 : WSl RX4 120 := trivial
theorem wS_126 : WSl RX4 126 := trivial
