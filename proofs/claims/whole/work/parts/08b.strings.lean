section OKS
variable {p : Program} {l : Launch} {e : Env} {R : Room} {s : State} {m : MethodId} {args : Array Value} {below : List Frame} {meth : Method} {c : Code} {Q : State → Prop} {Γ : GE} {σ0 σ : St} {nL pc : Nat} {cc : ByteArray} {own : String} {L L' : List (Nat × Value)} {st : List Value}
theorem k_slen (cx : Cx p R s m args c Γ nL σ0 cc own) {i j idx : Nat} (hl : Cond.methodLink own idx yJ0_length_8abf5 ∈ TBL) (hi : kS i = some j) (hfr : 2 ≤ R.frames ∧ 60 ≤ R.locals) (hw : (st.map fun v => v.category).sum ≤ 8) (hd : decode cc pc = .ok (.invokevirtual idx, 3)) (h : Ok p l e R s m args below meth c Γ nL Q (pc + 3) L (.int (nI (strLen.getD i 0)) :: st) σ) : Ok p l e R s m args below meth c Γ nL Q pc L (va_rf (some (gK Γ i)) :: st) σ := by
  sorry
theorem k_schar (cx : Cx p R s m args c Γ nL σ0 cc own) {i j idx : Nat} {k : Int32} (hl : Cond.methodLink own idx yJ0_charAt_5068e ∈ TBL) (hi : ixS k i = some j) (hfr : 4 ≤ R.frames ∧ 120 ≤ R.locals) (hw : (st.map fun v => v.category).sum ≤ 8) (hd : decode cc pc = .ok (.invokevirtual idx, 3)) (h : Ok p l e R s m args below meth c Γ nL Q (pc + 3) L (.int ((strByt.getD i []).getD j 0) :: st) σ) : Ok p l e R s m args below meth c Γ nL Q pc L (.int k :: va_rf (some (gK Γ i)) :: st) σ := by
  sorry
end OKS
