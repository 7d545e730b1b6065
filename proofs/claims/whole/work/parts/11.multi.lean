/-! multianewarray: still owed. -/
section AMG
variable {p : Program} {l : Launch} {e : Env} {R : Room} {s : State} {m : MethodId} {args : Array Value} {below : List Frame} {meth : Method} {c : Code} {Q : State → Prop} {γ : am_G} {E : am_E} {τ : am_T}
theorem am_x_multianewarray (C : am_Cx γ E τ p R s m args meth c) {pc : Nat} {L : List (Option Value)} {st : List Value} {M : am_M} {bc bs : Nat} {i d : Nat} {ps : List Prop} {k' : am_F} (hd : decode τ.2.2.1 pc = .ok (.multianewarray i d, 4)) (h : am_ex E τ.1 τ.2.2.2.2.2.2.1 pc L st M bc bs (.multianewarray i d) = some (ps, k')) (hp : ∀ q ∈ ps, q) (kk : am_Wc γ τ p l e R s m args below meth c Q k') : am_Wc γ τ p l e R s m args below meth c Q (pc, L, st, M, bc, bs) := sorry
end AMG
