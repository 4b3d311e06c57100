/-! a method is its code from its first row on -/
theorem v110 (rest : List hbS) (σ : hbM) (x0 : Int32) (x1 : Int32) : hb_ev (hbSH0 ++ rest) 110 [.int x0, .int x1] σ = hb_run (hbSH0 ++ rest) 110 (0, [.int x0, .int x1], [], σ) := hb_ev_eq _ _ _ _ rfl rfl
theorem v111 (rest : List hbS) (σ : hbM) (x0 : Int32) : hb_ev (hbSH0 ++ rest) 111 [.int x0] σ = hb_run (hbSH0 ++ rest) 111 (0, [.int x0], [], σ) := hb_ev_eq _ _ _ _ rfl rfl
theorem v189 (rest : List hbS) (σ : hbM) (x0 : Int32) (x1 : Int32) : hb_ev (hbSH0 ++ rest) 189 [.int x0, .int x1] σ = hb_run (hbSH0 ++ rest) 189 (0, [.int x0, .int x1], [], σ) := hb_ev_eq _ _ _ _ rfl rfl
theorem v190 (rest : List hbS) (σ : hbM) (x0 : Int32) (x1 : Int32) : hb_ev (hbSH0 ++ rest) 190 [.int x0, .int x1] σ = hb_run (hbSH0 ++ rest) 190 (0, [.int x0, .int x1], [], σ) := hb_ev_eq _ _ _ _ rfl rfl
theorem v70 (rest : List hbS) (σ : hbM) (x0 : Int32) (x1 : Int32) : hb_ev (hbSH0 ++ rest) 70 [.int x0, .int x1] σ = hb_run (hbSH0 ++ rest) 70 (0, [.int x0, .int x1, .null, .null], [], σ) := hb_ev_eq _ _ _ _ rfl rfl
theorem v77 (rest : List hbS) (σ : hbM) (x0 : Int32) : hb_ev (hbSH0 ++ rest) 77 [.int x0] σ = hb_run (hbSH0 ++ rest) 77 (0, [.int x0], [], σ) := hb_ev_eq _ _ _ _ rfl rfl
theorem v76 (rest : List hbS) (σ : hbM) (x1 : Int32) (x2 : Int32) : hb_ev (hbSH0 ++ rest) 76 [.ref 0, .int x1, .int x2] σ = hb_run (hbSH0 ++ rest) 76 (0, [.ref 0, .int x1, .int x2, .null, .null], [], σ) := hb_ev_eq _ _ _ _ rfl rfl
theorem v75 (rest : List hbS) (σ : hbM) : hb_ev (hbSH0 ++ rest) 75 [.ref 0] σ = hb_run (hbSH0 ++ rest) 75 (0, [.ref 0, .null, .null, .null, .null, .null, .null, .null], [], σ) := hb_ev_eq _ _ _ _ rfl rfl
theorem v13a (rest : List hbS) (σ : hbM) (x1 : Int32) : hb_ev (hbSH0 ++ rest) 13 [.ref 1, .int x1] σ = hb_run (hbSH0 ++ rest) 13 (0, [.ref 1, .int x1, .null, .null, .null, .null], [], σ) := hb_ev_eq _ _ _ _ rfl rfl
theorem v13b (rest : List hbS) (σ : hbM) (x1 : Int32) : hb_ev (hbSH0 ++ rest) 13 [.ref 4, .int x1] σ = hb_run (hbSH0 ++ rest) 13 (0, [.ref 4, .int x1, .null, .null, .null, .null], [], σ) := hb_ev_eq _ _ _ _ rfl rfl
theorem v188  (σ : hbM) (x0 : Int32) : hb_ev hbSH 188 [.int x0] σ = hb_run hbSH 188 (0, [.int x0], [], σ) := hb_ev_eq _ _ _ _ rfl rfl
theorem v191  (σ : hbM) : hb_ev hbSH 191 [.ref 1000] σ = hb_run hbSH 191 (0, [.ref 1000], [], σ) := hb_ev_eq _ _ _ _ rfl rfl
theorem v192  (σ : hbM) (x1 : Int32) : hb_ev hbSH 192 [.ref 1000, .int x1] σ = hb_run hbSH 192 (0, [.ref 1000, .int x1], [], σ) := hb_ev_eq _ _ _ _ rfl rfl
theorem v193  (σ : hbM) : hb_ev hbSH 193 [.ref 1000] σ = hb_run hbSH 193 (0, [.ref 1000], [], σ) := hb_ev_eq _ _ _ _ rfl rfl
theorem v194  (σ : hbM) : hb_ev hbSH 194 [.ref 1000] σ = hb_run hbSH 194 (0, [.ref 1000], [], σ) := hb_ev_eq _ _ _ _ rfl rfl
theorem v195  (σ : hbM) (x0 : Int32) (x1 : Int32) : hb_ev hbSH 195 [.int x0, .int x1] σ = hb_run hbSH 195 (0, [.int x0, .int x1], [], σ) := hb_ev_eq _ _ _ _ rfl rfl
theorem v196  (σ : hbM) (x1 : Int32) : hb_ev hbSH 196 [.ref 1001, .int x1] σ = hb_run hbSH 196 (0, [.ref 1001, .int x1], [], σ) := hb_ev_eq _ _ _ _ rfl rfl
theorem v198  (σ : hbM) (x0 : Int32) (x1 : Int32) : hb_ev hbSH 198 [.int x0, .int x1, .retAddr 0] σ = hb_run hbSH 198 (0, [.int x0, .int x1, .retAddr 0], [], σ) := hb_ev_eq _ _ _ _ rfl rfl
theorem v0  (σ : hbM) (x1 : Int32) : hb_ev hbSH 0 [.ref 53, .int x1] σ = hb_run hbSH 0 (0, [.ref 53, .int x1, .null, .null, .null], [], σ) := hb_ev_eq _ _ _ _ rfl rfl
theorem v1  (σ : hbM) (x1 : Int32) (x2 : Int32) : hb_ev hbSH 1 [.ref 53, .int x1, .int x2] σ = hb_run hbSH 1 (0, [.ref 53, .int x1, .int x2, .null, .null, .null], [], σ) := hb_ev_eq _ _ _ _ rfl rfl
theorem v2  (σ : hbM) (x1 : Int32) (x2 : Int32) : hb_ev hbSH 2 [.ref 53, .int x1, .int x2] σ = hb_run hbSH 2 (0, [.ref 53, .int x1, .int x2], [], σ) := hb_ev_eq _ _ _ _ rfl rfl
theorem v3  (σ : hbM) : hb_ev hbSH 3 [.ref 53] σ = hb_run hbSH 3 (0, [.ref 53, .null], [], σ) := hb_ev_eq _ _ _ _ rfl rfl
theorem v4  (σ : hbM) (x1 : Int32) (x2 : Int32) : hb_ev hbSH 4 [.ref 53, .int x1, .int x2] σ = hb_run hbSH 4 (0, [.ref 53, .int x1, .int x2, .null], [], σ) := hb_ev_eq _ _ _ _ rfl rfl
theorem v5  (σ : hbM) (x1 : Int32) : hb_ev hbSH 5 [.ref 53, .int x1] σ = hb_run hbSH 5 (0, [.ref 53, .int x1, .null, .null, .null], [], σ) := hb_ev_eq _ _ _ _ rfl rfl
theorem v6  (σ : hbM) (x1 : Int32) : hb_ev hbSH 6 [.ref 53, .int x1] σ = hb_run hbSH 6 (0, [.ref 53, .int x1, .null, .null], [], σ) := hb_ev_eq _ _ _ _ rfl rfl
theorem v7  (σ : hbM) (x1 : Int32) (x2 : Int32) : hb_ev hbSH 7 [.ref 53, .int x1, .int x2] σ = hb_run hbSH 7 (0, [.ref 53, .int x1, .int x2], [], σ) := hb_ev_eq _ _ _ _ rfl rfl
theorem v8  (σ : hbM) (x1 : Int32) : hb_ev hbSH 8 [.ref 36, .int x1] σ = hb_run hbSH 8 (0, [.ref 36, .int x1, .null, .null, .null, .null, .null], [], σ) := hb_ev_eq _ _ _ _ rfl rfl
theorem v9  (σ : hbM) (x1 : Int32) : hb_ev hbSH 9 [.ref 36, .int x1] σ = hb_run hbSH 9 (0, [.ref 36, .int x1, .null, .null], [], σ) := hb_ev_eq _ _ _ _ rfl rfl
theorem v10  (σ : hbM) (x1 : Int32) (x2 : Int32) : hb_ev hbSH 10 [.ref 36, .int x1, .int x2] σ = hb_run hbSH 10 (0, [.ref 36, .int x1, .int x2, .null, .null, .null, .null, .null, .null, .null, .null], [], σ) := hb_ev_eq _ _ _ _ rfl rfl
theorem v11  (σ : hbM) (x0 : Int32) : hb_ev hbSH 11 [.int x0] σ = hb_run hbSH 11 (0, [.int x0], [], σ) := hb_ev_eq _ _ _ _ rfl rfl
theorem v12a  (σ : hbM) (x1 : Int32) (x2 : Int32) : hb_ev hbSH 12 [.ref 1, .int x1, .int x2] σ = hb_run hbSH 12 (0, [.ref 1, .int x1, .int x2], [], σ) := hb_ev_eq _ _ _ _ rfl rfl
theorem v12b  (σ : hbM) (x1 : Int32) (x2 : Int32) : hb_ev hbSH 12 [.ref 4, .int x1, .int x2] σ = hb_run hbSH 12 (0, [.ref 4, .int x1, .int x2], [], σ) := hb_ev_eq _ _ _ _ rfl rfl
theorem v14  (σ : hbM) : hb_ev hbSH 14 [.ref 43] σ = hb_run hbSH 14 (0, [.ref 43, .null, .null], [], σ) := hb_ev_eq _ _ _ _ rfl rfl
theorem v15  (σ : hbM) : hb_ev hbSH 15 [.ref 43] σ = hb_run hbSH 15 (0, [.ref 43], [], σ) := hb_ev_eq _ _ _ _ rfl rfl
theorem v16  (σ : hbM) : hb_ev hbSH 16 [.ref 43] σ = hb_run hbSH 16 (0, [.ref 43, .null, .null], [], σ) := hb_ev_eq _ _ _ _ rfl rfl
theorem v17a  (σ : hbM) : hb_ev hbSH 17 [.ref 43, .ref 1] σ = hb_run hbSH 17 (0, [.ref 43, .ref 1, .null, .null], [], σ) := hb_ev_eq _ _ _ _ rfl rfl
theorem v17b  (σ : hbM) : hb_ev hbSH 17 [.ref 43, .ref 4] σ = hb_run hbSH 17 (0, [.ref 43, .ref 4, .null, .null], [], σ) := hb_ev_eq _ _ _ _ rfl rfl
theorem v18  (σ : hbM) : hb_ev hbSH 18 [.ref 43] σ = hb_run hbSH 18 (0, [.ref 43, .null, .null, .null], [], σ) := hb_ev_eq _ _ _ _ rfl rfl
theorem v19  (σ : hbM) (x1 : Int32) : hb_ev hbSH 19 [.ref 43, .int x1] σ = hb_run hbSH 19 (0, [.ref 43, .int x1], [], σ) := hb_ev_eq _ _ _ _ rfl rfl
theorem v20  (σ : hbM) : hb_ev hbSH 20 [.ref 43] σ = hb_run hbSH 20 (0, [.ref 43, .null, .null, .null, .null], [], σ) := hb_ev_eq _ _ _ _ rfl rfl
theorem v21  (σ : hbM) : hb_ev hbSH 21 [.ref 43] σ = hb_run hbSH 21 (0, [.ref 43], [], σ) := hb_ev_eq _ _ _ _ rfl rfl
theorem v22  (σ : hbM) : hb_ev hbSH 22 [.ref 43] σ = hb_run hbSH 22 (0, [.ref 43], [], σ) := hb_ev_eq _ _ _ _ rfl rfl
theorem v23  (σ : hbM) (x1 : Int32) : hb_ev hbSH 23 [.ref 43, .int x1] σ = hb_run hbSH 23 (0, [.ref 43, .int x1, .null], [], σ) := hb_ev_eq _ _ _ _ rfl rfl
theorem v24  (σ : hbM) : hb_ev hbSH 24 [.ref 43] σ = hb_run hbSH 24 (0, [.ref 43], [], σ) := hb_ev_eq _ _ _ _ rfl rfl
theorem v25  (σ : hbM) (x1 : Int32) : hb_ev hbSH 25 [.ref 43, .int x1] σ = hb_run hbSH 25 (0, [.ref 43, .int x1], [], σ) := hb_ev_eq _ _ _ _ rfl rfl
theorem v26  (σ : hbM) : hb_ev hbSH 26 [.ref 43] σ = hb_run hbSH 26 (0, [.ref 43], [], σ) := hb_ev_eq _ _ _ _ rfl rfl
theorem v27  (σ : hbM) : hb_ev hbSH 27 [.ref 44] σ = hb_run hbSH 27 (0, [.ref 44], [], σ) := hb_ev_eq _ _ _ _ rfl rfl
theorem v28  (σ : hbM) (x1 : Int32) (x2 : Int32) : hb_ev hbSH 28 [.ref 44, .int x1, .int x2] σ = hb_run hbSH 28 (0, [.ref 44, .int x1, .int x2, .null, .null, .null], [], σ) := hb_ev_eq _ _ _ _ rfl rfl
theorem v32  (σ : hbM) (x1 : Int32) : hb_ev hbSH 32 [.ref 31, .int x1] σ = hb_run hbSH 32 (0, [.ref 31, .int x1], [], σ) := hb_ev_eq _ _ _ _ rfl rfl
theorem v33  (σ : hbM) (x1 : Int32) : hb_ev hbSH 33 [.ref 31, .int x1] σ = hb_run hbSH 33 (0, [.ref 31, .int x1], [], σ) := hb_ev_eq _ _ _ _ rfl rfl
theorem v34  (σ : hbM) (x1 : Int32) (x2 : Int32) (x3 : Int32) : hb_ev hbSH 34 [.ref 31, .int x1, .int x2, .int x3] σ = hb_run hbSH 34 (0, [.ref 31, .int x1, .int x2, .int x3], [], σ) := hb_ev_eq _ _ _ _ rfl rfl
theorem v35  (σ : hbM) (x1 : Int32) : hb_ev hbSH 35 [.ref 31, .int x1] σ = hb_run hbSH 35 (0, [.ref 31, .int x1], [], σ) := hb_ev_eq _ _ _ _ rfl rfl
theorem v36  (σ : hbM) (x1 : Int32) (x2 : Int32) : hb_ev hbSH 36 [.ref 31, .int x1, .int x2] σ = hb_run hbSH 36 (0, [.ref 31, .int x1, .int x2, .null], [], σ) := hb_ev_eq _ _ _ _ rfl rfl
theorem v37  (σ : hbM) (x1 : Int32) : hb_ev hbSH 37 [.ref 31, .int x1] σ = hb_run hbSH 37 (0, [.ref 31, .int x1, .null, .null], [], σ) := hb_ev_eq _ _ _ _ rfl rfl
theorem v38  (σ : hbM) (x1 : Int32) (x2 : Int32) : hb_ev hbSH 38 [.ref 31, .int x1, .int x2] σ = hb_run hbSH 38 (0, [.ref 31, .int x1, .int x2], [], σ) := hb_ev_eq _ _ _ _ rfl rfl
theorem v39  (σ : hbM) (x1 : Int32) : hb_ev hbSH 39 [.ref 31, .int x1] σ = hb_run hbSH 39 (0, [.ref 31, .int x1], [], σ) := hb_ev_eq _ _ _ _ rfl rfl
theorem v40  (σ : hbM) (x1 : Int32) : hb_ev hbSH 40 [.ref 31, .int x1] σ = hb_run hbSH 40 (0, [.ref 31, .int x1], [], σ) := hb_ev_eq _ _ _ _ rfl rfl
theorem v41  (σ : hbM) (x1 : Int32) (x2 : Int32) (x3 : Int32) : hb_ev hbSH 41 [.ref 31, .int x1, .int x2, .int x3] σ = hb_run hbSH 41 (0, [.ref 31, .int x1, .int x2, .int x3, .null], [], σ) := hb_ev_eq _ _ _ _ rfl rfl
theorem v42  (σ : hbM) (x1 : Int32) : hb_ev hbSH 42 [.ref 31, .int x1] σ = hb_run hbSH 42 (0, [.ref 31, .int x1], [], σ) := hb_ev_eq _ _ _ _ rfl rfl
theorem v43  (σ : hbM) (x1 : Int64) (x3 : Int32) : hb_ev hbSH 43 [.ref 39, .long x1, .int x3] σ = hb_run hbSH 43 (0, [.ref 39, .long x1, .null, .int x3, .null], [], σ) := hb_ev_eq _ _ _ _ rfl rfl
theorem v44  (σ : hbM) : hb_ev hbSH 44 [.ref 39] σ = hb_run hbSH 44 (0, [.ref 39, .null, .null, .null], [], σ) := hb_ev_eq _ _ _ _ rfl rfl
theorem v45  (σ : hbM) (x1 : Int32) : hb_ev hbSH 45 [.ref 39, .int x1] σ = hb_run hbSH 45 (0, [.ref 39, .int x1, .null], [], σ) := hb_ev_eq _ _ _ _ rfl rfl
theorem v46  (σ : hbM) (x1 : Int32) (x2 : Int32) : hb_ev hbSH 46 [.ref 39, .int x1, .int x2] σ = hb_run hbSH 46 (0, [.ref 39, .int x1, .int x2, .null, .null], [], σ) := hb_ev_eq _ _ _ _ rfl rfl
theorem v47  (σ : hbM) (x1 : Int32) (x2 : Int32) : hb_ev hbSH 47 [.ref 39, .int x1, .int x2] σ = hb_run hbSH 47 (0, [.ref 39, .int x1, .int x2, .null, .null, .null, .null], [], σ) := hb_ev_eq _ _ _ _ rfl rfl
theorem v48  (σ : hbM) (x0 : Int32) : hb_ev hbSH 48 [.int x0] σ = hb_run hbSH 48 (0, [.int x0], [], σ) := hb_ev_eq _ _ _ _ rfl rfl
theorem v49  (σ : hbM) (x0 : Int32) : hb_ev hbSH 49 [.int x0] σ = hb_run hbSH 49 (0, [.int x0], [], σ) := hb_ev_eq _ _ _ _ rfl rfl
theorem v50  (σ : hbM) (x1 : Int32) (x2 : Int32) (x3 : Int32) : hb_ev hbSH 50 [.ref 50, .int x1, .int x2, .int x3] σ = hb_run hbSH 50 (0, [.ref 50, .int x1, .int x2, .int x3, .null, .null, .null, .null, .null, .null, .null], [], σ) := hb_ev_eq _ _ _ _ rfl rfl
theorem v51  (σ : hbM) (x1 : Int32) : hb_ev hbSH 51 [.ref 50, .int x1] σ = hb_run hbSH 51 (0, [.ref 50, .int x1], [], σ) := hb_ev_eq _ _ _ _ rfl rfl
theorem v52a  (σ : hbM) (x2 : Int32) (x3 : Int32) (x4 : Int32) : hb_ev hbSH 52 [.ref 50, .ref 45, .int x2, .int x3, .int x4] σ = hb_run hbSH 52 (0, [.ref 50, .ref 45, .int x2, .int x3, .int x4], [], σ) := hb_ev_eq _ _ _ _ rfl rfl
theorem v52b  (σ : hbM) (x2 : Int32) (x3 : Int32) (x4 : Int32) : hb_ev hbSH 52 [.ref 50, .ref 46, .int x2, .int x3, .int x4] σ = hb_run hbSH 52 (0, [.ref 50, .ref 46, .int x2, .int x3, .int x4], [], σ) := hb_ev_eq _ _ _ _ rfl rfl
theorem v53a  (σ : hbM) (x2 : Int32) (x3 : Int32) : hb_ev hbSH 53 [.ref 50, .ref 45, .int x2, .int x3] σ = hb_run hbSH 53 (0, [.ref 50, .ref 45, .int x2, .int x3, .null, .null, .null], [], σ) := hb_ev_eq _ _ _ _ rfl rfl
theorem v53b  (σ : hbM) (x2 : Int32) (x3 : Int32) : hb_ev hbSH 53 [.ref 50, .ref 46, .int x2, .int x3] σ = hb_run hbSH 53 (0, [.ref 50, .ref 46, .int x2, .int x3, .null, .null, .null], [], σ) := hb_ev_eq _ _ _ _ rfl rfl
theorem v54a  (σ : hbM) (x2 : Int32) (x4 : Int32) : hb_ev hbSH 54 [.ref 50, .ref 45, .int x2, .ref 46, .int x4] σ = hb_run hbSH 54 (0, [.ref 50, .ref 45, .int x2, .ref 46, .int x4, .null, .null, .null], [], σ) := hb_ev_eq _ _ _ _ rfl rfl
theorem v54b  (σ : hbM) (x2 : Int32) (x4 : Int32) : hb_ev hbSH 54 [.ref 50, .ref 46, .int x2, .ref 45, .int x4] σ = hb_run hbSH 54 (0, [.ref 50, .ref 46, .int x2, .ref 45, .int x4, .null, .null, .null], [], σ) := hb_ev_eq _ _ _ _ rfl rfl
theorem v55  (σ : hbM) : hb_ev hbSH 55 [.ref 50] σ = hb_run hbSH 55 (0, [.ref 50], [], σ) := hb_ev_eq _ _ _ _ rfl rfl
theorem v56  (σ : hbM) (x1 : Int32) : hb_ev hbSH 56 [.ref 50, .int x1] σ = hb_run hbSH 56 (0, [.ref 50, .int x1], [], σ) := hb_ev_eq _ _ _ _ rfl rfl
theorem v57  (σ : hbM) (x1 : Int32) : hb_ev hbSH 57 [.ref 50, .int x1] σ = hb_run hbSH 57 (0, [.ref 50, .int x1, .null, .null, .null], [], σ) := hb_ev_eq _ _ _ _ rfl rfl
theorem v58  (σ : hbM) (x1 : Int32) : hb_ev hbSH 58 [.ref 50, .int x1] σ = hb_run hbSH 58 (0, [.ref 50, .int x1, .null], [], σ) := hb_ev_eq _ _ _ _ rfl rfl
theorem v59  (σ : hbM) (x1 : Int32) (x2 : Int32) : hb_ev hbSH 59 [.ref 50, .int x1, .int x2] σ = hb_run hbSH 59 (0, [.ref 50, .int x1, .int x2], [], σ) := hb_ev_eq _ _ _ _ rfl rfl
theorem v60  (σ : hbM) (x1 : Int32) : hb_ev hbSH 60 [.ref 50, .int x1] σ = hb_run hbSH 60 (0, [.ref 50, .int x1, .null, .null, .null, .null, .null], [], σ) := hb_ev_eq _ _ _ _ rfl rfl
theorem v61  (σ : hbM) (x1 : Int32) : hb_ev hbSH 61 [.ref 50, .int x1] σ = hb_run hbSH 61 (0, [.ref 50, .int x1], [], σ) := hb_ev_eq _ _ _ _ rfl rfl
theorem v62  (σ : hbM) (x1 : Int32) (x2 : Int32) : hb_ev hbSH 62 [.ref 50, .int x1, .int x2] σ = hb_run hbSH 62 (0, [.ref 50, .int x1, .int x2, .null, .null], [], σ) := hb_ev_eq _ _ _ _ rfl rfl
theorem v63  (σ : hbM) (x1 : Int32) : hb_ev hbSH 63 [.ref 49, .int x1] σ = hb_run hbSH 63 (0, [.ref 49, .int x1, .null, .null, .null, .null], [], σ) := hb_ev_eq _ _ _ _ rfl rfl
theorem v64  (σ : hbM) (x1 : Int32) (x2 : Int32) (x3 : Int32) : hb_ev hbSH 64 [.ref 49, .int x1, .int x2, .int x3] σ = hb_run hbSH 64 (0, [.ref 49, .int x1, .int x2, .int x3, .null, .null, .null], [], σ) := hb_ev_eq _ _ _ _ rfl rfl
theorem v65  (σ : hbM) (x1 : Int32) (x2 : Int32) (x3 : Int32) : hb_ev hbSH 65 [.ref 49, .int x1, .int x2, .int x3] σ = hb_run hbSH 65 (0, [.ref 49, .int x1, .int x2, .int x3, .null, .null, .null, .null, .null], [], σ) := hb_ev_eq _ _ _ _ rfl rfl
theorem v66  (σ : hbM) (x1 : Int32) : hb_ev hbSH 66 [.ref 49, .int x1] σ = hb_run hbSH 66 (0, [.ref 49, .int x1, .null, .null], [], σ) := hb_ev_eq _ _ _ _ rfl rfl
theorem v67  (σ : hbM) (x1 : Int32) (x2 : Int32) : hb_ev hbSH 67 [.ref 49, .int x1, .int x2] σ = hb_run hbSH 67 (0, [.ref 49, .int x1, .int x2, .null, .null, .null, .null], [], σ) := hb_ev_eq _ _ _ _ rfl rfl
theorem v68  (σ : hbM) (x1 : Int32) (x2 : Int32) : hb_ev hbSH 68 [.ref 49, .int x1, .int x2] σ = hb_run hbSH 68 (0, [.ref 49, .int x1, .int x2, .null], [], σ) := hb_ev_eq _ _ _ _ rfl rfl
theorem v69  (σ : hbM) (x0 : Int32) (x1 : Int32) (x2 : Int32) : hb_ev hbSH 69 [.int x0, .int x1, .int x2] σ = hb_run hbSH 69 (0, [.int x0, .int x1, .int x2], [], σ) := hb_ev_eq _ _ _ _ rfl rfl
theorem v71  (σ : hbM) (x1 : Int32) (x2 : Int32) (x3 : Int32) : hb_ev hbSH 71 [.ref 0, .int x1, .int x2, .int x3] σ = hb_run hbSH 71 (0, [.ref 0, .int x1, .int x2, .int x3, .null, .null], [], σ) := hb_ev_eq _ _ _ _ rfl rfl
theorem v72  (σ : hbM) (x1 : Int32) (x2 : Int32) (x3 : Int32) : hb_ev hbSH 72 [.ref 0, .int x1, .int x2, .int x3] σ = hb_run hbSH 72 (0, [.ref 0, .int x1, .int x2, .int x3], [], σ) := hb_ev_eq _ _ _ _ rfl rfl
theorem v73  (σ : hbM) : hb_ev hbSH 73 [.ref 0] σ = hb_run hbSH 73 (0, [.ref 0], [], σ) := hb_ev_eq _ _ _ _ rfl rfl
theorem v74  (σ : hbM) : hb_ev hbSH 74 [.ref 0] σ = hb_run hbSH 74 (0, [.ref 0], [], σ) := hb_ev_eq _ _ _ _ rfl rfl
theorem v199  (σ : hbM) (x1 : Int32) : hb_ev hbSH 199 [.ref 39, .int x1] σ = hb_run hbSH 199 (0, [.ref 39, .int x1, .null], [], σ) := hb_ev_eq _ _ _ _ rfl rfl
theorem v200  (σ : hbM) (x1 : Int32) (x2 : Int32) (x3 : Int32) : hb_ev hbSH 200 [.ref 31, .int x1, .int x2, .int x3] σ = hb_run hbSH 200 (0, [.ref 31, .int x1, .int x2, .int x3, .null], [], σ) := hb_ev_eq _ _ _ _ rfl rfl
theorem v201  (σ : hbM) (x1 : Int32) (x2 : Int32) (x3 : Int32) : hb_ev hbSH 201 [.ref 31, .int x1, .int x2, .int x3] σ = hb_run hbSH 201 (0, [.ref 31, .int x1, .int x2, .int x3, .null], [], σ) := hb_ev_eq _ _ _ _ rfl rfl
theorem v202  (σ : hbM) (x1 : Int32) (x2 : Int32) (x3 : Int32) : hb_ev hbSH 202 [.ref 31, .int x1, .int x2, .int x3] σ = hb_run hbSH 202 (0, [.ref 31, .int x1, .int x2, .int x3, .null], [], σ) := hb_ev_eq _ _ _ _ rfl rfl
theorem v203  (σ : hbM) (x1 : Int32) (x2 : Int32) (x3 : Int32) : hb_ev hbSH 203 [.ref 31, .int x1, .int x2, .int x3] σ = hb_run hbSH 203 (0, [.ref 31, .int x1, .int x2, .int x3, .null], [], σ) := hb_ev_eq _ _ _ _ rfl rfl
theorem v82  (σ : hbM) (x1 : Int64) (x3 : Int32) : hb_ev hbSH 82 [.ref 13, .long x1, .int x3] σ = hb_run hbSH 82 (0, [.ref 13, .long x1, .null, .int x3], [], σ) := hb_ev_eq _ _ _ _ rfl rfl
theorem v83  (σ : hbM) : hb_ev hbSH 83 [.ref 13] σ = hb_run hbSH 83 (0, [.ref 13], [], σ) := hb_ev_eq _ _ _ _ rfl rfl
theorem v84  (σ : hbM) : hb_ev hbSH 84 [.ref 13] σ = hb_run hbSH 84 (0, [.ref 13], [], σ) := hb_ev_eq _ _ _ _ rfl rfl
theorem v85  (σ : hbM) (x1 : Int32) (x2 : Int32) : hb_ev hbSH 85 [.ref 13, .int x1, .int x2] σ = hb_run hbSH 85 (0, [.ref 13, .int x1, .int x2], [], σ) := hb_ev_eq _ _ _ _ rfl rfl
theorem v86  (σ : hbM) (x1 : Int32) (x2 : Int32) : hb_ev hbSH 86 [.ref 13, .int x1, .int x2] σ = hb_run hbSH 86 (0, [.ref 13, .int x1, .int x2, .null], [], σ) := hb_ev_eq _ _ _ _ rfl rfl
theorem v87  (σ : hbM) (x1 : Int32) (x2 : Int32) (x3 : Int32) : hb_ev hbSH 87 [.ref 13, .int x1, .int x2, .int x3] σ = hb_run hbSH 87 (0, [.ref 13, .int x1, .int x2, .int x3, .null, .null], [], σ) := hb_ev_eq _ _ _ _ rfl rfl
theorem v88  (σ : hbM) (x1 : Int32) : hb_ev hbSH 88 [.ref 13, .int x1] σ = hb_run hbSH 88 (0, [.ref 13, .int x1], [], σ) := hb_ev_eq _ _ _ _ rfl rfl
theorem v89  (σ : hbM) (x1 : Int32) (x2 : Int32) : hb_ev hbSH 89 [.ref 13, .int x1, .int x2] σ = hb_run hbSH 89 (0, [.ref 13, .int x1, .int x2], [], σ) := hb_ev_eq _ _ _ _ rfl rfl
theorem v91  (σ : hbM) (x1 : Int32) (x2 : Int32) : hb_ev hbSH 91 [.ref 13, .int x1, .int x2] σ = hb_run hbSH 91 (0, [.ref 13, .int x1, .int x2], [], σ) := hb_ev_eq _ _ _ _ rfl rfl
theorem v92  (σ : hbM) (x1 : Int32) (x2 : Int32) (x3 : Int32) : hb_ev hbSH 92 [.ref 13, .int x1, .int x2, .int x3] σ = hb_run hbSH 92 (0, [.ref 13, .int x1, .int x2, .int x3], [], σ) := hb_ev_eq _ _ _ _ rfl rfl
theorem v93  (σ : hbM) (x1 : Int32) (x2 : Int32) : hb_ev hbSH 93 [.ref 13, .int x1, .int x2] σ = hb_run hbSH 93 (0, [.ref 13, .int x1, .int x2], [], σ) := hb_ev_eq _ _ _ _ rfl rfl
theorem v94  (σ : hbM) (x1 : Int32) (x2 : Int32) (x3 : Int32) : hb_ev hbSH 94 [.ref 13, .int x1, .int x2, .int x3] σ = hb_run hbSH 94 (0, [.ref 13, .int x1, .int x2, .int x3], [], σ) := hb_ev_eq _ _ _ _ rfl rfl
theorem v95  (σ : hbM) (x1 : Int32) (x2 : Int32) : hb_ev hbSH 95 [.ref 13, .int x1, .int x2] σ = hb_run hbSH 95 (0, [.ref 13, .int x1, .int x2], [], σ) := hb_ev_eq _ _ _ _ rfl rfl
theorem v96  (σ : hbM) (x1 : Int32) (x2 : Int32) : hb_ev hbSH 96 [.ref 13, .int x1, .int x2] σ = hb_run hbSH 96 (0, [.ref 13, .int x1, .int x2], [], σ) := hb_ev_eq _ _ _ _ rfl rfl
theorem v97  (σ : hbM) (x1 : Int32) (x2 : Int32) (x3 : Int32) : hb_ev hbSH 97 [.ref 13, .int x1, .int x2, .int x3] σ = hb_run hbSH 97 (0, [.ref 13, .int x1, .int x2, .int x3], [], σ) := hb_ev_eq _ _ _ _ rfl rfl
theorem v98  (σ : hbM) (x1 : Int32) (x2 : Int32) : hb_ev hbSH 98 [.ref 13, .int x1, .int x2] σ = hb_run hbSH 98 (0, [.ref 13, .int x1, .int x2, .null], [], σ) := hb_ev_eq _ _ _ _ rfl rfl
theorem v99  (σ : hbM) (x1 : Int32) : hb_ev hbSH 99 [.ref 13, .int x1] σ = hb_run hbSH 99 (0, [.ref 13, .int x1], [], σ) := hb_ev_eq _ _ _ _ rfl rfl
theorem v100  (σ : hbM) (x1 : Int32) (x2 : Int32) : hb_ev hbSH 100 [.ref 13, .int x1, .int x2] σ = hb_run hbSH 100 (0, [.ref 13, .int x1, .int x2], [], σ) := hb_ev_eq _ _ _ _ rfl rfl
theorem v101  (σ : hbM) (x1 : Int32) (x2 : Int32) : hb_ev hbSH 101 [.ref 13, .int x1, .int x2] σ = hb_run hbSH 101 (0, [.ref 13, .int x1, .int x2], [], σ) := hb_ev_eq _ _ _ _ rfl rfl
theorem v102  (σ : hbM) (x1 : Int32) : hb_ev hbSH 102 [.ref 13, .int x1] σ = hb_run hbSH 102 (0, [.ref 13, .int x1], [], σ) := hb_ev_eq _ _ _ _ rfl rfl
theorem v103  (σ : hbM) (x1 : Int32) : hb_ev hbSH 103 [.ref 13, .int x1] σ = hb_run hbSH 103 (0, [.ref 13, .int x1], [], σ) := hb_ev_eq _ _ _ _ rfl rfl
theorem v104  (σ : hbM) : hb_ev hbSH 104 [.ref 13] σ = hb_run hbSH 104 (0, [.ref 13], [], σ) := hb_ev_eq _ _ _ _ rfl rfl
theorem v105  (σ : hbM) (x1 : Int32) : hb_ev hbSH 105 [.ref 13, .int x1] σ = hb_run hbSH 105 (0, [.ref 13, .int x1], [], σ) := hb_ev_eq _ _ _ _ rfl rfl
theorem v106  (σ : hbM) (x1 : Int32) : hb_ev hbSH 106 [.ref 13, .int x1] σ = hb_run hbSH 106 (0, [.ref 13, .int x1], [], σ) := hb_ev_eq _ _ _ _ rfl rfl
theorem v108  (σ : hbM) (x0 : Int32) : hb_ev hbSH 108 [.int x0] σ = hb_run hbSH 108 (0, [.int x0], [], σ) := hb_ev_eq _ _ _ _ rfl rfl
theorem v109  (σ : hbM) (x0 : Int32) : hb_ev hbSH 109 [.int x0] σ = hb_run hbSH 109 (0, [.int x0], [], σ) := hb_ev_eq _ _ _ _ rfl rfl
theorem v112  (σ : hbM) (x0 : Int64) (x2 : Int64) (x4 : Int64) : hb_ev hbSH 112 [.long x0, .long x2, .long x4] σ = hb_run hbSH 112 (0, [.long x0, .null, .long x2, .null, .long x4, .null], [], σ) := hb_ev_eq _ _ _ _ rfl rfl
theorem v113  (σ : hbM) (x1 : Int32) : hb_ev hbSH 113 [.ref 54, .int x1] σ = hb_run hbSH 113 (0, [.ref 54, .int x1], [], σ) := hb_ev_eq _ _ _ _ rfl rfl
theorem v114  (σ : hbM) (x0 : Int32) : hb_ev hbSH 114 [.int x0] σ = hb_run hbSH 114 (0, [.int x0], [], σ) := hb_ev_eq _ _ _ _ rfl rfl
theorem v115  (σ : hbM) (x1 : Int32) (x2 : Int32) (x3 : Int32) : hb_ev hbSH 115 [.ref 54, .int x1, .int x2, .int x3] σ = hb_run hbSH 115 (0, [.ref 54, .int x1, .int x2, .int x3, .null], [], σ) := hb_ev_eq _ _ _ _ rfl rfl
theorem v116  (σ : hbM) (x1 : Int32) (x2 : Int32) (x3 : Int32) : hb_ev hbSH 116 [.ref 54, .int x1, .int x2, .int x3] σ = hb_run hbSH 116 (0, [.ref 54, .int x1, .int x2, .int x3], [], σ) := hb_ev_eq _ _ _ _ rfl rfl
theorem v117  (σ : hbM) (x1 : Int32) (x2 : Int32) (x3 : Int32) (x4 : Int32) (x5 : Int32) : hb_ev hbSH 117 [.ref 54, .int x1, .int x2, .int x3, .int x4, .int x5] σ = hb_run hbSH 117 (0, [.ref 54, .int x1, .int x2, .int x3, .int x4, .int x5, .null, .null, .null], [], σ) := hb_ev_eq _ _ _ _ rfl rfl
theorem v118  (σ : hbM) (x1 : Int32) : hb_ev hbSH 118 [.ref 54, .int x1] σ = hb_run hbSH 118 (0, [.ref 54, .int x1], [], σ) := hb_ev_eq _ _ _ _ rfl rfl
theorem v119  (σ : hbM) (x1 : Int64) (x3 : Int32) : hb_ev hbSH 119 [.ref 54, .long x1, .int x3] σ = hb_run hbSH 119 (0, [.ref 54, .long x1, .null, .int x3, .null], [], σ) := hb_ev_eq _ _ _ _ rfl rfl
theorem v120  (σ : hbM) (x1 : Int32) : hb_ev hbSH 120 [.ref 54, .int x1] σ = hb_run hbSH 120 (0, [.ref 54, .int x1], [], σ) := hb_ev_eq _ _ _ _ rfl rfl
theorem v121  (σ : hbM) (x0 : Int32) : hb_ev hbSH 121 [.int x0] σ = hb_run hbSH 121 (0, [.int x0], [], σ) := hb_ev_eq _ _ _ _ rfl rfl
theorem v122  (σ : hbM) (x0 : Int32) : hb_ev hbSH 122 [.int x0] σ = hb_run hbSH 122 (0, [.int x0], [], σ) := hb_ev_eq _ _ _ _ rfl rfl
theorem v123  (σ : hbM) : hb_ev hbSH 123 [.ref 54] σ = hb_run hbSH 123 (0, [.ref 54, .null], [], σ) := hb_ev_eq _ _ _ _ rfl rfl
theorem v124  (σ : hbM) (x1 : Int32) : hb_ev hbSH 124 [.ref 54, .int x1] σ = hb_run hbSH 124 (0, [.ref 54, .int x1], [], σ) := hb_ev_eq _ _ _ _ rfl rfl
theorem v125  (σ : hbM) (x1 : Int32) : hb_ev hbSH 125 [.ref 54, .int x1] σ = hb_run hbSH 125 (0, [.ref 54, .int x1], [], σ) := hb_ev_eq _ _ _ _ rfl rfl
theorem v126  (σ : hbM) : hb_ev hbSH 126 [.ref 54] σ = hb_run hbSH 126 (0, [.ref 54, .null, .null, .null], [], σ) := hb_ev_eq _ _ _ _ rfl rfl
theorem v127  (σ : hbM) (x1 : Int32) : hb_ev hbSH 127 [.ref 54, .int x1] σ = hb_run hbSH 127 (0, [.ref 54, .int x1, .null, .null], [], σ) := hb_ev_eq _ _ _ _ rfl rfl
theorem v128  (σ : hbM) : hb_ev hbSH 128 [.ref 54] σ = hb_run hbSH 128 (0, [.ref 54, .null, .null], [], σ) := hb_ev_eq _ _ _ _ rfl rfl
theorem v129  (σ : hbM) (x1 : Int32) : hb_ev hbSH 129 [.ref 54, .int x1] σ = hb_run hbSH 129 (0, [.ref 54, .int x1, .null, .null, .null], [], σ) := hb_ev_eq _ _ _ _ rfl rfl
theorem v130  (σ : hbM) (x1 : Int32) : hb_ev hbSH 130 [.ref 54, .int x1] σ = hb_run hbSH 130 (0, [.ref 54, .int x1, .null], [], σ) := hb_ev_eq _ _ _ _ rfl rfl
theorem v131  (σ : hbM) : hb_ev hbSH 131 [.ref 54] σ = hb_run hbSH 131 (0, [.ref 54, .null], [], σ) := hb_ev_eq _ _ _ _ rfl rfl
theorem v132  (σ : hbM) : hb_ev hbSH 132 [.ref 54] σ = hb_run hbSH 132 (0, [.ref 54, .null, .null], [], σ) := hb_ev_eq _ _ _ _ rfl rfl
theorem v133  (σ : hbM) : hb_ev hbSH 133 [.ref 54] σ = hb_run hbSH 133 (0, [.ref 54], [], σ) := hb_ev_eq _ _ _ _ rfl rfl
theorem v134  (σ : hbM) : hb_ev hbSH 134 [.ref 54] σ = hb_run hbSH 134 (0, [.ref 54], [], σ) := hb_ev_eq _ _ _ _ rfl rfl
theorem v135  (σ : hbM) (x0 : Int32) : hb_ev hbSH 135 [.int x0] σ = hb_run hbSH 135 (0, [.int x0], [], σ) := hb_ev_eq _ _ _ _ rfl rfl
theorem v136  (σ : hbM) (x0 : Int32) : hb_ev hbSH 136 [.int x0] σ = hb_run hbSH 136 (0, [.int x0], [], σ) := hb_ev_eq _ _ _ _ rfl rfl
theorem v137  (σ : hbM) (x0 : Int32) : hb_ev hbSH 137 [.int x0] σ = hb_run hbSH 137 (0, [.int x0], [], σ) := hb_ev_eq _ _ _ _ rfl rfl
theorem v138  (σ : hbM) (x1 : Int32) (x2 : Int32) : hb_ev hbSH 138 [.ref 54, .int x1, .int x2] σ = hb_run hbSH 138 (0, [.ref 54, .int x1, .int x2], [], σ) := hb_ev_eq _ _ _ _ rfl rfl
theorem v139  (σ : hbM) (x1 : Int32) (x2 : Int32) : hb_ev hbSH 139 [.ref 54, .int x1, .int x2] σ = hb_run hbSH 139 (0, [.ref 54, .int x1, .int x2, .null], [], σ) := hb_ev_eq _ _ _ _ rfl rfl
theorem v140  (σ : hbM) (x1 : Int32) (x2 : Int32) (x3 : Int32) : hb_ev hbSH 140 [.ref 54, .int x1, .int x2, .int x3] σ = hb_run hbSH 140 (0, [.ref 54, .int x1, .int x2, .int x3, .null], [], σ) := hb_ev_eq _ _ _ _ rfl rfl
theorem v141  (σ : hbM) (x0 : Int32) (x1 : Int32) : hb_ev hbSH 141 [.int x0, .int x1] σ = hb_run hbSH 141 (0, [.int x0, .int x1], [], σ) := hb_ev_eq _ _ _ _ rfl rfl
theorem v142  (σ : hbM) (x1 : Int32) : hb_ev hbSH 142 [.ref 54, .int x1] σ = hb_run hbSH 142 (0, [.ref 54, .int x1, .null, .null, .null, .null], [], σ) := hb_ev_eq _ _ _ _ rfl rfl
theorem v143  (σ : hbM) (x1 : Int32) : hb_ev hbSH 143 [.ref 54, .int x1] σ = hb_run hbSH 143 (0, [.ref 54, .int x1], [], σ) := hb_ev_eq _ _ _ _ rfl rfl
theorem v144  (σ : hbM) (x1 : Int32) (x2 : Int32) : hb_ev hbSH 144 [.ref 54, .int x1, .int x2] σ = hb_run hbSH 144 (0, [.ref 54, .int x1, .int x2, .null], [], σ) := hb_ev_eq _ _ _ _ rfl rfl
theorem v145  (σ : hbM) (x1 : Int32) (x2 : Int32) : hb_ev hbSH 145 [.ref 54, .int x1, .int x2] σ = hb_run hbSH 145 (0, [.ref 54, .int x1, .int x2, .null, .null], [], σ) := hb_ev_eq _ _ _ _ rfl rfl
theorem v146  (σ : hbM) (x1 : Int32) : hb_ev hbSH 146 [.ref 54, .int x1] σ = hb_run hbSH 146 (0, [.ref 54, .int x1, .null, .null], [], σ) := hb_ev_eq _ _ _ _ rfl rfl
theorem v147  (σ : hbM) (x1 : Int32) : hb_ev hbSH 147 [.ref 54, .int x1] σ = hb_run hbSH 147 (0, [.ref 54, .int x1, .null, .null], [], σ) := hb_ev_eq _ _ _ _ rfl rfl
theorem v148  (σ : hbM) (x1 : Int32) (x2 : Int32) : hb_ev hbSH 148 [.ref 54, .int x1, .int x2] σ = hb_run hbSH 148 (0, [.ref 54, .int x1, .int x2], [], σ) := hb_ev_eq _ _ _ _ rfl rfl
theorem v149  (σ : hbM) (x1 : Int32) (x2 : Int32) (x3 : Int32) : hb_ev hbSH 149 [.ref 54, .int x1, .int x2, .int x3] σ = hb_run hbSH 149 (0, [.ref 54, .int x1, .int x2, .int x3, .null, .null], [], σ) := hb_ev_eq _ _ _ _ rfl rfl
theorem v150  (σ : hbM) (x1 : Int32) (x2 : Int32) (x3 : Int32) : hb_ev hbSH 150 [.ref 54, .int x1, .int x2, .int x3] σ = hb_run hbSH 150 (0, [.ref 54, .int x1, .int x2, .int x3, .null, .null], [], σ) := hb_ev_eq _ _ _ _ rfl rfl
theorem v151  (σ : hbM) (x1 : Int32) : hb_ev hbSH 151 [.ref 54, .int x1] σ = hb_run hbSH 151 (0, [.ref 54, .int x1], [], σ) := hb_ev_eq _ _ _ _ rfl rfl
theorem v152  (σ : hbM) (x1 : Int32) : hb_ev hbSH 152 [.ref 54, .int x1] σ = hb_run hbSH 152 (0, [.ref 54, .int x1, .null, .null, .null], [], σ) := hb_ev_eq _ _ _ _ rfl rfl
theorem v153  (σ : hbM) (x1 : Int32) (x2 : Int32) : hb_ev hbSH 153 [.ref 54, .int x1, .int x2] σ = hb_run hbSH 153 (0, [.ref 54, .int x1, .int x2, .null, .null, .null, .null, .null], [], σ) := hb_ev_eq _ _ _ _ rfl rfl
theorem v154  (σ : hbM) (x0 : Int32) (x1 : Int32) : hb_ev hbSH 154 [.int x0, .int x1] σ = hb_run hbSH 154 (0, [.int x0, .int x1], [], σ) := hb_ev_eq _ _ _ _ rfl rfl
theorem v155  (σ : hbM) (x1 : Int32) (x2 : Int32) : hb_ev hbSH 155 [.ref 54, .int x1, .int x2] σ = hb_run hbSH 155 (0, [.ref 54, .int x1, .int x2], [], σ) := hb_ev_eq _ _ _ _ rfl rfl
theorem v156  (σ : hbM) (x1 : Int32) (x2 : Int32) (x3 : Int32) : hb_ev hbSH 156 [.ref 54, .int x1, .int x2, .int x3] σ = hb_run hbSH 156 (0, [.ref 54, .int x1, .int x2, .int x3], [], σ) := hb_ev_eq _ _ _ _ rfl rfl
theorem v157  (σ : hbM) (x1 : Int32) : hb_ev hbSH 157 [.ref 54, .int x1] σ = hb_run hbSH 157 (0, [.ref 54, .int x1, .null], [], σ) := hb_ev_eq _ _ _ _ rfl rfl
theorem v158  (σ : hbM) (x1 : Int32) (x2 : Int32) : hb_ev hbSH 158 [.ref 54, .int x1, .int x2] σ = hb_run hbSH 158 (0, [.ref 54, .int x1, .int x2, .null, .null, .null, .null], [], σ) := hb_ev_eq _ _ _ _ rfl rfl
theorem v159  (σ : hbM) (x1 : Int32) : hb_ev hbSH 159 [.ref 54, .int x1] σ = hb_run hbSH 159 (0, [.ref 54, .int x1], [], σ) := hb_ev_eq _ _ _ _ rfl rfl
theorem v160  (σ : hbM) (x1 : Int32) (x2 : Int32) : hb_ev hbSH 160 [.ref 54, .int x1, .int x2] σ = hb_run hbSH 160 (0, [.ref 54, .int x1, .int x2, .null, .null, .null, .null, .null, .null], [], σ) := hb_ev_eq _ _ _ _ rfl rfl
theorem v161  (σ : hbM) : hb_ev hbSH 161 [.ref 54] σ = hb_run hbSH 161 (0, [.ref 54, .null, .null], [], σ) := hb_ev_eq _ _ _ _ rfl rfl
theorem v162  (σ : hbM) (x1 : Int32) : hb_ev hbSH 162 [.ref 54, .int x1] σ = hb_run hbSH 162 (0, [.ref 54, .int x1, .null, .null, .null], [], σ) := hb_ev_eq _ _ _ _ rfl rfl
theorem v163  (σ : hbM) (x1 : Int32) (x2 : Int32) (x3 : Int32) : hb_ev hbSH 163 [.ref 54, .int x1, .int x2, .int x3] σ = hb_run hbSH 163 (0, [.ref 54, .int x1, .int x2, .int x3, .null, .null, .null, .null], [], σ) := hb_ev_eq _ _ _ _ rfl rfl
theorem v164  (σ : hbM) (x1 : Int32) (x2 : Int32) : hb_ev hbSH 164 [.ref 54, .int x1, .int x2] σ = hb_run hbSH 164 (0, [.ref 54, .int x1, .int x2], [], σ) := hb_ev_eq _ _ _ _ rfl rfl
theorem v165  (σ : hbM) (x1 : Int32) (x2 : Int32) : hb_ev hbSH 165 [.ref 54, .int x1, .int x2] σ = hb_run hbSH 165 (0, [.ref 54, .int x1, .int x2, .null, .null, .null, .null, .null, .null], [], σ) := hb_ev_eq _ _ _ _ rfl rfl
theorem v166  (σ : hbM) (x1 : Int32) (x2 : Int32) : hb_ev hbSH 166 [.ref 54, .int x1, .int x2] σ = hb_run hbSH 166 (0, [.ref 54, .int x1, .int x2], [], σ) := hb_ev_eq _ _ _ _ rfl rfl
theorem v167  (σ : hbM) (x1 : Int32) (x2 : Int32) : hb_ev hbSH 167 [.ref 54, .int x1, .int x2] σ = hb_run hbSH 167 (0, [.ref 54, .int x1, .int x2, .null, .null, .null, .null], [], σ) := hb_ev_eq _ _ _ _ rfl rfl
theorem v168a  (σ : hbM) (x1 : Int32) (x2 : Int32) (x3 : Int32) : hb_ev hbSH 168 [.ref 54, .int x1, .int x2, .int x3, .ref 77] σ = hb_run hbSH 168 (0, [.ref 54, .int x1, .int x2, .int x3, .ref 77, .null, .null, .null, .null, .null, .null], [], σ) := hb_ev_eq _ _ _ _ rfl rfl
theorem v168b  (σ : hbM) (x1 : Int32) (x2 : Int32) (x3 : Int32) : hb_ev hbSH 168 [.ref 54, .int x1, .int x2, .int x3, .ref 78] σ = hb_run hbSH 168 (0, [.ref 54, .int x1, .int x2, .int x3, .ref 78, .null, .null, .null, .null, .null, .null], [], σ) := hb_ev_eq _ _ _ _ rfl rfl
theorem v169  (σ : hbM) (x1 : Int32) (x2 : Int32) (x3 : Int32) : hb_ev hbSH 169 [.ref 54, .int x1, .int x2, .int x3] σ = hb_run hbSH 169 (0, [.ref 54, .int x1, .int x2, .int x3, .null], [], σ) := hb_ev_eq _ _ _ _ rfl rfl
theorem v170  (σ : hbM) (x1 : Int32) (x2 : Int32) : hb_ev hbSH 170 [.ref 54, .int x1, .int x2] σ = hb_run hbSH 170 (0, [.ref 54, .int x1, .int x2, .null, .null], [], σ) := hb_ev_eq _ _ _ _ rfl rfl
theorem v171  (σ : hbM) (x0 : Int32) : hb_ev hbSH 171 [.int x0] σ = hb_run hbSH 171 (0, [.int x0], [], σ) := hb_ev_eq _ _ _ _ rfl rfl
theorem v172  (σ : hbM) (x1 : Int32) : hb_ev hbSH 172 [.ref 54, .int x1] σ = hb_run hbSH 172 (0, [.ref 54, .int x1], [], σ) := hb_ev_eq _ _ _ _ rfl rfl
theorem v173  (σ : hbM) (x1 : Int32) (x2 : Int32) : hb_ev hbSH 173 [.ref 54, .int x1, .int x2] σ = hb_run hbSH 173 (0, [.ref 54, .int x1, .int x2, .null, .null], [], σ) := hb_ev_eq _ _ _ _ rfl rfl
theorem v174  (σ : hbM) (x1 : Int32) : hb_ev hbSH 174 [.ref 54, .int x1] σ = hb_run hbSH 174 (0, [.ref 54, .int x1], [], σ) := hb_ev_eq _ _ _ _ rfl rfl
theorem v175  (σ : hbM) (x1 : Int32) : hb_ev hbSH 175 [.ref 54, .int x1] σ = hb_run hbSH 175 (0, [.ref 54, .int x1], [], σ) := hb_ev_eq _ _ _ _ rfl rfl
theorem v176  (σ : hbM) (x0 : Int32) (x1 : Int32) : hb_ev hbSH 176 [.int x0, .int x1] σ = hb_run hbSH 176 (0, [.int x0, .int x1], [], σ) := hb_ev_eq _ _ _ _ rfl rfl
theorem v177  (σ : hbM) (x1 : Int32) : hb_ev hbSH 177 [.ref 54, .int x1] σ = hb_run hbSH 177 (0, [.ref 54, .int x1], [], σ) := hb_ev_eq _ _ _ _ rfl rfl
theorem v178  (σ : hbM) (x1 : Int32) (x2 : Int32) : hb_ev hbSH 178 [.ref 54, .int x1, .int x2] σ = hb_run hbSH 178 (0, [.ref 54, .int x1, .int x2], [], σ) := hb_ev_eq _ _ _ _ rfl rfl
theorem v179  (σ : hbM) (x1 : Int32) : hb_ev hbSH 179 [.ref 54, .int x1] σ = hb_run hbSH 179 (0, [.ref 54, .int x1], [], σ) := hb_ev_eq _ _ _ _ rfl rfl
theorem v180  (σ : hbM) (x1 : Int32) : hb_ev hbSH 180 [.ref 54, .int x1] σ = hb_run hbSH 180 (0, [.ref 54, .int x1, .null, .null], [], σ) := hb_ev_eq _ _ _ _ rfl rfl
theorem v181  (σ : hbM) (x1 : Int32) : hb_ev hbSH 181 [.ref 54, .int x1] σ = hb_run hbSH 181 (0, [.ref 54, .int x1], [], σ) := hb_ev_eq _ _ _ _ rfl rfl
theorem v182  (σ : hbM) (x1 : Int32) (x2 : Int32) : hb_ev hbSH 182 [.ref 54, .int x1, .int x2] σ = hb_run hbSH 182 (0, [.ref 54, .int x1, .int x2], [], σ) := hb_ev_eq _ _ _ _ rfl rfl
theorem v183  (σ : hbM) (x1 : Int32) (x2 : Int32) : hb_ev hbSH 183 [.ref 54, .int x1, .int x2] σ = hb_run hbSH 183 (0, [.ref 54, .int x1, .int x2, .null, .null], [], σ) := hb_ev_eq _ _ _ _ rfl rfl
theorem v184  (σ : hbM) (x1 : Int32) (x2 : Int32) : hb_ev hbSH 184 [.ref 54, .int x1, .int x2] σ = hb_run hbSH 184 (0, [.ref 54, .int x1, .int x2], [], σ) := hb_ev_eq _ _ _ _ rfl rfl
theorem v185  (σ : hbM) (x1 : Int32) : hb_ev hbSH 185 [.ref 54, .int x1] σ = hb_run hbSH 185 (0, [.ref 54, .int x1], [], σ) := hb_ev_eq _ _ _ _ rfl rfl
theorem v186  (σ : hbM) (x1 : Int32) : hb_ev hbSH 186 [.ref 54, .int x1] σ = hb_run hbSH 186 (0, [.ref 54, .int x1, .null, .null], [], σ) := hb_ev_eq _ _ _ _ rfl rfl
theorem v187  (σ : hbM) : hb_ev hbSH 187 [.ref 54] σ = hb_run hbSH 187 (0, [.ref 54], [], σ) := hb_ev_eq _ _ _ _ rfl rfl
