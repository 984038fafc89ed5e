/-! the calls, one by one, as the law wants them -/
theorem fin_feed : ok_feed 64 Sim := by
  intro k tw tp D _ hI a1
  obtain ⟨r, D1, D2, h1, h2, h3⟩ := so_feed hI a1
  first | exact ⟨r, D1, D2, h1, h2, h3⟩ | exact ⟨r, r, D1, D2, h1, h2, h3⟩
theorem fin_told : ok_told 64 Sim := by
  intro k tw tp D _ hI a1
  obtain ⟨r, D1, D2, h1, h2, h3⟩ := so_told hI a1
  first | exact ⟨r, D1, D2, h1, h2, h3⟩ | exact ⟨r, r, D1, D2, h1, h2, h3⟩
theorem fin_person : ok_person 64 Sim := by
  intro k tw tp D _ hI a1 a2
  obtain ⟨r, D1, D2, h1, h2, h3⟩ := so_person hI a1 a2
  first | exact ⟨r, D1, D2, h1, h2, h3⟩ | exact ⟨r, r, D1, D2, h1, h2, h3⟩
theorem fin_row : ok_row 64 Sim := by
  intro k tw tp D _ hI a1 a2
  obtain ⟨r, D1, D2, h1, h2, h3⟩ := so_row hI a1 a2
  first | exact ⟨r, D1, D2, h1, h2, h3⟩ | exact ⟨r, r, D1, D2, h1, h2, h3⟩
theorem fin_coin : ok_coin 64 Sim := by
  intro k tw tp D _ hI a1
  obtain ⟨r, D1, D2, h1, h2, h3⟩ := so_coin hI a1
  first | exact ⟨r, D1, D2, h1, h2, h3⟩ | exact ⟨r, r, D1, D2, h1, h2, h3⟩
theorem fin_debt : ok_debt 64 Sim := by
  intro k tw tp D _ hI a1 a2
  obtain ⟨r, D1, D2, h1, h2, h3⟩ := so_debt hI a1 a2
  first | exact ⟨r, D1, D2, h1, h2, h3⟩ | exact ⟨r, r, D1, D2, h1, h2, h3⟩
theorem fin_hour : ok_hour 64 Sim := by
  intro k tw tp D _ hI a1
  obtain ⟨r, D1, D2, h1, h2, h3⟩ := so_hour hI a1
  first | exact ⟨r, D1, D2, h1, h2, h3⟩ | exact ⟨r, r, D1, D2, h1, h2, h3⟩
theorem fin_drift : ok_drift 64 Sim := by
  intro k tw tp D _ hI a1
  obtain ⟨r, D1, D2, h1, h2, h3⟩ := so_drift hI a1
  first | exact ⟨r, D1, D2, h1, h2, h3⟩ | exact ⟨r, r, D1, D2, h1, h2, h3⟩
theorem fin_give : ok_give 64 Sim := by
  intro k tw tp D _ hI a1 a2 a3
  obtain ⟨r, D1, D2, h1, h2, h3⟩ := so_give hI a1 a2 a3
  first | exact ⟨r, D1, D2, h1, h2, h3⟩ | exact ⟨r, r, D1, D2, h1, h2, h3⟩
theorem fin_change : ok_change 64 Sim := by
  intro k tw tp D _ hI a1 a2 a3
  obtain ⟨r, D1, D2, h1, h2, h3⟩ := so_change hI a1 a2 a3
  first | exact ⟨r, D1, D2, h1, h2, h3⟩ | exact ⟨r, r, D1, D2, h1, h2, h3⟩
theorem fin_firstShort : ok_firstShort 64 Sim := by
  intro k tw tp D _ hI a1
  obtain ⟨r, D1, D2, h1, h2, h3⟩ := so_firstShort hI a1
  first | exact ⟨r, D1, D2, h1, h2, h3⟩ | exact ⟨r, r, D1, D2, h1, h2, h3⟩
theorem fin_richest : ok_richest 64 Sim := by
  intro k tw tp D _ hI a1 a2
  obtain ⟨r, D1, D2, h1, h2, h3⟩ := so_richest hI a1 a2
  first | exact ⟨r, D1, D2, h1, h2, h3⟩ | exact ⟨r, r, D1, D2, h1, h2, h3⟩
theorem fin_shift : ok_shift 64 Sim := by
  intro k tw tp D _ hI a1 a2
  obtain ⟨r, D1, D2, h1, h2, h3⟩ := so_shift hI a1 a2
  first | exact ⟨r, D1, D2, h1, h2, h3⟩ | exact ⟨r, r, D1, D2, h1, h2, h3⟩
theorem fin_coins : ok_coins 64 Sim := by
  intro k tw tp D _ hI a1 a2
  obtain ⟨r, D1, D2, h1, h2, h3⟩ := so_coins hI a1 a2
  first | exact ⟨r, D1, D2, h1, h2, h3⟩ | exact ⟨r, r, D1, D2, h1, h2, h3⟩
theorem fin_strike : ok_strike 64 Sim := by
  intro k tw tp D _ hI a1
  obtain ⟨r, D1, D2, h1, h2, h3⟩ := so_strike hI a1
  first | exact ⟨r, D1, D2, h1, h2, h3⟩ | exact ⟨r, r, D1, D2, h1, h2, h3⟩
theorem fin_isFalse : ok_isFalse 64 Sim := by
  intro k tw tp D _ hI a1 a2 a3 a4 a5
  obtain ⟨r, D1, D2, h1, h2, h3⟩ := so_isFalse hI a1 a2 a3 a4 a5
  first | exact ⟨r, D1, D2, h1, h2, h3⟩ | exact ⟨r, r, D1, D2, h1, h2, h3⟩
theorem fin_prices : ok_prices 64 Sim := by
  intro k tw tp D _ hI a1 a2 a3 a4
  obtain ⟨r, D1, D2, h1, h2, h3⟩ := so_prices hI a1 a2 a3 a4
  first | exact ⟨r, D1, D2, h1, h2, h3⟩ | exact ⟨r, r, D1, D2, h1, h2, h3⟩
theorem fin_robbed : ok_robbed 64 Sim := by
  intro k tw tp D _ hI a1 a2 a3
  obtain ⟨r, D1, D2, h1, h2, h3⟩ := so_robbed hI a1 a2 a3
  first | exact ⟨r, D1, D2, h1, h2, h3⟩ | exact ⟨r, r, D1, D2, h1, h2, h3⟩
theorem fin_run : ok_run 64 Sim := by
  intro k tw tp D _ hI a1 a2
  obtain ⟨r, D1, D2, h1, h2, h3⟩ := so_run hI a1 a2
  first | exact ⟨r, D1, D2, h1, h2, h3⟩ | exact ⟨r, r, D1, D2, h1, h2, h3⟩
theorem fin_write : ok_write 64 Sim := by
  intro k tw tp D _ hI a1 a2
  obtain ⟨r, D1, D2, h1, h2, h3⟩ := so_write hI a1 a2
  first | exact ⟨r, D1, D2, h1, h2, h3⟩ | exact ⟨r, r, D1, D2, h1, h2, h3⟩
theorem fin_tear : ok_tear 64 Sim := by
  intro k tw tp D _ hI
  obtain ⟨r, D1, D2, h1, h2, h3⟩ := so_tear hI
  first | exact ⟨r, D1, D2, h1, h2, h3⟩ | exact ⟨r, r, D1, D2, h1, h2, h3⟩
theorem fin_judge : ok_judge 64 Sim := by
  intro k tw tp D _ hI
  obtain ⟨r, D1, D2, h1, h2, h3⟩ := so_judge hI
  first | exact ⟨r, D1, D2, h1, h2, h3⟩ | exact ⟨r, r, D1, D2, h1, h2, h3⟩
theorem fin_seed : ok_seed 64 Sim := by
  intro k tw tp D _ hI a1
  obtain ⟨r, D1, D2, h1, h2, h3⟩ := so_seed hI a1
  first | exact ⟨r, D1, D2, h1, h2, h3⟩ | exact ⟨r, r, D1, D2, h1, h2, h3⟩
theorem fin_keep : ok_keep 64 Sim := by
  intro k tw tp D _ hI a1
  obtain ⟨r, D1, D2, h1, h2, h3⟩ := so_keep hI a1
  first | exact ⟨r, D1, D2, h1, h2, h3⟩ | exact ⟨r, r, D1, D2, h1, h2, h3⟩
theorem fin_goBack : ok_goBack 64 Sim := by
  intro k tw tp D _ hI a1
  obtain ⟨r, D1, D2, h1, h2, h3⟩ := so_goBack hI a1
  first | exact ⟨r, D1, D2, h1, h2, h3⟩ | exact ⟨r, r, D1, D2, h1, h2, h3⟩
theorem fin_fault : ok_fault 64 Sim := by
  intro k tw tp D _ hI
  obtain ⟨r, h1, h2, h3⟩ := so_fault hI
  first | exact ⟨r, h1, h2, h3⟩ | exact ⟨r, r, h1, h2, h3⟩
theorem fin_capital : ok_capital 64 Sim := by
  intro k tw tp D _ hI
  obtain ⟨r, t1, D1, D2, h1, h2, h3⟩ := so_capital hI
  first | exact ⟨r, t1, D1, D2, h1, h2, h3⟩ | exact ⟨r, r, t1, D1, D2, h1, h2, h3⟩
theorem fin_life : ok_life 64 Sim := by
  intro k tw tp D _ hI a1 a2 a3
  exact so_life hI a1 a2 a3
